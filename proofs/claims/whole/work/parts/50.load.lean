/-! ===== load ===== -/
theorem wst_some {nn : Nat} : ∀ {R : List (Option Nat)} {i x : Nat}, inc nn i R → some x ∈ R → x < nn
  | [], i, x, _, h => by simp at h
  | none :: R, i, x, hi, h => by
    rcases List.mem_cons.mp h with h | h
    · cases h
    · exact wst_some (R := R) (i := i) hi h
  | some y :: R, i, x, hi, h => by
    rcases List.mem_cons.mp h with h | h
    · cases h; exact hi.2.1
    · exact wst_some (R := R) hi.2.2 h
theorem Uniq_load {n : Nat → Nat} {β ι : Nat → Nat → Nat} {ids f tn : Nat} {τ : Nat → Nat} (hU : Uniq n ι ids) (hf : f < 6) : Uniq (setF n f tn) (setF ι f (fun k => (conv (ι f) ids (wst (β f) τ (n f) tn 0 0)).getD k 0)) (ids + nw (wst (β f) τ (n f) tn 0 0)) ∧ Stay n ι ids (setF n f tn) (setF ι f (fun k => (conv (ι f) ids (wst (β f) τ (n f) tn 0 0)).getD k 0)) := by
  have hinc := wst_inc (β f) τ (n f) tn 0 0
  have hlen : (conv (ι f) ids (wst (β f) τ (n f) tn 0 0)).length = tn := by rw [conv_len, wst_len, Nat.sub_zero]
  have hinj : ∀ x y, x < n f → y < n f → ι f x = ι f y → x = y := fun x y hx hy e => (hU.1 f f x y hf hf hx hy e).2
  have hnd := conv_nodup (ι := ι f) (nn := n f) hinj hinc (fun x hx => hU.2 f x hf hx)
  have hv : ∀ k, k < tn → (∃ x, x < n f ∧ (conv (ι f) ids (wst (β f) τ (n f) tn 0 0)).getD k 0 = ι f x) ∨ (ids ≤ (conv (ι f) ids (wst (β f) τ (n f) tn 0 0)).getD k 0 ∧ (conv (ι f) ids (wst (β f) τ (n f) tn 0 0)).getD k 0 < ids + nw (wst (β f) τ (n f) tn 0 0)) := by
    intro k hk
    rcases conv_mem hinc (getD_mem (L := conv (ι f) ids (wst (β f) τ (n f) tn 0 0)) (k := k) (by omega)) with ⟨x, -, h2, h3⟩ | h1
    · exact Or.inl ⟨x, h2, h3⟩
    · exact Or.inr h1
  refine ⟨⟨fun g h k l hg hh hk hl e => ?_, fun g k hg hk => ?_⟩, fun g l hg hl => ?_⟩
  · by_cases hgf : g = f
    · subst hgf
      rw [setF_eq] at hk
      rw [setF_eq] at e
      by_cases hhg : h = g
      · subst hhg
        rw [setF_eq] at hl
        rw [setF_eq] at e
        exact ⟨rfl, nodup_getD hnd (by omega) (by omega) e⟩
      · rw [setF_ne hhg] at hl
        rw [setF_ne hhg] at e
        have h9 := hU.2 h l hh hl
        rcases hv k hk with ⟨x, hx, ex⟩ | h1
        · exact absurd (hU.1 h g l x hh hg hl hx (e.symm.trans ex)).1 hhg
        · have e' : (conv (ι g) ids (wst (β g) τ (n g) tn 0 0)).getD k 0 = ι h l := e
          omega
    · rw [setF_ne hgf] at hk
      rw [setF_ne hgf] at e
      by_cases hhf : h = f
      · subst hhf
        rw [setF_eq] at hl
        rw [setF_eq] at e
        have h9 := hU.2 g k hg hk
        rcases hv l hl with ⟨x, hx, ex⟩ | h1
        · exact absurd (hU.1 g h k x hg hh hk hx (e.trans ex)).1 hgf
        · have e' : ι g k = (conv (ι h) ids (wst (β h) τ (n h) tn 0 0)).getD l 0 := e
          omega
      · rw [setF_ne hhf] at hl
        rw [setF_ne hhf] at e
        exact hU.1 g h k l hg hh hk hl e
  · by_cases hgf : g = f
    · subst hgf
      rw [setF_eq] at hk ⊢
      show (conv (ι g) ids (wst (β g) τ (n g) tn 0 0)).getD k 0 < _
      rcases hv k hk with ⟨x, hx, ex⟩ | h1
      · have := hU.2 g x hg hx
        omega
      · exact h1.2
    · rw [setF_ne hgf] at hk ⊢
      have := hU.2 g k hg hk
      omega
  · by_cases hgf : g = f
    · subst hgf
      rw [setF_eq] at hl
      rw [setF_eq]
      rcases hv l hl with ⟨x, hx, ex⟩ | h1
      · exact Or.inl ⟨x, hx, ex⟩
      · exact Or.inr h1.1
    · rw [setF_ne hgf] at hl
      rw [setF_ne hgf]
      exact Or.inl ⟨l, hl, rfl⟩
theorem CW0.retold {w w' : Fw} {z : Nat} {n : Nat → Nat} {β ι : Nat → Nat → Nat} {M : Nat → List Fnd} {ℓ : List Lg} {tn : Nat} {τ : Nat → Nat} (h : CW0 w z n β ι M ℓ tn τ) (o : Out w w' (z + 106) (z + 106 + 36)) (hr : Rt w' (z + 106)) : CW0 w' z n β ι M ℓ tn τ := by
  obtain ⟨h2, h3, h4, h5, ⟨F, O, h6⟩, h7⟩ := h
  exact ⟨h2.frame (o _ (by omega)), fun f hf => (h3 f hf).frame (fun q q1 q2 => o q (by unfold sh at q1 q2; omega)), h4.frame (fun q q1 q2 => o q (by omega)), hr, ⟨F, O, h6.frame (fun q q1 q2 => o q (by omega))⟩, h7.frame (fun q q1 q2 => o q (by omega))⟩
theorem ML_load {A A1 : Nat → Nat → Int32} {n : Nat → Nat} {β ι : Nat → Nat → Nat} {f tn : Nat} {τ i1 : Nat → Nat} (hL : ML A n β ι) (hf : f < 6) (h32 : tn ≤ 32) (h1 : A1 1 = upd (A 1) f (nI tn)) (h2 : ∀ t, t < tn → A1 2 (32 * f + t) = nI (τ t) ∧ A1 3 (32 * f + t) = nI (i1 t)) (h3 : ∀ x, (x < 32 * f ∨ 32 * f + tn ≤ x) → A1 2 x = A 2 x ∧ A1 3 x = A 3 x) (hτ : ∀ t, t < tn → τ t < 256) (hi : ∀ t, t < tn → i1 t < 2 ^ 30) : ML A1 (setF n f tn) (setF β f τ) (setF ι f i1) := by
  intro g hg
  obtain ⟨b1, b2, b3⟩ := hL g hg
  by_cases hgf : g = f
  · subst hgf
    rw [setF_eq, setF_eq, setF_eq]
    exact ⟨h32, by rw [h1]; simp [upd], fun k hk => ⟨(h2 k hk).1, hτ k hk, (h2 k hk).2, hi k hk⟩⟩
  · rw [setF_ne hgf, setF_ne hgf, setF_ne hgf]
    refine ⟨b1, by rw [h1]; simp [upd, hgf, b2], fun k hk => ?_⟩
    obtain ⟨c1, c2⟩ := h3 (32 * g + k) (by omega)
    rw [c1, c2]
    exact b3 k hk
theorem step_load {z : Nat} : ∀ (j : Nat) (w : Fw) (x1 : Int32), j < 512 → Inv z j w → ∃ (r : Int32) (w1 w2 : Fw), fX6_load w z x1 = some (r, w1) ∧ isO w1 (z + 150) 7 = some () ∧ fX7_load w1 (z + 150) x1 = some (r, w2) ∧ Inv z (j + 1) w2 := by
  intro j w x1 hj hI
  obtain ⟨n, β, ι, M, ℓ, tn, τ, chg, day, ids, bad, wrk, hC, hM, hCo, hU, hc, hid, hday⟩ := id hI
  obtain ⟨hF, hW⟩ := hC.split
  have hT6 := hW.2.2.1
  have h40 := hT6.1
  -- what is left when it is refused
  have refuse : fX6_load w z x1 = fX6_load_b21 w z → (∀ w' : Fw, gI w' (z + 150) 7 30 = some (nI tn) → ∀ w'', pF w' (z + 150) 7 30 (.int 0) = some w'' → fX7_load w' (z + 150) x1 = fX7_load_b23 w'') → ∃ (r : Int32) (w1 w2 : Fw), fX6_load w z x1 = some (r, w1) ∧ isO w1 (z + 150) 7 = some () ∧ fX7_load w1 (z + 150) x1 = some (r, w2) ∧ Inv z (j + 1) w2 := by
    intro h6 h7
    obtain ⟨wa, ea, ta, oa⟩ := X5_shorten_q hT6 (Nat.zero_le tn)
    have hCa := hC.tape oa ta
    have hMa := hM.frame (w' := wa) (fun q q1 q2 => oa q (by omega))
    obtain ⟨S, A, q, s0, s1, s2, s3, s4, s5, s7, s8, hL, hG, hl, ht, hT⟩ := id hMa
    obtain ⟨wb, eb, qb, ob⟩ := q.p30 0
    refine ⟨-1, wa, wb, ?_, hMa.o, ?_, n, β, ι, M, ℓ, 0, τ, chg, day, ids, bad, wrk, ?_, ?_, hCo, hU, by omega, by omega, hday⟩
    · have ea' : fX5_shorten w (z + 104) 0 = some wa := ea
      rw [h6, fX6_load_b21]
      simp only [hF.g1, Option.bind_some, hT6.o, ea']
    · rw [h7 wa (by rw [q.g30, s8]) wb eb, fX7_load_b23]
    · exact CW.frame hCa (fun q q1 q2 => ob q (by omega))
    · exact ⟨_, A, qb, by simp [upd, s0], by simp [upd, s1], by simp [upd, s2], by simp [upd, s3], by simp [upd, s4], by simp [upd, s5], by simp [upd, s7], by simp [upd]; rfl, hL, hG, hl, by omega, fun i hi => by omega⟩
  have outF : (x1 < 0 ∨ nI 6 ≤ x1) → ∃ (r : Int32) (w1 w2 : Fw), fX6_load w z x1 = some (r, w1) ∧ isO w1 (z + 150) 7 = some () ∧ fX7_load w1 (z + 150) x1 = some (r, w2) ∧ Inv z (j + 1) w2 := by
    intro ho
    refine refuse ?_ ?_
    · simp only [fX6_load, hF.g1, hT6.o, X5_size_q hT6, (isFile_out w ho).1, Option.bind_some, if_true]
    · intro w' g w'' p
      simp only [fX7_load, g, p, (isFile_out w'' ho).2, Option.bind_some, if_true]
  rcases pk_ix x1 (n := 6) (by decide) with h1 | h1 | ⟨f, hf, rfl⟩
  · exact outF (Or.inl h1)
  · exact outF (Or.inr h1)
  · by_cases htn : tn ≤ 32
    · have hle : nI tn ≤ (32 : Int32) := nI_le (b := 32) htn (by decide)
      obtain ⟨hn, B, I, ra, rb, M', hab, hsh, hβ, hι, hR, hR'⟩ := hW.2.1 f hf
      have hshd : sh z f = z + 2 + 17 * f := rfl
      have hsrc : Src w (sh z f) (z + 104) (n f) tn (β f) (ι f) τ := ⟨⟨B, I, ra, rb, hsh, hβ, hι⟩, hT6, hn, htn⟩
      have n1 := X4_numbersOf_q hsh hβ hn (kd := 1) (by decide)
      rw [show nI 1 = (1 : Int32) from rfl] at n1
      have hrt := hW.2.2.2.1
      obtain ⟨Z0, D0, hz0⟩ := hrt.z
      generalize hRR : wst (β f) τ (n f) tn 0 0 = R at *
      have hRl : R.length = tn := by rw [← hRR, wst_len, Nat.sub_zero]
      have hkn := kp_nw R
      -- the class
      obtain ⟨wa, Za, Da, ea, sa, za, da, oa⟩ := X3_match_q (a := z + 106) (by omega) (by omega) hsrc hrt ids
      rw [hRR] at ea da
      have hWa := hW.retold oa za.rt
      have hFa := hF.frame (w' := wa) (oa z (by omega))
      obtain ⟨wb, eb, fb, ob⟩ := hFa.s7 (ids + nw R)
      have hWb := hWa.frame (w' := wb) (fun q q1 q2 => ob q (by omega))
      have hzb := za.frame (w' := wb) (fun q q1 q2 => ob q (by omega))
      obtain ⟨-, Bb, Ib, rab, rbb, Mb, habb, hshb, hβb, hιb, hRb, hRb'⟩ := hWb.2.1 f hf
      have hTb := hWb.2.2.1
      obtain ⟨wc, Bc, Ic, ec, sc, vc, oc⟩ := X4_retell_q (t := z + 104) (a := z + 106) (by omega) (by omega) htn hshb hTb hzb
      have hv30 : ∀ t, t < tn → (conv (ι f) ids R).getD t 0 < 2 ^ 30 := by
        intro t ht
        have hinc := wst_inc (β f) τ (n f) tn 0 0
        rw [hRR] at hinc
        rcases conv_mem hinc (getD_mem (L := conv (ι f) ids R) (k := t) (by rw [conv_len]; omega)) with ⟨x, -, h2, h3⟩ | h1
        · have := hU.2 f x hf h2; omega
        · omega
      have hSG : SG wc (sh z f) tn τ (fun k => (conv (ι f) ids R).getD k 0) (M f) := by
        refine ⟨htn, Bc, Ic, rab, rbb, Mb, habb, sc, fun k hk => ?_, fun k hk => ?_, hRb.frame (fun q q1 q2 => oc q (by omega)), hRb'.frame (fun q q1 q2 => oc q (by omega))⟩
        · exact ⟨(vc k hk).1, (hsrc.bt hk).2⟩
        · exact ⟨(vc k hk).2.trans (da k hk), hv30 k hk⟩
      have hWc := hWb.file hf hSG (oc.wide (by omega) (by omega))
      have fc := fb.out oc (by omega)
      have hTc := hWc.2.2.1
      obtain ⟨wd, ed, td, od⟩ := X5_shorten_q hTc (Nat.zero_le tn)
      have hCd := CW.tape ⟨fc, hWc⟩ od td
      obtain ⟨fd, hWd⟩ := hCd.split
      obtain ⟨we, ee, fe, we0, oe⟩ := X6_settle_q hf (nmsN (β f) 1 (n f)) fd hWd
      have e6 : fX6_load w z (nI f) = some (nI (kp R), we) := by
        have ed' : fX5_shorten wc (z + 104) 0 = some wd := ed
        have hsub : nI ids + (nI tn - nI (kp R)) = nI (ids + nw R) := by
          rw [pk_sub (show kp R ≤ tn by omega), nI_add, show tn - kp R = nw R by omega]
        rw [fX6_load]
        simp only [hF.g1, hT6.o, X5_size_q hT6, X6_isFile_in w hf, Option.bind_some, if_neg (show ¬ (1 : Int32) = 0 by decide), if_pos hle, hF.g0, hW.1.at hf, hsh.o, n1, hF.g2, hF.g7, hz0.o, ea, hFa.g7, hsub, eb, fb.g0, hWb.1.at hf, fb.g1, fb.g2, hshb.o, ec, fc.g1, hTc.o, ed', fd.o, ee]
      have hOe : Out w we z (z + 150) := (((((oa.wide (by omega) (by omega)).tr (ob.wide (by omega) (by omega))).tr (oc.wide (by omega) (by omega))).tr (od.wide (by omega) (by omega)))).tr oe
      have hMe := hM.frame (w' := we) (fun q q1 q2 => hOe q (by omega))
      obtain ⟨U1, U2⟩ := Uniq_load (β := β) (tn := tn) (τ := τ) hU hf
      rw [hRR] at U1 U2
      -- the reference
      obtain ⟨S, A, q, s0, s1, s2, s3, s4, s5, s7, s8, hL, hG, hl, ht, hT⟩ := id hMe
      obtain ⟨v1, g1, q1, o1⟩ := q.p30 0
      obtain ⟨v2, A2, g2, q2, a2, hH2, o2⟩ := X7_begins_q q1 (show upd S 8 0 5 = nI (flF M 6).length by simp [upd, s5]) hG
      have hL2 : ML A2 n β ι := by
        intro g hg
        rw [a2 1 (by omega), a2 2 (by omega), a2 3 (by omega)]
        exact hL g hg
      have hms : MSrc A2 f (n f) tn (β f) (ι f) τ := by
        obtain ⟨c1, c2, c3⟩ := hL2 f hf
        exact ⟨c2, fun i hi => c3 i hi, by rw [a2 20 (by omega)]; exact hT, hn, htn⟩
      obtain ⟨v3, A3, g3, q3, a3, t3, o3⟩ := X7_commons_q hf hms q2
      have hms3 := hms.congr (a3 1 (by decide)) (a3 2 (by decide)) (a3 3 (by decide)) (a3 20 (by decide))
      obtain ⟨v4, A4, g4, q4, a4, n4, o4⟩ := X7_none_loop (f := f) (A := A3) htn (nmsN (β f) 1 (n f)) tn 0 1000 v3 A3 (by omega) (by omega) q3 (fun _ _ => rfl) (fun i hi => by omega)
      obtain ⟨v5, A5, g5, q5, a5, -, m5, o5⟩ := X7_walk hf hms3 t3 (nmsN (β f) 1 (n f)) (n f + tn) 1000 0 0 0 v4 A4 (by omega) (by omega) (Nat.zero_le _) (Nat.zero_le _) q4 a4 (fun k _ hk => n4 k hk)
      rw [hRR] at g5 m5
      have c20 : A5 20 = A 20 := by rw [a5 20 (by decide), a3 20 (by decide), a2 20 (by omega)]
      obtain ⟨v6, S6, A6, g6, q6, r1, r2, r3, r4, r5, r6, o6⟩ := X7_tell (ι := ι f) (c := τ) hf htn (nmsN (β f) 1 (n f)) (nI (kp R)) tn 0 1000 v5 _ A5 R ids (by omega) hRl (by omega) q5 (by simp [upd, s2]) (by rw [c20]; exact hT) (fun t ht => by
        have h9 := m5 t (by omega)
        exact h9) (fun x hx => by
        have hinc := wst_inc (β f) τ (n f) tn 0 0
        rw [hRR] at hinc
        have := hU.2 f x hf (wst_some hinc hx)
        omega)
      have b1 : A5 1 = A2 1 := by rw [a5 1 (by decide), a3 1 (by decide)]
      have b2 : A5 2 = A2 2 := by rw [a5 2 (by decide), a3 2 (by decide)]
      have b3 : A5 3 = A2 3 := by rw [a5 3 (by decide), a3 3 (by decide)]
      have bb : ∀ j, j ≠ 1 → j ≠ 2 → j ≠ 3 → j ≠ 21 → j ≠ 22 → A6 j = A2 j := fun j j1 j2 j3 j21 j22 => by rw [r3 j j1 j2 j3 j22, a5 j j22, a3 j j21]
      have hL6 : ML A6 (setF n f tn) (setF β f τ) (setF ι f (fun k => (conv (ι f) ids R).getD k 0)) := by
        refine ML_load hL2 hf htn (by rw [r4, b1]) (fun t ht => ?_) (fun x hx => ?_) (fun t ht => (hsrc.bt ht).2) hv30
        · have h9 := r5 t ht
          rw [Nat.add_zero, Nat.zero_add] at h9
          exact h9
        · have h9 := r6 x (by omega)
          rw [b2, b3] at h9
          exact h9
      have sr : ∀ t, t ≠ 2 → t ≠ 0 → t ≠ 6 → t ≠ 8 → S6 t = S t := fun t t2 t0 t6 t8 => (r1 t t2).trans (by simp [upd, t0, t6, t8])
      obtain ⟨wf, ef, mf, of⟩ := X7_settled (n0 := n) (β0 := β) (ι0 := ι) (chg := chg) (ids0 := ids) (ids := ids + nw R) (day := day) (tn := 0) (τ := τ) (bad := bad) (M := M) (ℓ := ℓ) hf q6 ((r1 0 (by omega)).trans (by simp [upd, s0, nI_1])) ((sr 1 (by omega) (by omega) (by omega) (by omega)).trans s1) r2 ((sr 3 (by omega) (by omega) (by omega) (by omega)).trans s3) ((r1 6 (by omega)).trans (by simp [upd, s5])) ((sr 7 (by omega) (by omega) (by omega) (by omega)).trans s7) ((r1 8 (by omega)).trans (by simp [upd]; rfl)) hL6 (by
        refine ⟨hH2.1, fun i hi => ?_⟩
        rw [bb 11 (by omega) (by omega) (by omega) (by omega) (by omega), bb 12 (by omega) (by omega) (by omega) (by omega) (by omega), bb 13 (by omega) (by omega) (by omega) (by omega) (by omega), bb 14 (by omega) (by omega) (by omega) (by omega) (by omega), bb 15 (by omega) (by omega) (by omega) (by omega) (by omega)]
        exact hH2.2 i hi) (by
        refine ⟨hl.1, fun i hi => ?_⟩
        rw [bb 16 (by omega) (by omega) (by omega) (by omega) (by omega), bb 17 (by omega) (by omega) (by omega) (by omega) (by omega), bb 18 (by omega) (by omega) (by omega) (by omega) (by omega), bb 19 (by omega) (by omega) (by omega) (by omega) (by omega), a2 16 (by omega), a2 17 (by omega), a2 18 (by omega), a2 19 (by omega)]
        exact hl.2 i hi) (by omega) (fun i hi => by omega) hCo hU U1 (by omega) (by omega) U2 setF_other
      have e7 : fX7_load we (z + 150) (nI f) = some (nI (kp R), wf) := by
        rw [nI_0] at g4
        have g5' : fX7_load_L73 1000 v4 (z + 150) (nI f) (nI tn) (nmsN (β f) 1 (n f)) 0 0 0 = fX7_load_b214 v5 (z + 150) (nI f) (nI tn) (nmsN (β f) 1 (n f)) (nI (0 + kp R)) := g5
        rw [Nat.zero_add] at g5'
        have g6' : fX7_load_L217 1000 v5 (z + 150) (nI f) (nI tn) (nmsN (β f) 1 (n f)) (nI (kp R)) 0 = _ := g6
        simp only [fX7_load, q.g30, s8, g1, X7_isFile_in v1 hf, Option.bind_some, if_neg (show ¬ (1 : Int32) = 0 by decide), if_pos hle, q1.o, g2, q2.o, X7_defs_q q2 hL2 hf, g3, g4, g5', fX7_load_b214, g6', ef]
      have hOf : Out we wf (z + 150) (z + 150 + 23) := (((((o1.tr o2).tr o3).tr o4).tr o5).tr o6).tr of
      refine ⟨nI (kp R), we, wf, e6, hMe.o, e7, _, _, _, _, _, _, _, chg + 1, day, ids + nw R, bad, _, ?_, mf, ?_, U1, by omega, by omega, hday⟩
      · exact CW.frame ⟨fe, we0⟩ (fun q q1 q2 => hOf q (by omega))
      · exact chg_cons hCo (wset_hs hf setF_other)
    · have hle : ¬ nI tn ≤ (32 : Int32) := nI_ge (a := 32) (by omega) (by omega)
      refine refuse ?_ ?_
      · simp only [fX6_load, hF.g1, hT6.o, X5_size_q hT6, X6_isFile_in w hf, Option.bind_some, if_neg (show ¬ (1 : Int32) = 0 by decide), if_neg hle]
      · intro w' g w'' p
        simp only [fX7_load, g, p, X7_isFile_in w'' hf, Option.bind_some, if_neg (show ¬ (1 : Int32) = 0 by decide), if_neg hle]
