/-! ===== bad ===== -/
def badP (n : Nat → Nat) (β : Nat → Nat → Nat) (t : Int32) (f : Nat) : Bool := (List.range (n f)).any fun k => decide (β f k / 32 = 0) && bt t (β f k % 32)
theorem badP_and {n : Nat → Nat} {β : Nat → Nat → Nat} {t : Int32} {f : Nat} : nmsN (β f) 0 (n f) &&& t = 0 ↔ badP n β t f = false := by
  constructor
  · intro h
    cases hb : badP n β t f with
    | false => rfl
    | true =>
      unfold badP at hb
      obtain ⟨k, hk, hp⟩ := any_iff.mp hb
      simp only [Bool.and_eq_true, decide_eq_true_eq] at hp
      have hx : β f k % 32 < 32 := by omega
      have h1 : bt (nmsN (β f) 0 (n f) &&& t) (β f k % 32) = true := by
        rw [b_and, hp.2, bt_nms hx, Bool.and_true]
        unfold hasK
        rw [any_iff]
        exact ⟨k, hk, by simp [hp.1]⟩
      rw [h, b_0] at h1
      cases h1
  · intro h
    apply b_ext
    intro i hi
    rw [b_and, b_0, bt_nms hi]
    cases hb : bt t i with
    | false => simp
    | true =>
      rw [Bool.and_true]
      cases hk : hasK (β f) (n f) 0 i with
      | false => rfl
      | true =>
        unfold hasK at hk
        obtain ⟨k, hkn, hp⟩ := any_iff.mp hk
        simp only [Bool.and_eq_true, decide_eq_true_eq] at hp
        have : badP n β t f = true := by
          unfold badP
          rw [any_iff]
          exact ⟨k, hkn, by rw [hp.2]; simp [hp.1, hb]⟩
        rw [h] at this
        cases this
theorem or_idem (a b : Int32) : (a ||| b) ||| b = a ||| b := by
  apply b_ext
  intro i hi
  rw [b_or, b_or]
  cases bt a i <;> cases bt b i <;> rfl
theorem X6_bad_loop {w : Fw} {z : Nat} {n : Nat → Nat} {β : Nat → Nat → Nat} {chg day ids : Nat} {bad wrk : Int32} (hF : FHo w z chg day ids bad wrk) (h : FO w (z + 1) (sh z) n β) (t : Int32) : ∀ (q f fuel : Nat), f + q = 6 → q < fuel → fX6_bad_L27 fuel w z t (bitsN (badP n β t) f) (nI f) = (fX6_work w z (bitsN (badP n β t) 6)).bind fun w1 => (zb 1).bind fun z2 => some (z2, w1)
  | q, f, 0, h1, h2 => by omega
  | 0, f, fuel + 1, h1, h2 => by
    have : f = 6 := by omega
    subst this
    rw [fX6_bad_L27, if_pos (by decide), hF.o, Option.bind_some]
  | q + 1, f, fuel + 1, h1, h2 => by
    have hf : f < 6 := by omega
    have hle : ¬ (6 : Int32) ≤ nI f := nI_ge (b := 6) hf (by decide)
    obtain ⟨hr, hn, B, I, ra, rb, hsh, hβ⟩ := h f hf
    have n0 := X4_numbersOf_q hsh hβ hn (kd := 0) (by decide)
    rw [show nI 0 = (0 : Int32) from rfl] at n0
    have ih := X6_bad_loop hF h t q (f + 1) fuel (by omega) (by omega)
    rw [fX6_bad_L27, if_neg hle]
    simp only [hF.g0, hr, Option.bind_some, hsh.o, n0, fX6_bad_b57, nI_1, badP_and]
    rw [← ih, bitsN]
    cases hb : badP n β t f <;> simp
theorem X7_bad_lines {m : Nat} {n : Nat → Nat} {β ι : Nat → Nat → Nat} {A : Nat → Nat → Int32} (hL : ML A n β ι) (t : Int32) {f : Nat} (hf : f < 6) (K : Fw → Nat → Int32 → Int32 → Option (Int32 × Fw)) {S0 : Nat → Int32} : ∀ (q k fuel : Nat) (w : Fw) (S : Nat → Int32), k + q = n f → q < fuel → Mo w m S A → (∀ s, s ≠ 4 → S s = S0 s) → S 4 = (if (List.range k).any (fun k => decide (β f k / 32 = 0) && bt t (β f k % 32)) then bitsN (badP n β t) f ||| ((1 : Int32) <<< (nI f &&& 31)) else bitsN (badP n β t) f) → ∃ w1 S1, fX7_bad_L42 K fuel w m t (nI f) (nI k) = K w1 m t (nI (f + 1)) ∧ Mo w1 m S1 A ∧ (∀ s, s ≠ 4 → S1 s = S0 s) ∧ S1 4 = bitsN (badP n β t) (f + 1) ∧ Out w w1 m (m + 23)
  | q, k, 0, w, S, h1, h2, h, hs, h4 => by omega
  | 0, k, fuel + 1, w, S, h1, h2, h, hs, h4 => by
    have h32 := (hL f hf).1
    have hkn : k = n f := by omega
    subst hkn
    rw [fX7_bad_L42]
    simp only [h.g0, Option.bind_some, X7_many h hL hf, if_pos (nI_le (Nat.le_refl (n f)) (by omega)), nI_1]
    exact ⟨w, S, rfl, h, hs, h4, Out.rf⟩
  | q + 1, k, fuel + 1, w, S, h1, h2, h, hs, h4 => by
    have h32 := (hL f hf).1
    have hle : ¬ nI (n f) ≤ nI k := nI_ge (by omega) (by omega)
    have hb := ((hL f hf).2.2 k (by omega)).2.1
    have hx : β f k % 32 < 32 := by omega
    rw [fX7_bad_L42]
    simp only [h.g0, Option.bind_some, X7_many h hL hf, hle, if_false, h.o, X7_kind_q h hL hf (show k < n f by omega), X7_number_q h hL hf (show k < n f by omega), nI_is0 (show β f k / 32 < 2 ^ 31 by omega), bit_s t hx, fX7_bad_b90, nI_1]
    by_cases hk0 : β f k / 32 = 0
    · rw [if_pos hk0]
      cases hbt : bt t (β f k % 32) with
      | true =>
        rw [if_pos rfl, h.g7, Option.bind_some]
        obtain ⟨w1, e1, q1, o1⟩ := h.p7 (S 4 ||| ((1 : Int32) <<< (nI f &&& 31)))
        rw [e1, Option.bind_some]
        obtain ⟨w2, S2, e2, q2, s2, t2, o2⟩ := X7_bad_lines (S0 := S0) hL t hf K q (k + 1) fuel w1 _ (by omega) (by omega) q1 (fun s hs' => by simp [upd, hs', hs s hs']) (by
          rw [any_succ]
          have : ((List.range k).any (fun k => decide (β f k / 32 = 0) && bt t (β f k % 32)) || (decide (β f k / 32 = 0) && bt t (β f k % 32))) = true := by rw [hbt, decide_eq_true hk0]; simp
          rw [if_pos this]
          have hu : upd S 4 (S 4 ||| ((1 : Int32) <<< (nI f &&& 31))) 4 = S 4 ||| ((1 : Int32) <<< (nI f &&& 31)) := by simp [upd]
          rw [hu, h4]
          split
          · exact or_idem _ _
          · rfl)
        exact ⟨w2, S2, e2, q2, s2, t2, o1.tr o2⟩
      | false =>
        rw [if_neg (by decide)]
        exact X7_bad_lines (S0 := S0) hL t hf K q (k + 1) fuel w S (by omega) (by omega) h hs (by rw [any_succ, hbt, Bool.and_false, Bool.or_false]; exact h4)
    · rw [if_neg hk0]
      exact X7_bad_lines (S0 := S0) hL t hf K q (k + 1) fuel w S (by omega) (by omega) h hs (by rw [any_succ, decide_eq_false hk0, Bool.false_and, Bool.or_false]; exact h4)
theorem X7_bad_files {m : Nat} {n : Nat → Nat} {β ι : Nat → Nat → Nat} {A : Nat → Nat → Int32} (hL : ML A n β ι) (t : Int32) {S0 : Nat → Int32} : ∀ (q f fuel : Nat) (w : Fw) (S : Nat → Int32), f + q = 6 → q < fuel → Mo w m S A → (∀ s, s ≠ 4 → S s = S0 s) → S 4 = bitsN (badP n β t) f → ∃ w1 S1, fX7_bad_L33 fuel w m t (nI f) = ((fX7_finds w1 m).bind fun w7 => (zb 1).bind fun z8 => some (z8, w7)) ∧ Mo w1 m S1 A ∧ (∀ s, s ≠ 4 → S1 s = S0 s) ∧ S1 4 = bitsN (badP n β t) 6 ∧ Out w w1 m (m + 23)
  | q, f, 0, w, S, h1, h2, h, hs, h4 => by omega
  | 0, f, fuel + 1, w, S, h1, h2, h, hs, h4 => by
    have : f = 6 := by omega
    subst this
    rw [fX7_bad_L33, if_pos (by decide), h.o, Option.bind_some]
    exact ⟨w, S, rfl, h, hs, h4, Out.rf⟩
  | q + 1, f, fuel + 1, w, S, h1, h2, h, hs, h4 => by
    have hf : f < 6 := by omega
    have h32 := (hL f hf).1
    have hle : ¬ (6 : Int32) ≤ nI f := nI_ge (b := 6) hf (by decide)
    rw [fX7_bad_L33, if_neg hle]
    obtain ⟨w1, S1, e1, q1, s1, t1, o1⟩ := X7_bad_lines (S0 := S0) hL t hf (fX7_bad_L33 fuel) (n f) 0 1000 w S (by omega) (by omega) h hs (by simpa using h4)
    rw [nI_0] at e1
    rw [e1]
    obtain ⟨w2, S2, e2, q2, s2, t2, o2⟩ := X7_bad_files (S0 := S0) hL t q (f + 1) fuel w1 S1 (by omega) (by omega) q1 s1 t1
    exact ⟨w2, S2, e2, q2, s2, t2, o1.tr o2⟩
theorem bad_hs {n : Nat → Nat} {β ι : Nat → Nat → Nat} {bad0 bad : Int32} : ∀ f, f < 6 → bt (bitsN (badP n β (bad ^^^ bad0)) 6) f = false → n f = n f ∧ ∀ k, k < n f → ι f k = ι f k ∧ ∀ r, r < 5 → ruB n β f bad r k = ruB n β f bad0 r k := by
  intro f hf hb
  rw [bt_bitsN (by decide) (by omega), decide_eq_true hf, Bool.true_and] at hb
  refine ⟨rfl, fun k hk => ⟨rfl, fun r hr => ?_⟩⟩
  match r, hr with
  | 0, _ => rfl
  | 1, _ => rfl
  | 2, _ => rfl
  | 3, _ =>
    simp only [ruB]
    by_cases h0 : β f k / 32 = 0
    · have : bt (bad ^^^ bad0) (β f k % 32) = false := by
        cases hx : bt (bad ^^^ bad0) (β f k % 32) with
        | false => rfl
        | true =>
          have : badP n β (bad ^^^ bad0) f = true := by
            unfold badP
            rw [any_iff]
            exact ⟨k, hk, by simp [h0, hx]⟩
          rw [hb] at this
          cases this
      rw [b_xor] at this
      rw [decide_eq_true h0, Bool.true_and, Bool.true_and]
      cases h1 : bt bad (β f k % 32) <;> cases h2 : bt bad0 (β f k % 32) <;> simp_all
    · rw [decide_eq_false h0, Bool.false_and, Bool.false_and]
  | 4, _ => rfl
theorem step_bad {z : Nat} : ∀ (j : Nat) (w : Fw) (x1 : Int32), j < 512 → Inv z j w → ∃ (r : Int32) (w1 w2 : Fw), fX6_bad w z x1 = some (r, w1) ∧ isO w1 (z + 150) 7 = some () ∧ fX7_bad w1 (z + 150) x1 = some (r, w2) ∧ Inv z (j + 1) w2 := by
  intro j w x1 hj hI
  obtain ⟨n, β, ι, M, ℓ, tn, τ, chg, day, ids, bad, wrk, hC, hM, hCo, hU, hc, hid, hday⟩ := id hI
  obtain ⟨hF, hW⟩ := hC.split
  by_cases hx : x1 = bad
  · obtain ⟨S, A, q, s0, s1, s2, s3, -⟩ := id hM
    exact ⟨0, w, w, by simp [fX6_bad, hF.g8, hx, zb], hM.o, by simp [fX7_bad, q.g6, s3, hx, zb], hI.mono⟩
  · obtain ⟨wa, ea, fa, oa⟩ := hF.s8 x1
    have hWa := hW.frame (w' := wa) (fun q q1 q2 => oa q (by omega))
    obtain ⟨wc, ec, fc, wc0, oc⟩ := X6_work_q (bitsN (badP n β (x1 ^^^ bad)) 6) fa hWa
    have e6 : fX6_bad w z x1 = some (1, wc) := by
      have hl := X6_bad_loop fa hWa.FO (x1 ^^^ bad) 6 0 1000 (by omega) (by omega)
      rw [nI_0] at hl
      have hl' : fX6_bad_L27 1000 wa z (x1 ^^^ bad) 0 0 = (fX6_work wa z (bitsN (badP n β (x1 ^^^ bad)) 6)).bind fun w1 => (zb 1).bind fun z2 => some (z2, w1) := hl
      simp only [fX6_bad, hF.g8, Option.bind_some, if_neg hx, ea, hl', ec]
      simp [zb]
    have hOc : Out w wc z (z + 150) := (oa.wide (by omega) (by omega)).tr oc
    have hMc := hM.frame (w' := wc) (fun q q1 q2 => hOc q (by omega))
    obtain ⟨wd, S, A, ed, qd, s0, s1, s2, s3, s6, s7, s8, hL, hH, hl, htl, hT, od⟩ := X7_begun hMc
    obtain ⟨wg, eg, qg, og⟩ := qd.p6 x1
    obtain ⟨wh, eh, qh, oh⟩ := qg.p7 0
    obtain ⟨we, Se, ee, qe, r1, r2, oe⟩ := X7_bad_files (S0 := upd S 3 x1) hL (x1 ^^^ bad) 6 0 1000 wh _ (by omega) (by omega) qh (fun s hs => by simp [upd, hs]) (by simp [upd, bitsN])
    rw [nI_0] at ee
    have t3 : Se 3 = x1 := (r1 3 (by omega)).trans (by simp [upd])
    have tt : ∀ s, s ≠ 3 → s ≠ 4 → Se s = S s := fun s h3 h4 => (r1 s h4).trans (by simp [upd, h3])
    obtain ⟨wf, Sf, Af, ef, qf, p1, p2, p3, p4, p5, p6, of⟩ := X7_finds_q qe hL hH ((tt 6 (by omega) (by omega)).trans s6) ((tt 7 (by omega) (by omega)).trans s7) hl
    rw [t3, tt 0 (by omega) (by omega), s0] at p3 p4 p5 p6
    have hs := bad_hs (n := n) (β := β) (ι := ι) (bad0 := bad) (bad := x1)
    have hst : Stay n ι ids n ι := fun g l hg hl => Or.inl ⟨l, hl, rfl⟩
    have hFl : flF (neL n β ι x1 (flF M 6) (nI (chg + 1))) 6 = flF (wkM (bitsN (badP n β (x1 ^^^ bad)) 6) n β ι x1 (nI (chg + 1)) M) 6 := flF_congr (fun g hg => chg_rules hCo hU hU (by omega) (by omega) hst hs hg)
    have hPl : flP (neL n β ι x1 (flF M 6) (nI (chg + 1))) 6 = flP (wkM (bitsN (badP n β (x1 ^^^ bad)) 6) n β ι x1 (nI (chg + 1)) M) 6 := flP_congr (fun g hg => chg_rules hCo hU hU (by omega) (by omega) hst hs hg)
    have hG := chg_log (ℓ := ℓ) (ch := nI (chg + 1)) hCo hU hU (by omega) (by omega) hst hs 6 (Nat.le_refl _)
    rw [hG] at p5 p6
    rw [hFl] at p3
    rw [hFl, hPl] at p4
    have e7 : fX7_bad wc (z + 150) x1 = some (1, wf) := by
      obtain ⟨Sc, Ac, qc, -, -, -, c3, -⟩ := id hMc
      simp only [fX7_bad, qc.g6, c3, Option.bind_some, if_neg hx, hMc.o, ed, qd.g6, s3, eg, eh, ee, ef]
      simp [zb]
    have hOf : Out wc wf (z + 150) (z + 150 + 23) := (((od.tr og).tr oh).tr oe).tr of
    refine ⟨1, wc, wf, e6, hMc.o, e7, n, β, ι, wkM (bitsN (badP n β (x1 ^^^ bad)) 6) n β ι x1 (nI (chg + 1)) M, wkL (bitsN (badP n β (x1 ^^^ bad)) 6) n β ι x1 (nI (chg + 1)) M ℓ 6, tn, τ, chg + 1, day, ids, x1, bitsN (badP n β (x1 ^^^ bad)) 6, ?_, ?_, chg_cons (ch := nI (chg + 1)) hCo hs, hU, by omega, by omega, hday⟩
    · exact CW.frame ⟨fc, wc0⟩ (fun q q1 q2 => hOf q (by omega))
    · refine ⟨Sf, Af, qf, (p1 0 (by omega) (by omega)).trans ((tt 0 (by omega) (by omega)).trans s0), (p1 1 (by omega) (by omega)).trans ((tt 1 (by omega) (by omega)).trans s1), (p1 2 (by omega) (by omega)).trans ((tt 2 (by omega) (by omega)).trans s2), (p1 3 (by omega) (by omega)).trans t3, (p1 4 (by omega) (by omega)).trans r2, p3, p5, (p1 8 (by omega) (by omega)).trans ((tt 8 (by omega) (by omega)).trans s8), ?_, p4, p6, htl, ?_⟩
      · intro g hg
        rw [p2 1 (by omega), p2 2 (by omega), p2 3 (by omega)]
        exact hL g hg
      · rw [p2 20 (by omega)]
        exact hT
