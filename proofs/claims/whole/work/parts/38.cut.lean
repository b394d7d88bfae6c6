theorem isLine_in {w : Fw} {z : Nat} {n : Nat → Nat} {β ι : Nat → Nat → Nat} {M : Nat → List Fnd} {ℓ : List Lg} {tn : Nat} {τ : Nat → Nat} {chg day ids : Nat} {bad wrk : Int32} (hC : CW w z n β ι M ℓ tn τ chg day ids bad wrk) {f t : Nat} (hf : f < 6) (ht : t < n f) : fX6_isLine w z (nI f) (nI t) = some 1 := by
  obtain ⟨hF, hW⟩ := hC.split
  obtain ⟨hn, B, I, ra, rb, M', hab, hsh, hβ, hι, hR, hR'⟩ := hW.2.1 f hf
  have h1 : (0 : Int32) ≤ nI t := nI_pos' (by omega)
  have h2 : nI t < nI (n f) := nI_lt ht (by omega)
  have hl : fX4_hasLine w (sh z f) (nI t) = some 1 := by rw [X4_hasLine_q hsh hn, decide_eq_true ⟨h1, h2⟩]; rfl
  simp [fX6_isLine, X6_isFile_in w hf, hF.g0, hW.1.at hf, hsh.o, hl, fX6_isLine_b25, zb]
theorem isLine7_in {w : Fw} {m : Nat} {n : Nat → Nat} {β ι : Nat → Nat → Nat} {M : Nat → List Fnd} {ℓ : List Lg} {tn : Nat} {τ : Nat → Nat} {chg day ids : Nat} {bad wrk : Int32} (hM : MW w m n β ι M ℓ tn τ chg day ids bad wrk) {f t : Nat} (hf : f < 6) (hn : n f ≤ 32) (ht : t < n f) : fX7_isLine w m (nI f) (nI t) = some 1 := by
  obtain ⟨mg, mm⟩ := hM.many hf
  obtain ⟨k, hk⟩ : ∃ k, n f = k + 1 := ⟨n f - 1, by omega⟩
  rw [hk] at mm
  have h1 : (0 : Int32) ≤ nI t := nI_pos' (by omega)
  have h2 : nI t ≤ nI (k + 1) - 1 := by rw [nI_pred]; exact nI_le (by omega) (by omega)
  have hin : fX7_isIn w (nI t) 0 (nI (k + 1) - 1) = some 1 := by rw [X7_isIn_q, decide_eq_true ⟨h1, h2⟩]; rfl
  simp [fX7_isLine, X7_isFile_in w hf, mg, mm, hin, fX7_isLine_b28, zb]
theorem isLine_out {w : Fw} {z : Nat} {n : Nat → Nat} {β ι : Nat → Nat → Nat} {M : Nat → List Fnd} {ℓ : List Lg} {tn : Nat} {τ : Nat → Nat} {chg day ids : Nat} {bad wrk : Int32} (hC : CW w z n β ι M ℓ tn τ chg day ids bad wrk) (hM : MW w (z + 150) n β ι M ℓ tn τ chg day ids bad wrk) (x1 x2 : Int32) : (∃ f t, f < 6 ∧ n f ≤ 32 ∧ t < n f ∧ x1 = nI f ∧ x2 = nI t) ∨ (fX6_isLine w z x1 x2 = some 0 ∧ fX7_isLine w (z + 150) x1 x2 = some 0) := by
  obtain ⟨hF, hW⟩ := hC.split
  rcases pk_ix x1 (n := 6) (by decide) with h1 | h1 | ⟨f, hf, rfl⟩
  · obtain ⟨a, b⟩ := isFile_out w (Or.inl h1)
    exact Or.inr ⟨by simp [fX6_isLine, a, fX6_isLine_b24, fX6_isLine_b25, zb], by simp [fX7_isLine, b, fX7_isLine_b27, fX7_isLine_b28, zb]⟩
  · obtain ⟨a, b⟩ := isFile_out w (Or.inr h1)
    exact Or.inr ⟨by simp [fX6_isLine, a, fX6_isLine_b24, fX6_isLine_b25, zb], by simp [fX7_isLine, b, fX7_isLine_b27, fX7_isLine_b28, zb]⟩
  · obtain ⟨hn, B, I, ra, rb, M', hab, hsh, hβ, hι, hR, hR'⟩ := hW.2.1 f hf
    obtain ⟨mg, mm⟩ := hM.many hf
    have out : ¬ ((0 : Int32) ≤ x2 ∧ x2 < nI (n f)) → ¬ ((0 : Int32) ≤ x2 ∧ x2 ≤ nI (n f) - 1) → (fX6_isLine w z (nI f) x2 = some 0 ∧ fX7_isLine w (z + 150) (nI f) x2 = some 0) := by
      intro a b
      have hl : fX4_hasLine w (sh z f) x2 = some 0 := by rw [X4_hasLine_q hsh hn, decide_eq_false a]; rfl
      have hin : fX7_isIn w x2 0 (nI (n f) - 1) = some 0 := by rw [X7_isIn_q, decide_eq_false b]; rfl
      exact ⟨by simp [fX6_isLine, X6_isFile_in w hf, hF.g0, hW.1.at hf, hsh.o, hl, fX6_isLine_b24, fX6_isLine_b25, zb], by simp [fX7_isLine, X7_isFile_in w hf, mg, mm, hin, fX7_isLine_b27, fX7_isLine_b28, zb]⟩
    rcases pk_ix x2 (n := n f) (by omega) with h2 | h2 | ⟨t, ht, rfl⟩
    · exact Or.inr (out (fun e => absurd h2 (Int32.not_lt.mpr e.1)) (fun e => absurd h2 (Int32.not_lt.mpr e.1)))
    · refine Or.inr (out (fun e => absurd e.2 (Int32.not_lt.mpr h2)) (fun e => ?_))
      have h9 := Int32.le_trans h2 e.2
      rw [Int32.le_iff_toInt_le, nI_toInt (by omega)] at h9
      have h8 : (nI (n f) - nI 1).toInt = ((n f : Nat) : Int) - (1 : Nat) := pk_sub_toInt (by omega) (by omega)
      have h7 : (nI (n f) - 1).toInt = ((n f : Nat) : Int) - (1 : Nat) := h8
      rw [h7] at h9
      omega
    · exact Or.inl ⟨f, t, hf, hn, ht, rfl, rfl⟩
-- cut
theorem X7_cut_loop {m f nf t : Nat} {S : Nat → Int32} {A : Nat → Nat → Int32} (hf : f < 6) (hn : nf < 32) (hm : A 1 f = nI nf) (before : Int32) : ∀ (q k fuel : Nat) (w : Fw) (A' : Nat → Nat → Int32), k + q = nf → t ≤ k → q < fuel → Mo w m S A' → (∀ j, j ≠ 2 → j ≠ 3 → A' j = A j) → A' 2 = cutF (A 2) (32 * f + t) (32 * f + k) → A' 3 = cutF (A 3) (32 * f + t) (32 * f + k) → ∃ w1 A1, fX7_cut_L34 fuel w m (nI f) before (nI k) = ((fX7_ends w1 m (nI f) before).bind fun w3 => (zb 1).bind fun z4 => some (z4, w3)) ∧ Mo w1 m S A1 ∧ (∀ j, j ≠ 2 → j ≠ 3 → A1 j = A j) ∧ A1 2 = cutF (A 2) (32 * f + t) (32 * f + nf) ∧ A1 3 = cutF (A 3) (32 * f + t) (32 * f + nf) ∧ Out w w1 m (m + 23)
  | q, k, 0, w, A', h1, h2, h3, h, ha, h2', h3' => by omega
  | 0, k, fuel + 1, w, A', h1, h2, h3, h, ha, h2', h3' => by
    have : k = nf := by omega
    subst this
    have hm1 : A' 1 f = nI k := by rw [ha 1 (by decide) (by decide)]; exact hm
    rw [fX7_cut_L34]
    simp only [h.g0, Option.bind_some, h.l (j := 1) (i := f) (by omega) (by omega) hf, hm1, if_pos (nI_le (Nat.le_refl k) (by omega)), h.o]
    exact ⟨w, A', rfl, h, ha, h2', h3', Out.rf⟩
  | q + 1, k, fuel + 1, w, A', h1, h2, h3, h, ha, h2', h3' => by
    have hle : ¬ nI nf ≤ nI k := nI_ge (by omega) (by omega)
    have hi : 32 * f + k < 192 := by omega
    have hi1 : 32 * f + k + 1 < 192 := by omega
    have hm1 : A' 1 f = nI nf := by rw [ha 1 (by decide) (by decide)]; exact hm
    rw [fX7_cut_L34]
    simp only [h.g0, Option.bind_some, h.l (j := 1) (i := f) (by omega) (by omega) hf, hm1, hle, if_false, h.g1, ix32, nI_1, h.l (j := 2) (i := 32 * f + k + 1) (by omega) (by omega) hi1]
    obtain ⟨w1, e1, q1, o1⟩ := h.s (j := 2) (i := 32 * f + k) (by omega) (by omega) hi (A' 2 (32 * f + k + 1))
    have v3 : vup A' 2 (32 * f + k) (A' 2 (32 * f + k + 1)) 3 = A' 3 := vup_ne (by decide)
    simp only [e1, Option.bind_some, q1.g2, q1.l (j := 3) (i := 32 * f + k + 1) (by omega) (by omega) hi1, v3]
    obtain ⟨w2, e2, q2, o2⟩ := q1.s (j := 3) (i := 32 * f + k) (by omega) (by omega) hi (A' 3 (32 * f + k + 1))
    simp only [e2, Option.bind_some]
    obtain ⟨w3, A3, e3, q3, r3, r5, r6, o3⟩ := X7_cut_loop (t := t) hf hn hm before q (k + 1) fuel w2 _ (by omega) (by omega) (by omega) q2 (fun j j2 j3 => by rw [vup_ne j3, vup_ne j2]; exact ha j j2 j3) (by
      rw [vup_ne (by decide), vup_eq, h2']
      exact cutF_step (by omega)) (by
      rw [vup_eq, vup_ne (by decide), h3']
      exact cutF_step (by omega))
    exact ⟨w3, A3, e3, q3, r3, r5, r6, (o1.tr o2).tr o3⟩
theorem ML_cut {A A1 : Nat → Nat → Int32} {n : Nat → Nat} {β ι : Nat → Nat → Nat} {f t k1 : Nat} (hL : ML A n β ι) (hf : f < 6) (hk1 : n f = k1 + 1) (h1 : A1 1 = upd (A 1) f (nI k1)) (h2 : A1 2 = cutF (A 2) (32 * f + t) (32 * f + k1)) (h3 : A1 3 = cutF (A 3) (32 * f + t) (32 * f + k1)) : ML A1 (setF n f k1) (setF β f (cutN (β f) t)) (setF ι f (cutN (ι f) t)) := by
  intro g hg
  obtain ⟨b1, b2, b3⟩ := hL g hg
  by_cases hgf : g = f
  · subst hgf
    rw [setF_eq, setF_eq, setF_eq]
    refine ⟨by omega, by rw [h1]; simp [upd], fun k hk => ?_⟩
    rw [h2, h3]
    by_cases lt : k < t
    · have c2 : cutF (A 2) (32 * g + t) (32 * g + k1) (32 * g + k) = A 2 (32 * g + k) := if_neg (by omega)
      have c3 : cutF (A 3) (32 * g + t) (32 * g + k1) (32 * g + k) = A 3 (32 * g + k) := if_neg (by omega)
      have cb : cutN (β g) t k = β g k := if_pos lt
      have ci : cutN (ι g) t k = ι g k := if_pos lt
      rw [c2, c3, cb, ci]
      exact b3 k (by omega)
    · have c2 : cutF (A 2) (32 * g + t) (32 * g + k1) (32 * g + k) = A 2 (32 * g + (k + 1)) := if_pos (by omega)
      have c3 : cutF (A 3) (32 * g + t) (32 * g + k1) (32 * g + k) = A 3 (32 * g + (k + 1)) := if_pos (by omega)
      have cb : cutN (β g) t k = β g (k + 1) := if_neg lt
      have ci : cutN (ι g) t k = ι g (k + 1) := if_neg lt
      rw [c2, c3, cb, ci]
      exact b3 (k + 1) (by omega)
  · rw [setF_ne hgf, setF_ne hgf, setF_ne hgf]
    have h32 := (hL f hf).1
    refine ⟨b1, by rw [h1]; simp [upd, hgf, b2], fun k hk => ?_⟩
    rw [h2, h3]
    unfold cutF
    rw [if_neg (by omega), if_neg (by omega)]
    exact b3 k hk
theorem Uniq_cut {n : Nat → Nat} {ι : Nat → Nat → Nat} {f t k1 ids : Nat} (h : Uniq n ι ids) (hf : f < 6) (hk1 : n f = k1 + 1) : Uniq (setF n f k1) (setF ι f (cutN (ι f) t)) ids ∧ Stay n ι ids (setF n f k1) (setF ι f (cutN (ι f) t)) := by
  have key : ∀ g k, g < 6 → k < setF n f k1 g → ∃ k', k' < n g ∧ setF ι f (cutN (ι f) t) g k = ι g k' ∧ (g = f → (k < t → k' = k) ∧ (¬ k < t → k' = k + 1)) ∧ (g ≠ f → k' = k) := by
    intro g k hg hk
    by_cases hgf : g = f
    · subst hgf
      rw [setF_eq] at hk ⊢
      unfold cutN
      by_cases lt : k < t
      · exact ⟨k, by omega, by simp [lt], fun _ => ⟨fun _ => rfl, fun h => absurd lt h⟩, fun h => absurd rfl h⟩
      · exact ⟨k + 1, by omega, by simp [lt], fun _ => ⟨fun h => absurd h lt, fun _ => rfl⟩, fun h => absurd rfl h⟩
    · rw [setF_ne hgf] at hk ⊢
      exact ⟨k, hk, rfl, fun h => absurd h hgf, fun _ => rfl⟩
  refine ⟨⟨fun f1 f2 k l hf1 hf2 hk hl e => ?_, fun g k hg hk => ?_⟩, fun g l hg hl => ?_⟩
  · obtain ⟨k', a1, a2, a3, a4⟩ := key f1 k hf1 hk
    obtain ⟨l', b1, b2, b3, b4⟩ := key f2 l hf2 hl
    obtain ⟨c1, c2⟩ := h.1 f1 f2 k' l' hf1 hf2 a1 b1 (a2.symm.trans (e.trans b2))
    subst c1
    refine ⟨rfl, ?_⟩
    by_cases hff : f1 = f
    · have p := a3 hff
      have q := b3 hff
      by_cases p1 : k < t <;> by_cases q1 : l < t
      · have := p.1 p1; have := q.1 q1; omega
      · have := p.1 p1; have := q.2 q1; omega
      · have := p.2 p1; have := q.1 q1; omega
      · have := p.2 p1; have := q.2 q1; omega
    · have := a4 hff; have := b4 hff; omega
  · obtain ⟨k', a1, a2, -, -⟩ := key g k hg hk
    have := h.2 g k' hg a1; omega
  · obtain ⟨k', a1, a2, -, -⟩ := key g l hg hl
    exact Or.inl ⟨k', a1, a2⟩
theorem step_cut {z : Nat} : ∀ (j : Nat) (w : Fw) (x1 x2 : Int32), j < 512 → Inv z j w → ∃ (r : Int32) (w1 w2 : Fw), fX6_cut w z x1 x2 = some (r, w1) ∧ isO w1 (z + 150) 7 = some () ∧ fX7_cut w1 (z + 150) x1 x2 = some (r, w2) ∧ Inv z (j + 1) w2 := by
  intro j w x1 x2 hj hI
  obtain ⟨n, β, ι, M, ℓ, tn, τ, chg, day, ids, bad, wrk, hC, hM, hCo, hU, hc, hid, hday⟩ := id hI
  rcases isLine_out hC hM x1 x2 with ⟨f, t, hf, hn, ht, rfl, rfl⟩ | ⟨a, b⟩
  · obtain ⟨hF, hW⟩ := hC.split
    obtain ⟨-, B, I, ra, rb, M', hab, hsh, hβ, hι, hR, hR'⟩ := hW.2.1 f hf
    obtain ⟨k1, hk1⟩ : ∃ k1, n f = k1 + 1 := ⟨n f - 1, by omega⟩
    have n1 := X4_numbersOf_q hsh hβ hn (kd := 1) (by decide)
    rw [show nI 1 = (1 : Int32) from rfl] at n1
    have hsh' := hsh
    rw [hk1] at hsh' hβ hι
    obtain ⟨wb, eb, sb, ob⟩ := X4_remove_q hsh' (t := t) (by omega) (by omega)
    have hSG : SG wb (sh z f) k1 (cutN (β f) t) (cutN (ι f) t) (M f) := by
      refine ⟨by omega, _, _, ra, rb, M', hab, sb, cutN_ok hβ, cutN_ok hι, ?_, ?_⟩
      · exact hR.frame (fun q q1 q2 => ob q (by omega))
      · exact hR'.frame (fun q q1 q2 => ob q (by omega))
    have hWb := hW.file hf hSG (ob.wide (by omega) (by omega))
    have fb := hF.out ob (by unfold sh; omega)
    obtain ⟨wc, ec, fc, wc0, oc⟩ := X6_settle_q hf (nmsN (β f) 1 (n f)) fb hWb
    have e6 : fX6_cut w z (nI f) (nI t) = some (1, wc) := by
      rw [fX6_cut]
      simp only [hF.o, isLine_in hC hf ht, Option.bind_some, hF.g0, hW.1.at hf, hsh.o, n1, eb, fb.o, ec]
      simp [zb]
    have hOc : Out w wc z (z + 150) := (ob.wide (by unfold sh; omega) (by unfold sh; omega)).tr oc
    have hMc := hM.frame (w' := wc) (fun q q1 q2 => hOc q (by omega))
    obtain ⟨U1, U2⟩ := Uniq_cut (t := t) hU hf hk1
    obtain ⟨wd, S, A, ed, qd, s0, s1, s2, s3, s6, s7, s8, hL, hH, hl, htl, hT, od⟩ := X7_begun hMc
    obtain ⟨wg, eg, qg, og⟩ := qd.s (j := 1) (i := f) (by omega) (by omega) hf (nI k1)
    obtain ⟨we, A1, ee, qe, r3, r5, r6, oe⟩ := X7_cut_loop (t := t) (A := vup A 1 f (nI k1)) hf (show k1 < 32 by omega) (by rw [vup_eq]; simp [upd]) (nmsN (β f) 1 (n f)) (k1 - t) t 1000 wg _ (by omega) (by omega) (by omega) qg (fun _ _ _ => rfl) cutF_bot.symm cutF_bot.symm
    have hL1 : ML A1 (setF n f k1) (setF β f (cutN (β f) t)) (setF ι f (cutN (ι f) t)) := by
      refine ML_cut hL hf hk1 ?_ ?_ ?_
      · rw [r3 1 (by decide) (by decide), vup_eq]
      · rw [r5, vup_ne (by decide)]
      · rw [r6, vup_ne (by decide)]
    have rr : ∀ j, j ≠ 1 → j ≠ 2 → j ≠ 3 → A1 j = A j := fun j a b c => by rw [r3 j b c, vup_ne a]
    obtain ⟨wf, ef, mf, of⟩ := X7_settled (n0 := n) (β0 := β) (ι0 := ι) (chg := chg) (ids0 := ids) (ids := ids) (day := day) (tn := tn) (τ := τ) (bad := bad) (M := M) (ℓ := ℓ) hf qe s0 s1 s2 s3 s6 s7 s8 hL1 (by
      refine ⟨hH.1, fun i hi => ?_⟩
      rw [rr 11 (by omega) (by omega) (by omega), rr 12 (by omega) (by omega) (by omega), rr 13 (by omega) (by omega) (by omega), rr 14 (by omega) (by omega) (by omega), rr 15 (by omega) (by omega) (by omega)]
      exact hH.2 i hi) (by
      refine ⟨hl.1, fun i hi => ?_⟩
      rw [rr 16 (by omega) (by omega) (by omega), rr 17 (by omega) (by omega) (by omega), rr 18 (by omega) (by omega) (by omega), rr 19 (by omega) (by omega) (by omega)]
      exact hl.2 i hi) htl (by rw [rr 20 (by omega) (by omega) (by omega)]; exact hT) hCo hU U1 (by omega) (by omega) U2 setF_other
    have e7 : fX7_cut wc (z + 150) (nI f) (nI t) = some (1, wf) := by
      have hp : nI (n f) - 1 = nI k1 := by rw [hk1, nI_pred]
      rw [fX7_cut]
      simp only [hMc.o, isLine7_in hMc hf hn ht, Option.bind_some, ed, qd.o, X7_defs_q qd hL hf, qd.g0, X7_many qd hL hf, hp, eg]
      rw [if_neg (by decide), ee, ef, Option.bind_some]
      rfl
    have hOf : Out wc wf (z + 150) (z + 150 + 23) := ((od.tr og).tr oe).tr of
    refine ⟨1, wc, wf, e6, hMc.o, e7, _, _, _, _, _, _, _, chg + 1, day, ids, bad, _, ?_, mf, ?_, U1, by omega, by omega, hday⟩
    · exact CW.frame ⟨fc, wc0⟩ (fun q q1 q2 => hOf q (by omega))
    · exact chg_cons hCo (wset_hs hf setF_other)
  · exact ⟨0, w, w, by rw [fX6_cut]; simp [hC.1.o, a, zb], hM.o, by rw [fX7_cut]; simp [hM.o, b, zb], hI.mono⟩
-- change
theorem step_change {z : Nat} : ∀ (j : Nat) (w : Fw) (x1 x2 x3 : Int32), j < 512 → Inv z j w → ∃ (r : Int32) (w1 w2 : Fw), fX6_change w z x1 x2 x3 = some (r, w1) ∧ isO w1 (z + 150) 7 = some () ∧ fX7_change w1 (z + 150) x1 x2 x3 = some (r, w2) ∧ Inv z (j + 1) w2 := by
  intro j w x1 x2 x3 hj hI
  obtain ⟨n, β, ι, M, ℓ, tn, τ, chg, day, ids, bad, wrk, hC, hM, hCo, hU, hc, hid, hday⟩ := id hI
  have refuse : fX6_change w z x1 x2 x3 = some (0, w) → fX7_change w (z + 150) x1 x2 x3 = some (0, w) → ∃ (r : Int32) (w1 w2 : Fw), fX6_change w z x1 x2 x3 = some (r, w1) ∧ isO w1 (z + 150) 7 = some () ∧ fX7_change w1 (z + 150) x1 x2 x3 = some (r, w2) ∧ Inv z (j + 1) w2 := fun h1 h2 => ⟨0, w, w, h1, hM.o, h2, hI.mono⟩
  rcases isLine_out hC hM x1 x2 with ⟨f, t, hf, hn, ht, rfl, rfl⟩ | ⟨a, b⟩
  · obtain ⟨hF, hW⟩ := hC.split
    obtain ⟨-, B, I, ra, rb, M', hab, hsh, hβ, hι, hR, hR'⟩ := hW.2.1 f hf
    have l6 := isLine_in hC hf ht
    have l7 := isLine7_in hM hf hn ht
    have by_out : fX6_isByte w x3 = some 0 ∧ fX7_isByte w x3 = some 0 → _ := fun (h : fX6_isByte w x3 = some 0 ∧ fX7_isByte w x3 = some 0) => refuse (by rw [fX6_change]; simp [hF.o, l6, h.1, fX6_change_b30, zb]) (by rw [fX7_change]; simp [hM.o, l7, h.2, fX7_change_b31, zb])
    rcases pk_ix x3 (n := 256) (by decide) with h3 | h3 | ⟨v, hv, rfl⟩
    · exact by_out (isByte_out w (Or.inl h3))
    · exact by_out (isByte_out w (Or.inr h3))
    · obtain ⟨y6, y7⟩ := isByte_in w hv
      have b6 : fX4_byteAt w (sh z f) (nI t) = some (nI (β f t)) := by rw [X4_byteAt_q hsh (by omega), (hβ t ht).1]
      have hbt := (hβ t ht).2
      by_cases hsame : β f t = v
      · refine refuse ?_ ?_
        · rw [fX6_change]
          simp [hF.o, l6, y6, hF.g0, hW.1.at hf, hsh.o, b6, hsame, fX6_change_b30, zb]
        · obtain ⟨S, A, q, -, -, -, -, -, -, -, -, hL, -⟩ := id hM
          rw [fX7_change]
          simp [hM.o, l7, y7, q.g1, ix32, X7_lineAt q hL hf ht, hsame, fX7_change_b31, zb]
      · have hne : ¬ nI (β f t) = nI v := fun e => hsame ((nI_eq (by omega) (by omega)).mp e)
        have n1 := X4_numbersOf_q hsh hβ hn (kd := 1) (by decide)
        rw [show nI 1 = (1 : Int32) from rfl] at n1
        obtain ⟨wb, eb, sb, ob⟩ := X4_replace_q hsh (show t < 32 by omega) (nI v)
        have hSG : SG wb (sh z f) (n f) (setN (β f) t v) (ι f) (M f) := by
          refine ⟨hn, _, _, ra, rb, M', hab, sb, setN_ok hβ hv, hι, ?_, ?_⟩
          · exact hR.frame (fun q q1 q2 => ob q (by omega))
          · exact hR'.frame (fun q q1 q2 => ob q (by omega))
        have hWb := hW.file hf hSG (ob.wide (by omega) (by omega))
        have fb := hF.out ob (by unfold sh; omega)
        obtain ⟨wc, ec, fc, wc0, oc⟩ := X6_settle_q hf (nmsN (β f) 1 (n f)) fb hWb
        have e6 : fX6_change w z (nI f) (nI t) (nI v) = some (1, wc) := by
          rw [fX6_change]
          simp only [hF.o, l6, y6, Option.bind_some, hF.g0, hW.1.at hf, hsh.o, b6, if_neg hne, n1, eb, fb.o, ec]
          simp [zb]
        have hOc : Out w wc z (z + 150) := (ob.wide (by unfold sh; omega) (by unfold sh; omega)).tr oc
        have hMc := hM.frame (w' := wc) (fun q q1 q2 => hOc q (by omega))
        have hnn : setF n f (n f) = n := by funext g; by_cases e : g = f <;> simp [setF, e]
        have hii : setF ι f (ι f) = ι := by funext g; by_cases e : g = f <;> simp [setF, e]
        rw [hnn, hii] at wc0
        rw [hnn] at fc
        obtain ⟨wd, S, A, ed, qd, s0, s1, s2, s3, s6, s7, s8, hL, hH, hl, htl, hT, od⟩ := X7_begun hMc
        obtain ⟨wg, eg, qg, og⟩ := qd.s (j := 2) (i := 32 * f + t) (by omega) (by omega) (show 32 * f + t < 192 by omega) (nI v)
        have hL1 : ML (vup A 2 (32 * f + t) (nI v)) n (setF β f (setN (β f) t v)) ι := by
          intro g hg
          obtain ⟨b1, b2, b3⟩ := hL g hg
          rw [vup_ne (by decide), vup_eq, vup_ne (by decide)]
          refine ⟨b1, b2, fun k hk => ?_⟩
          obtain ⟨c1, c2, c3, c4⟩ := b3 k hk
          by_cases hgf : g = f
          · subst hgf
            rw [setF_eq]
            unfold setN upd
            by_cases hkt : k = t
            · subst hkt; simp [hv, c3, c4]
            · rw [if_neg (by omega), if_neg hkt]
              exact ⟨c1, c2, c3, c4⟩
          · rw [setF_ne hgf]
            unfold upd
            rw [if_neg (by omega)]
            exact ⟨c1, c2, c3, c4⟩
        have ho : ∀ g, g ≠ f → n g = n g ∧ setF β f (setN (β f) t v) g = β g ∧ ι g = ι g := fun g hg => ⟨rfl, setF_ne hg, rfl⟩
        obtain ⟨wf, ef, mf, of⟩ := X7_settled (n0 := n) (β0 := β) (ι0 := ι) (n := n) (ι := ι) (chg := chg) (ids0 := ids) (ids := ids) (day := day) (tn := tn) (τ := τ) (bad := bad) (M := M) (ℓ := ℓ) hf qg s0 s1 s2 s3 s6 s7 s8 hL1 (by
          refine ⟨hH.1, fun i hi => ?_⟩
          rw [vup_ne (by decide), vup_ne (by decide), vup_ne (by decide), vup_ne (by decide), vup_ne (by decide)]
          exact hH.2 i hi) (by
          refine ⟨hl.1, fun i hi => ?_⟩
          rw [vup_ne (by decide), vup_ne (by decide), vup_ne (by decide), vup_ne (by decide)]
          exact hl.2 i hi) htl (by rw [vup_ne (by decide)]; exact hT) hCo hU hU (by omega) (by omega) (fun g l hg hl => Or.inl ⟨l, hl, rfl⟩) ho
        have e7 : fX7_change wc (z + 150) (nI f) (nI t) (nI v) = some (1, wf) := by
          obtain ⟨Sc, Ac, qc, -, -, -, -, -, -, -, -, hLc, -⟩ := id hMc
          rw [fX7_change]
          simp only [hMc.o, isLine7_in hMc hf hn ht, (isByte_in wc hv).2, Option.bind_some, qc.g1, ix32, X7_lineAt qc hLc hf ht, if_neg hne, ed, qd.o, X7_defs_q qd hL hf, qd.g1, eg, qg.o, ef]
          rw [if_neg (by decide), if_neg (by decide)]
          rfl
        have hOf : Out wc wf (z + 150) (z + 150 + 23) := (od.tr og).tr of
        refine ⟨1, wc, wf, e6, hMc.o, e7, n, _, ι, _, _, _, _, chg + 1, day, ids, bad, _, ?_, mf, ?_, hU, by omega, by omega, hday⟩
        · exact CW.frame ⟨fc, wc0⟩ (fun q q1 q2 => hOf q (by omega))
        · exact chg_cons hCo (wset_hs hf ho)
  · exact refuse (by rw [fX6_change]; simp [hC.1.o, a, fX6_change_b30, zb]) (by rw [fX7_change]; simp [hM.o, b, fX7_change_b31, zb])
