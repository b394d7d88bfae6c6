section WALK
variable {a s t nn tn : Nat} {b ι c : Nat → Nat} {Z : Nat → Nat → Int32}
theorem X3_isGone_q {w : Fw} {D : Nat → Int32} (h : Src w s t nn tn b ι c) (hz : RtZ w a Z D) (hT : ∀ i' j', i' ≤ nn → j' ≤ tn → Z i' j' = nI (lc b c nn tn i' j')) {i j : Nat} (hi : i < nn) (hj : j < tn) : fX3_isGone w a s t (nI i) (nI j) = some (bz (decide (¬ b i = c j ∧ lc b c nn tn (i + 1) j = lc b c nn tn i j))) := by
  have h5 := h.2.2.1
  have h6 := h.2.2.2
  have t1 := hT (i + 1) j (by omega) (by omega)
  have t2 := hT i j (by omega) (by omega)
  have l1 := @lc_le b c nn tn (i + 1) j
  have l2 := @lc_le b c nn tn i j
  rw [fX3_isGone]
  simp only [h.os, h.ot, (h.bs hi).1, (h.bt hj).1, Option.bind_some, h.eqb hi hj, hz.g0, nI_1, hz.r (show i + 1 < 33 by omega), hz.r (show i < 33 by omega), hz.l (show i + 1 < 33 by omega) (show j < 33 by omega), hz.l (show i < 33 by omega) (show j < 33 by omega), t1, t2, nI_eq (show lc b c nn tn (i + 1) j < 2 ^ 31 by omega) (show lc b c nn tn i j < 2 ^ 31 by omega), fX3_isGone_b41, fX3_isGone_b42]
  by_cases h1 : b i = c j
  · rw [if_pos h1, decide_eq_false (fun e => e.1 h1)]; decide
  · rw [if_neg h1]
    by_cases h2 : lc b c nn tn (i + 1) j = lc b c nn tn i j
    · rw [if_pos h2, decide_eq_true ⟨h1, h2⟩]; decide
    · rw [if_neg h2, decide_eq_false (fun e => h2 e.2)]; decide
theorem X3_skip (K : Fw → Nat → Nat → Nat → Int32 → Int32 → Int32 → Int32 → Option (Int32 × Fw)) {w : Fw} {D : Nat → Int32} (h : Src w s t nn tn b ι c) (hz : RtZ w a Z D) (hT : ∀ i' j', i' ≤ nn → j' ≤ tn → Z i' j' = nI (lc b c nn tn i' j')) {j : Nat} (hj : j < tn) (x3 x4 : Int32) : ∀ (q i fuel : Nat), i + q = nn → q < fuel → ∃ i', i' ≤ nn ∧ wst b c nn tn i j = wst b c nn tn i' j ∧ (i' < nn → ¬ (¬ b i' = c j ∧ lc b c nn tn (i' + 1) j = lc b c nn tn i' j)) ∧ fX3_match_L35 K fuel w a s t x3 x4 (nI i) (nI j) = fX3_match_b63 K w a s t x3 x4 (nI i') (nI j)
  | q, i, 0, h1, h2 => by omega
  | 0, i, fuel + 1, h1, h2 => by
    have h5 := h.2.2.1
    have hin : i = nn := by omega
    subst hin
    refine ⟨i, Nat.le_refl _, rfl, fun e => absurd e (Nat.lt_irrefl _), ?_⟩
    rw [fX3_match_L35]
    simp only [h.os, h.ns, Option.bind_some, if_pos (nI_le (Nat.le_refl i) (by omega))]
  | q + 1, i, fuel + 1, h1, h2 => by
    have h5 := h.2.2.1
    have hin : i < nn := by omega
    have hle : ¬ nI nn ≤ nI i := nI_ge hin (by omega)
    by_cases hg : ¬ b i = c j ∧ lc b c nn tn (i + 1) j = lc b c nn tn i j
    · obtain ⟨i', a1, a2, a3, a4⟩ := X3_skip K h hz hT hj x3 x4 q (i + 1) fuel (by omega) (by omega)
      refine ⟨i', a1, (wst_gone b c nn tn hj hin hg.1 hg.2).trans a2, a3, ?_⟩
      rw [fX3_match_L35]
      simp only [h.os, h.ns, Option.bind_some, hle, if_false, hz.o, X3_isGone_q h hz hT hin hj, decide_eq_true hg, show bz true = 1 from rfl, if_neg (show ¬ (1 : Int32) = 0 by decide), nI_1]
      exact a4
    · refine ⟨i, by omega, rfl, fun _ => hg, ?_⟩
      rw [fX3_match_L35]
      simp only [h.os, h.ns, Option.bind_some, hle, if_false, hz.o, X3_isGone_q h hz hT hin hj, decide_eq_false hg, show bz false = 0 from rfl, if_true]
theorem X3_walk (hs : s + 3 ≤ a ∨ a + 36 ≤ s) (ht : t + 2 ≤ a ∨ a + 36 ≤ t) (hT : ∀ i' j', i' ≤ nn → j' ≤ tn → Z i' j' = nI (lc b c nn tn i' j')) (ids : Nat) : ∀ (q j fuel i kept : Nat) (w : Fw) (D : Nat → Int32), j + q = tn → q < fuel → i ≤ nn → kept ≤ j → Src w s t nn tn b ι c → RtZ w a Z D → ∃ w' D', fX3_match_L26 fuel w a s t (nI ids) (nI kept) (nI i) (nI j) = some (nI (kept + kp (wst b c nn tn i j)), w') ∧ Src w' s t nn tn b ι c ∧ RtZ w' a Z D' ∧ (∀ k, k < j → D' k = D k) ∧ (∀ k, k < q → D' (j + k) = nI ((conv ι (ids + j - kept) (wst b c nn tn i j)).getD k 0)) ∧ Out w w' a (a + 36)
  | q, j, 0, i, kept, w, D, h1, h2, hi, hk, h, hz => by omega
  | 0, j, fuel + 1, i, kept, w, D, h1, h2, hi, hk, h, hz => by
    have h6 := h.2.2.2
    have hjn : j = tn := by omega
    subst hjn
    rw [fX3_match_L26]
    simp only [h.ot, h.nt, Option.bind_some, if_pos (nI_le (Nat.le_refl j) (by omega)), wst_out b c nn j (Nat.le_refl j), kp]
    exact ⟨w, D, rfl, h, hz, fun _ _ => rfl, fun k hk => by omega, Out.rf⟩
  | q + 1, j, fuel + 1, i, kept, w, D, h1, h2, hi, hk, h, hz => by
    have h5 := h.2.2.1
    have h6 := h.2.2.2
    have hj : j < tn := by omega
    have hle : ¬ nI tn ≤ nI j := nI_ge hj (by omega)
    obtain ⟨i', a1, a2, a3, a4⟩ := X3_skip (fX3_match_L26 fuel) h hz hT hj (nI ids) (nI kept) (nn - i) i 1000 (by omega) (by omega)
    have hrd : fX3_match_L26 (fuel + 1) w a s t (nI ids) (nI kept) (nI i) (nI j) = fX3_match_b63 (fX3_match_L26 fuel) w a s t (nI ids) (nI kept) (nI i') (nI j) := by
      rw [fX3_match_L26]
      simp only [h.ot, h.nt, Option.bind_some, hle, if_false]
      exact a4
    rw [hrd, a2]
    have hnew : wst b c nn tn i' j = none :: wst b c nn tn i' (j + 1) → fX3_match_b63 (fX3_match_L26 fuel) w a s t (nI ids) (nI kept) (nI i') (nI j) = fX3_match_b109 (fX3_match_L26 fuel) w a s t (nI ids) (nI kept) (nI i') (nI j) → ∃ w' D', fX3_match_b63 (fX3_match_L26 fuel) w a s t (nI ids) (nI kept) (nI i') (nI j) = some (nI (kept + kp (wst b c nn tn i' j)), w') ∧ Src w' s t nn tn b ι c ∧ RtZ w' a Z D' ∧ (∀ k, k < j → D' k = D k) ∧ (∀ k, k < q + 1 → D' (j + k) = nI ((conv ι (ids + j - kept) (wst b c nn tn i' j)).getD k 0)) ∧ Out w w' a (a + 36) := by
      intro hw hb
      obtain ⟨w1, e1, z1, o1⟩ := hz.sd (show j < 32 by omega) (nI (ids + j - kept))
      obtain ⟨w2, D2, e2, s2, z2, u2, v2, o2⟩ := X3_walk hs ht hT ids q (j + 1) fuel i' kept w1 _ (by omega) (by omega) a1 (by omega) (h.frame (fun p p1 p2 => o1 p (by omega)) (fun p p1 p2 => o1 p (by omega))) z1
      refine ⟨w2, D2, ?_, s2, z2, fun k hk => ?_, fun k hk => ?_, o1.tr o2⟩
      · rw [hb, fX3_match_b109, hz.g1, Option.bind_some, nI_add, pk_sub (show kept ≤ ids + j by omega), e1, Option.bind_some, fX3_match_b123, nI_1, e2, hw, kp]
      · rw [u2 k (by omega)]; simp [upd, show ¬ k = j by omega]
      · rw [hw, conv]
        cases k with
        | zero =>
          rw [Nat.add_zero, u2 j (by omega)]
          simp [upd]
        | succ k =>
          have h9 := v2 k (by omega)
          rw [show j + (k + 1) = j + 1 + k by omega, h9, show ids + (j + 1) - kept = ids + j - kept + 1 by omega]
          rfl
    by_cases hin : i' < nn
    · have hle' : ¬ nI nn ≤ nI i' := nI_ge hin (by omega)
      by_cases he : b i' = c j
      · have hw := wst_eq b c nn tn hj hin he
        obtain ⟨w1, e1, z1, o1⟩ := hz.sd (show j < 32 by omega) (nI (ι i'))
        obtain ⟨w2, D2, e2, s2, z2, u2, v2, o2⟩ := X3_walk hs ht hT ids q (j + 1) fuel (i' + 1) (kept + 1) w1 _ (by omega) (by omega) (by omega) (by omega) (h.frame (fun p p1 p2 => o1 p (by omega)) (fun p p1 p2 => o1 p (by omega))) z1
        refine ⟨w2, D2, ?_, s2, z2, fun k hk => ?_, fun k hk => ?_, o1.tr o2⟩
        · rw [fX3_match_b63]
          simp only [h.os, h.ns, Option.bind_some, hle', if_false, (h.bs hin).1, h.ot, (h.bt hj).1, h.eqb hin hj, if_pos he, hz.g1, (h.is hin).1, e1, fX3_match_b123, nI_1, e2, hw, kp]
          rw [show kept + 1 + kp (wst b c nn tn (i' + 1) (j + 1)) = kept + (kp (wst b c nn tn (i' + 1) (j + 1)) + 1) by omega]
        · rw [u2 k (by omega)]; simp [upd, show ¬ k = j by omega]
        · rw [hw, conv]
          cases k with
          | zero =>
            rw [Nat.add_zero, u2 j (by omega)]
            simp [upd]
          | succ k =>
            have h9 := v2 k (by omega)
            rw [show j + (k + 1) = j + 1 + k by omega, h9, show ids + (j + 1) - (kept + 1) = ids + j - kept by omega]
            rfl
      · have hl : ¬ lc b c nn tn (i' + 1) j = lc b c nn tn i' j := fun e => a3 hin ⟨he, e⟩
        refine hnew (wst_new b c nn tn hj hin he hl) ?_
        rw [fX3_match_b63]
        simp only [h.os, h.ns, Option.bind_some, hle', if_false, (h.bs hin).1, h.ot, (h.bt hj).1, h.eqb hin hj, if_neg he]
    · refine hnew (wst_past b c nn tn hj (by omega)) ?_
      rw [fX3_match_b63]
      simp only [h.os, h.ns, Option.bind_some, if_pos (nI_le (show nn ≤ i' by omega) (show i' < 2 ^ 31 by omega))]
theorem X3_match_q {w : Fw} (hs : s + 3 ≤ a ∨ a + 36 ≤ s) (ht : t + 2 ≤ a ∨ a + 36 ≤ t) (h : Src w s t nn tn b ι c) (hr : Rt w a) (ids : Nat) : ∃ w' Z' D', fX3_match w a s t (nI ids) = some (nI (kp (wst b c nn tn 0 0)), w') ∧ Src w' s t nn tn b ι c ∧ RtZ w' a Z' D' ∧ (∀ k, k < tn → D' k = nI ((conv ι ids (wst b c nn tn 0 0)).getD k 0)) ∧ Out w w' a (a + 36) := by
  have h6 := h.2.2.2
  obtain ⟨Z, D, hz⟩ := hr.z
  obtain ⟨w1, Z1, e1, s1, z1, t1, o1⟩ := X3_measure_q hs ht h hz
  obtain ⟨w2, D2, e2, s2, z2, -, v2, o2⟩ := X3_walk hs ht t1 ids tn 0 1000 0 0 w1 D (by omega) (by omega) (Nat.zero_le _) (Nat.le_refl _) s1 z1
  refine ⟨w2, Z1, D2, ?_, s2, z2, fun k hk => ?_, o1.tr o2⟩
  · have e2' : fX3_match_L26 1000 w1 a s t (nI ids) 0 0 0 = some (nI (0 + kp (wst b c nn tn 0 0)), w2) := e2
    rw [Nat.zero_add] at e2'
    have h32 : nI tn ≤ (32 : Int32) := nI_le (b := 32) h6 (by decide)
    simp only [fX3_match, h.ot, h.nt, Option.bind_some, if_pos h32, hz.o, e1, e2']
  · have h9 := v2 k hk
    rw [Nat.zero_add] at h9
    simpa using h9
end WALK
/-- the lines told anew -/
theorem X4_retell_loop {s t a tn ra rb : Nat} {c : Nat → Nat} {Z : Nat → Nat → Int32} {D : Nat → Int32} (hst : s + 3 ≤ t ∨ t + 2 ≤ s) (hsa : s + 3 ≤ a ∨ a + 36 ≤ s) (h32 : tn ≤ 32) : ∀ (q k fuel : Nat) (w : Fw) (B I : Nat → Int32), k + q = tn → q < fuel → Sh w s tn B I ra rb → Tp w t tn c → RtZ w a Z D → ∃ w' B' I', fX4_retell_L10 fuel w s t a (nI k) = some w' ∧ Sh w' s tn B' I' ra rb ∧ (∀ i, i < k → B' i = B i ∧ I' i = I i) ∧ (∀ i, k ≤ i → i < tn → B' i = nI (c i) ∧ I' i = D i) ∧ Out w w' s (s + 3)
  | q, k, 0, w, B, I, h1, h2, h, hp, hz => by omega
  | 0, k, fuel + 1, w, B, I, h1, h2, h, hp, hz => by
    have : k = tn := by omega
    subst this
    rw [fX4_retell_L10]
    simp only [h.g0, Option.bind_some, if_pos (nI_le (Nat.le_refl k) (by omega))]
    exact ⟨w, B, I, rfl, h, fun _ _ => ⟨rfl, rfl⟩, fun i h3 h4 => by omega, Out.rf⟩
  | q + 1, k, fuel + 1, w, B, I, h1, h2, h, hp, hz => by
    have hle : ¬ nI tn ≤ nI k := nI_ge (by omega) (by omega)
    have hk : k < tn := by omega
    obtain ⟨w1, e1, q1, o1⟩ := h.sB (show k < 32 by omega) (nI (c k))
    have hp1 := hp.frame (w' := w1) (fun p p1 p2 => o1 p (by omega))
    have hz1 := hz.frame (w' := w1) (fun p p1 p2 => o1 p (by omega))
    obtain ⟨w2, e2, q2, o2⟩ := q1.sI (show k < 32 by omega) (D k)
    have hp2 := hp1.frame (w' := w2) (fun p p1 p2 => o2 p (by omega))
    have hz2 := hz1.frame (w' := w2) (fun p p1 p2 => o2 p (by omega))
    have hid : fX3_idAt w1 a (nI k) = some (D k) := by simp only [fX3_idAt, hz1.g1, Option.bind_some, hz1.d (show k < 32 by omega)]
    obtain ⟨w3, B3, I3, e3, q3, u3, v3, o3⟩ := X4_retell_loop hst hsa h32 q (k + 1) fuel w2 _ _ (by omega) (by omega) q2 hp2 hz2
    refine ⟨w3, B3, I3, ?_, q3, fun i hi => ?_, fun i hi hi2 => ?_, (o1.tr o2).tr o3⟩
    · rw [fX4_retell_L10]
      simp only [h.g0, Option.bind_some, hle, if_false, h.g1, hp.o, X5_byteAt_q hp hk, e1, q1.g2, hz1.o, hid, e2, nI_1, e3]
    · rw [(u3 i (by omega)).1, (u3 i (by omega)).2]
      simp [upd, show ¬ i = k by omega]
    · by_cases hik : i = k
      · subst hik
        rw [(u3 i (by omega)).1, (u3 i (by omega)).2]
        simp [upd]
      · exact v3 i (by omega) hi2
theorem X4_retell_q {w : Fw} {s t a nn tn ra rb : Nat} {c : Nat → Nat} {Z : Nat → Nat → Int32} {D B I : Nat → Int32} (hst : s + 3 ≤ t ∨ t + 2 ≤ s) (hsa : s + 3 ≤ a ∨ a + 36 ≤ s) (h32 : tn ≤ 32) (h : Sh w s nn B I ra rb) (hp : Tp w t tn c) (hz : RtZ w a Z D) : ∃ w' B' I', fX4_retell w s t a = some w' ∧ Sh w' s tn B' I' ra rb ∧ (∀ i, i < tn → B' i = nI (c i) ∧ I' i = D i) ∧ Out w w' s (s + 3) := by
  obtain ⟨w1, e1, q1, o1⟩ := h.sn tn
  have hp1 := hp.frame (w' := w1) (fun p p1 p2 => o1 p (by omega))
  have hz1 := hz.frame (w' := w1) (fun p p1 p2 => o1 p (by omega))
  obtain ⟨w2, B2, I2, e2, q2, -, v2, o2⟩ := X4_retell_loop hst hsa h32 tn 0 1000 w1 B I (by omega) (by omega) q1 hp1 hz1
  refine ⟨w2, B2, I2, ?_, q2, fun i hi => v2 i (Nat.zero_le _) hi, o1.tr o2⟩
  rw [nI_0] at e2
  simp only [fX4_retell, hp.o, X5_size_q hp, Option.bind_some, e1, e2]
