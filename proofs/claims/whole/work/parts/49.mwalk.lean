def mark (ι : Nat → Nat) : Option Nat → Int32
  | none => -1
  | some x => nI (ι x)
theorem wst_end {b c : Nat → Nat} {nn tn i : Nat} (h : nn ≤ i) : ∀ (q j : Nat), j + q = tn → kp (wst b c nn tn i j) = 0 ∧ ∀ k, (wst b c nn tn i j).getD k none = none
  | 0, j, e => by
    rw [wst_out b c nn tn (by omega)]
    exact ⟨rfl, fun k => by simp [List.getD]⟩
  | q + 1, j, e => by
    rw [wst_past b c nn tn (by omega) h, kp]
    obtain ⟨h1, h2⟩ := wst_end (b := b) (c := c) (tn := tn) h q (j + 1) (by omega)
    refine ⟨h1, fun k => ?_⟩
    cases k with
    | zero => rfl
    | succ k => exact h2 k
section MWALK
variable {m f nn tn : Nat} {b ι c : Nat → Nat} {A : Nat → Nat → Int32}
theorem X7_walk {S : Nat → Int32} (hf : f < 6) (hA : MSrc A f nn tn b ι c) (hT : ∀ i' j', i' ≤ nn → j' ≤ tn → A 21 (33 * i' + j') = nI (lc b c nn tn i' j')) (before : Int32) : ∀ (p fuel i j kept : Nat) (w : Fw) (A' : Nat → Nat → Int32), (nn - i) + (tn - j) = p → p < fuel → i ≤ nn → j ≤ tn → Mo w m S A' → (∀ j', j' ≠ 22 → A' j' = A j') → (∀ k, j ≤ k → k < tn → A' 22 k = -1) → ∃ w' A1, fX7_load_L73 fuel w m (nI f) (nI tn) before (nI i) (nI j) (nI kept) = fX7_load_b214 w' m (nI f) (nI tn) before (nI (kept + kp (wst b c nn tn i j))) ∧ Mo w' m S A1 ∧ (∀ j', j' ≠ 22 → A1 j' = A j') ∧ (∀ k, k < j → A1 22 k = A' 22 k) ∧ (∀ k, k < tn - j → A1 22 (j + k) = mark ι ((wst b c nn tn i j).getD k none)) ∧ Out w w' m (m + 23)
  | p, 0, i, j, kept, w, A', h1, h2, hi, hj, h, ha, hn => by omega
  | p, fuel + 1, i, j, kept, w, A', h1, h2, hi, hj, h, ha, hn => by
    have hA' := hA.congr (ha 1 (by decide)) (ha 2 (by decide)) (ha 3 (by decide)) (ha 20 (by decide))
    have h5 := hA.2.2.2.1
    have h6 := hA.2.2.2.2
    have h21 : A' 21 = A 21 := ha 21 (by decide)
    rw [fX7_load_L73]
    simp only [h.g0, h.l (j := 1) (i := f) (by omega) (by omega) hf, hA'.1, Option.bind_some]
    by_cases hin : i < nn
    · rw [if_neg (nI_ge hin (by omega))]
      by_cases hjn : j < tn
      · rw [if_neg (nI_ge hjn (by omega))]
        have t0 := hT i j (by omega) (by omega)
        have t1 := hT (i + 1) j (by omega) (by omega)
        have t2 := hT (i + 1) (j + 1) (by omega) (by omega)
        rw [← Nat.add_assoc] at t2
        have l0 := @lc_le b c nn tn i j
        have l1 := @lc_le b c nn tn (i + 1) j
        have l2 := @lc_le b c nn tn (i + 1) (j + 1)
        have x0 : 33 * i + j < szM 21 := by show 33 * i + j < 1089; omega
        have x1 : 33 * (i + 1) + j < szM 21 := by show 33 * (i + 1) + j < 1089; omega
        have x2 : 33 * (i + 1) + j + 1 < szM 21 := by show 33 * (i + 1) + j + 1 < 1089; omega
        have x4 : 32 * f + i < szM 2 := by show 32 * f + i < 192; omega
        have x4' : 32 * f + i < szM 3 := by show 32 * f + i < 192; omega
        have x5 : j < szM 20 := by show j < 40; omega
        have x6 : j < szM 22 := by show j < 32; omega
        simp only [nI_1, ix33, ix32, h.g28, h.g1, h.g2, h.g27, h.g29, Option.bind_some, h.l (j := 21) (by omega) (by omega) x0, h.l (j := 21) (by omega) (by omega) x1, h.l (j := 21) (by omega) (by omega) x2, h.l (j := 2) (by omega) (by omega) x4, h.l (j := 3) (by omega) (by omega) x4', h.l (j := 20) (by omega) (by omega) x5, h21, t0, t1, t2, (hA'.2.1 i hin).1, (hA'.2.1 i hin).2.2.1, (hA'.2.2.1 j hjn).1, hA'.eqb hin hjn, nI_one_add, nI_eq (show lc b c nn tn i j < 2 ^ 31 by omega) (show 1 + lc b c nn tn (i + 1) (j + 1) < 2 ^ 31 by omega), fX7_load_b182, fX7_load_b211, nI_eq (show lc b c nn tn (i + 1) j < 2 ^ 31 by omega) (show lc b c nn tn i j < 2 ^ 31 by omega)]
        by_cases he : b i = c j
        · have hl : lc b c nn tn i j = 1 + lc b c nn tn (i + 1) (j + 1) := by rw [lc_in b c nn tn hin hjn, if_pos he]
          rw [if_pos he, if_pos hl]
          obtain ⟨w1, e1, q1, o1⟩ := h.s (j := 22) (i := j) (by omega) (by omega) x6 (nI (ι i))
          rw [e1, Option.bind_some]
          obtain ⟨w2, A2, e2, q2, a2, u2, v2, o2⟩ := X7_walk hf hA hT before (p - 2) fuel (i + 1) (j + 1) (kept + 1) w1 _ (by omega) (by omega) (by omega) (by omega) q1 (fun j' hj' => by rw [vup_ne hj']; exact ha j' hj') (fun k hk hk2 => by rw [vup_eq]; simp only [upd, if_neg (show ¬ k = j by omega)]; exact hn k (by omega) hk2)
          refine ⟨w2, A2, ?_, q2, a2, fun k hk => ?_, fun k hk => ?_, o1.tr o2⟩
          · rw [e2, wst_eq b c nn tn hjn hin he, kp, show kept + 1 + kp (wst b c nn tn (i + 1) (j + 1)) = kept + (kp (wst b c nn tn (i + 1) (j + 1)) + 1) by omega]
          · rw [u2 k (by omega), vup_eq]; simp [upd, show ¬ k = j by omega]
          · rw [wst_eq b c nn tn hjn hin he]
            cases k with
            | zero =>
              rw [Nat.add_zero, u2 j (by omega), vup_eq]
              simp [upd, mark]
            | succ k =>
              have h9 := v2 k (by omega)
              rw [show j + (k + 1) = j + 1 + k by omega, h9]
              rfl
        · rw [if_neg he]
          by_cases hl : lc b c nn tn (i + 1) j = lc b c nn tn i j
          · rw [if_pos hl]
            obtain ⟨w2, A2, e2, q2, a2, u2, v2, o2⟩ := X7_walk hf hA hT before (p - 1) fuel (i + 1) j kept w A' (by omega) (by omega) (by omega) hj h ha hn
            rw [wst_gone b c nn tn hjn hin he hl]
            exact ⟨w2, A2, e2, q2, a2, u2, v2, o2⟩
          · rw [if_neg hl]
            obtain ⟨w2, A2, e2, q2, a2, u2, v2, o2⟩ := X7_walk hf hA hT before (p - 1) fuel i (j + 1) kept w A' (by omega) (by omega) hi (by omega) h ha (fun k hk hk2 => hn k (by omega) hk2)
            rw [wst_new b c nn tn hjn hin he hl, kp]
            refine ⟨w2, A2, e2, q2, a2, fun k hk => u2 k (by omega), fun k hk => ?_, o2⟩
            cases k with
            | zero => rw [Nat.add_zero, u2 j (by omega), hn j (Nat.le_refl _) hjn]; rfl
            | succ k =>
              have h9 := v2 k (by omega)
              rw [show j + (k + 1) = j + 1 + k by omega, h9]
              rfl
      · rw [if_pos (nI_le (show tn ≤ j by omega) (by omega)), wst_out b c nn tn (by omega), kp]
        exact ⟨w, A', rfl, h, ha, fun _ _ => rfl, fun k hk => by omega, Out.rf⟩
    · obtain ⟨k1, k2⟩ := wst_end (b := b) (c := c) (nn := nn) (tn := tn) (i := i) (by omega) (tn - j) j (by omega)
      rw [if_pos (nI_le (show nn ≤ i by omega) (by omega)), k1]
      exact ⟨w, A', rfl, h, ha, fun _ _ => rfl, fun k hk => by rw [k2, hn (j + k) (by omega) (by omega)]; rfl, Out.rf⟩
theorem X7_put1 {S : Nat → Int32} (K : Fw → Nat → Int32 → Int32 → Int32 → Int32 → Int32 → Option (Int32 × Fw)) (hf : f < 6) {w : Fw} (h : Mo w m S A) {k : Nat} (hk : k < 32) (hc : A 20 k = nI (c k)) (before x6 : Int32) : ∃ w', fX7_load_b255 K w m (nI f) (nI tn) before x6 (nI k) = K w' m (nI f) (nI tn) before x6 (nI (k + 1)) ∧ Mo w' m S (vup (vup A 2 (32 * f + k) (nI (c k))) 3 (32 * f + k) (A 22 k)) ∧ Out w w' m (m + 23) := by
  have x4 : 32 * f + k < szM 2 := by show 32 * f + k < 192; omega
  have x4' : 32 * f + k < szM 3 := by show 32 * f + k < 192; omega
  have x5 : k < szM 20 := by show k < 40; omega
  have x6' : k < szM 22 := by show k < 32; omega
  obtain ⟨w1, e1, q1, o1⟩ := h.s (j := 2) (i := 32 * f + k) (by omega) (by omega) x4 (nI (c k))
  obtain ⟨w2, e2, q2, o2⟩ := q1.s (j := 3) (i := 32 * f + k) (by omega) (by omega) x4' (A 22 k)
  refine ⟨w2, ?_, q2, o1.tr o2⟩
  have v22 : vup A 2 (32 * f + k) (nI (c k)) 22 = A 22 := vup_ne (by decide)
  simp only [fX7_load_b255, h.g1, h.g27, Option.bind_some, h.l (j := 20) (by omega) (by omega) x5, hc, ix32, e1, q1.g2, q1.g29, q1.l (j := 22) (by omega) (by omega) x6', v22, e2, nI_1]
theorem X7_tell (hf : f < 6) (h32 : tn ≤ 32) (before x6 : Int32) : ∀ (q k fuel : Nat) (w : Fw) (S : Nat → Int32) (A : Nat → Nat → Int32) (R : List (Option Nat)) (e : Nat), k + q = tn → R.length = q → q < fuel → Mo w m S A → S 2 = nI e → Nn tn (A 20) c 256 → (∀ t, t < q → A 22 (k + t) = mark ι (R.getD t none)) → (∀ x, some x ∈ R → ι x < 2 ^ 30) → ∃ w' S1 A1, fX7_load_L217 fuel w m (nI f) (nI tn) before x6 (nI k) = ((fX7_ends w' m (nI f) before).bind fun w11 => some (x6, w11)) ∧ Mo w' m S1 A1 ∧ (∀ s, s ≠ 2 → S1 s = S s) ∧ S1 2 = nI (e + nw R) ∧ (∀ j, j ≠ 1 → j ≠ 2 → j ≠ 3 → j ≠ 22 → A1 j = A j) ∧ A1 1 = upd (A 1) f (nI tn) ∧ (∀ t, t < q → A1 2 (32 * f + k + t) = nI (c (k + t)) ∧ A1 3 (32 * f + k + t) = nI ((conv ι e R).getD t 0)) ∧ (∀ x, (x < 32 * f + k ∨ 32 * f + tn ≤ x) → A1 2 x = A 2 x ∧ A1 3 x = A 3 x) ∧ Out w w' m (m + 23)
  | q, k, 0, w, S, A, R, e, h1, h2, h3, h, hs, hc, hm, hi => by omega
  | 0, k, fuel + 1, w, S, A, R, e, h1, h2, h3, h, hs, hc, hm, hi => by
    have : k = tn := by omega
    subst this
    have hR : R = [] := List.length_eq_zero_iff.mp h2
    subst hR
    obtain ⟨w1, e1, q1, o1⟩ := h.s (j := 1) (i := f) (by omega) (by omega) hf (nI k)
    refine ⟨w1, S, _, ?_, q1, fun _ _ => rfl, hs, fun j j1 _ _ _ => vup_ne j1, vup_eq, fun t ht => by omega, fun x _ => ⟨by rw [vup_ne (by decide)], by rw [vup_ne (by decide)]⟩, o1⟩
    rw [fX7_load_L217, if_pos (nI_le (Nat.le_refl k) (by omega))]
    simp only [h.g0, Option.bind_some, e1, q1.o]
  | q + 1, k, fuel + 1, w, S, A, R, e, h1, h2, h3, h, hs, hc, hm, hi => by
    have hle : ¬ nI tn ≤ nI k := nI_ge (by omega) (by omega)
    have hk : k < tn := by omega
    have x6' : k < szM 22 := by show k < 32; omega
    have hm0 := hm 0 (by omega)
    rw [Nat.add_zero] at hm0
    match R, h2 with
    | none :: R, h2 =>
      have hm0' : A 22 k = -1 := hm0
      obtain ⟨w1, e1, q1, o1⟩ := h.s (j := 22) (i := k) (by omega) (by omega) x6' (nI e)
      obtain ⟨w2, e2, q2, o2⟩ := q1.p5 (nI (e + 1))
      have hc2 : vup A 22 k (nI e) 20 k = nI (c k) := by rw [vup_ne (by decide)]; exact (hc k hk).1
      obtain ⟨w3, e3, q3, o3⟩ := X7_put1 (tn := tn) (fX7_load_L217 fuel) hf q2 (show k < 32 by omega) hc2 before x6
      obtain ⟨w4, S4, A4, e4, q4, a1, a2, a3, a4, a5, a6, o4⟩ := X7_tell hf h32 before x6 q (k + 1) fuel w3 _ _ R (e + 1) (by omega) (by simpa using h2) (by omega) q3 (by simp [upd]) (by rw [vup_ne (by decide), vup_ne (by decide), vup_ne (by decide)]; exact hc) (fun t ht => by
        rw [vup_ne (by decide), vup_ne (by decide), vup_eq]
        have h9 := hm (t + 1) (by omega)
        rw [show k + (t + 1) = k + 1 + t by omega] at h9
        simp only [upd, if_neg (show ¬ k + 1 + t = k by omega)]
        exact h9) (fun x hx => hi x (List.mem_cons_of_mem _ hx))
      refine ⟨w4, S4, A4, ?_, q4, fun s hs' => ?_, ?_, fun j j1 j2 j3 j22 => ?_, ?_, fun t ht => ?_, fun x hx => ?_, (((o1.tr o2).tr o3).tr o4)⟩
      · rw [fX7_load_L217, if_neg hle]
        simp only [h.g29, Option.bind_some, h.l (j := 22) (by omega) (by omega) x6', hm0', if_true, h.g5, hs, e1, q1.g5, nI_1, e2, e3, e4]
      · rw [a1 s hs']; simp [upd, hs']
      · rw [a2, nw, show e + 1 + nw R = e + (nw R + 1) by omega]
      · rw [a3 j j1 j2 j3 j22, vup_ne j3, vup_ne j2, vup_ne j22]
      · rw [a4, vup_ne (by decide), vup_ne (by decide), vup_ne (by decide)]
      · cases t with
        | zero =>
          rw [Nat.add_zero, Nat.add_zero, (a6 _ (Or.inl (by omega))).1, (a6 _ (Or.inl (by omega))).2, vup_ne (by decide), vup_eq, vup_eq, vup_eq]
          simp [upd, conv]
        | succ t =>
          have h9 := a5 t (by omega)
          rw [show 32 * f + (k + 1) + t = 32 * f + k + (t + 1) by omega, show k + 1 + t = k + (t + 1) by omega] at h9
          exact h9
      · rw [(a6 x (by omega)).1, (a6 x (by omega)).2, vup_ne (by decide), vup_eq, vup_eq, vup_ne (show 3 ≠ 2 by decide), vup_ne (show 2 ≠ 22 by decide), vup_ne (show 3 ≠ 22 by decide)]
        simp [upd, show ¬ x = 32 * f + k by omega]
    | some y :: R, h2 =>
      have hy := hi y List.mem_cons_self
      have hm0' : A 22 k = nI (ι y) := hm0
      have hne : ¬ nI (ι y) = -1 := nI_m1 (by omega)
      obtain ⟨w3, e3, q3, o3⟩ := X7_put1 (tn := tn) (fX7_load_L217 fuel) hf h (show k < 32 by omega) (hc k hk).1 before x6
      obtain ⟨w4, S4, A4, e4, q4, a1, a2, a3, a4, a5, a6, o4⟩ := X7_tell hf h32 before x6 q (k + 1) fuel w3 _ _ R e (by omega) (by simpa using h2) (by omega) q3 hs (by rw [vup_ne (by decide), vup_ne (by decide)]; exact hc) (fun t ht => by
        rw [vup_ne (by decide), vup_ne (by decide)]
        have h9 := hm (t + 1) (by omega)
        rw [show k + (t + 1) = k + 1 + t by omega] at h9
        exact h9) (fun x hx => hi x (List.mem_cons_of_mem _ hx))
      refine ⟨w4, S4, A4, ?_, q4, a1, a2, fun j j1 j2 j3 j22 => ?_, ?_, fun t ht => ?_, fun x hx => ?_, o3.tr o4⟩
      · rw [fX7_load_L217, if_neg hle]
        simp only [h.g29, Option.bind_some, h.l (j := 22) (by omega) (by omega) x6', hm0', if_neg hne, e3, e4]
      · rw [a3 j j1 j2 j3 j22, vup_ne j3, vup_ne j2]
      · rw [a4, vup_ne (by decide), vup_ne (by decide)]
      · cases t with
        | zero =>
          rw [Nat.add_zero, Nat.add_zero, (a6 _ (Or.inl (by omega))).1, (a6 _ (Or.inl (by omega))).2, vup_ne (by decide), vup_eq, vup_eq, hm0']
          simp [upd, conv]
        | succ t =>
          have h9 := a5 t (by omega)
          rw [show 32 * f + (k + 1) + t = 32 * f + k + (t + 1) by omega, show k + 1 + t = k + (t + 1) by omega] at h9
          exact h9
      · rw [(a6 x (by omega)).1, (a6 x (by omega)).2, vup_ne (by decide), vup_eq, vup_eq, vup_ne (show 3 ≠ 2 by decide)]
        simp [upd, show ¬ x = 32 * f + k by omega]
end MWALK
