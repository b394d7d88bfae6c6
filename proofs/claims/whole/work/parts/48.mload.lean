/-! ===== load: the reference's table and walk ===== -/
theorem ix33 (f k : Nat) : (33 : Int32) * nI f + nI k = nI (33 * f + k) := by
  have h1 : (33 : Int32) * nI f = nI (33 * f) := by
    show Int32.ofNat 33 * Int32.ofNat f = Int32.ofNat (33 * f)
    rw [Int32.ofNat_mul]
  rw [h1, nI_add]
def MSrc (A : Nat → Nat → Int32) (f nn tn : Nat) (b ι c : Nat → Nat) : Prop := A 1 f = nI nn ∧ (∀ i, i < nn → A 2 (32 * f + i) = nI (b i) ∧ b i < 256 ∧ A 3 (32 * f + i) = nI (ι i) ∧ ι i < 2 ^ 30) ∧ Nn tn (A 20) c 256 ∧ nn ≤ 32 ∧ tn ≤ 32
theorem MSrc.congr {A A' : Nat → Nat → Int32} {f nn tn : Nat} {b ι c : Nat → Nat} (h : MSrc A f nn tn b ι c) (h1 : A' 1 = A 1) (h2 : A' 2 = A 2) (h3 : A' 3 = A 3) (h20 : A' 20 = A 20) : MSrc A' f nn tn b ι c := by
  obtain ⟨a1, a2, a3, a4⟩ := h
  exact ⟨by rw [h1]; exact a1, fun i hi => by rw [h2, h3]; exact a2 i hi, by rw [h20]; exact a3, a4⟩
theorem MSrc.eqb {A : Nat → Nat → Int32} {f nn tn : Nat} {b ι c : Nat → Nat} (h : MSrc A f nn tn b ι c) {i j : Nat} (hi : i < nn) (hj : j < tn) : nI (b i) = nI (c j) ↔ b i = c j := by
  have h1 := (h.2.1 i hi).2.1
  have h2 := (h.2.2.1 j hj).2
  exact nI_eq (by omega) (by omega)
def MTK (b c : Nat → Nat) (nn tn : Nat) (T : Nat → Int32) (i q : Nat) : Prop := ∀ i' j', i' ≤ nn → j' ≤ tn → (i < i' ∨ (i' = i ∧ q ≤ j')) → T (33 * i' + j') = nI (lc b c nn tn i' j')
section MLO
variable {m f nn tn : Nat} {b ι c : Nat → Nat} {S : Nat → Int32} {A : Nat → Nat → Int32}
theorem X7_com_in (hf : f < 6) (hA : MSrc A f nn tn b ι c) (K : Fw → Nat → Int32 → Int32 → Int32 → Option Fw) {i : Nat} (hi : i ≤ nn) : ∀ (q fuel : Nat) (w : Fw) (A' : Nat → Nat → Int32), q ≤ tn + 1 → q < fuel → Mo w m S A' → (∀ j, j ≠ 21 → A' j = A j) → MTK b c nn tn (A' 21) i q → ∃ w' A1, fX7_commons_L14 K fuel w m (nI f) (nI tn) (nI i) (nI q - 1) = K w' m (nI f) (nI tn) (nI i - 1) ∧ Mo w' m S A1 ∧ (∀ j, j ≠ 21 → A1 j = A j) ∧ MTK b c nn tn (A1 21) i 0 ∧ Out w w' m (m + 23)
  | q, 0, w, A', h1, h2, h, ha, hT => by omega
  | 0, fuel + 1, w, A', h1, h2, h, ha, hT => by
    rw [fX7_commons_L14, if_pos (by decide), nI_m1_add]
    exact ⟨w, A', rfl, h, ha, hT, Out.rf⟩
  | q + 1, fuel + 1, w, A', h1, h2, h, ha, hT => by
    have hA' := hA.congr (ha 1 (by decide)) (ha 2 (by decide)) (ha 3 (by decide)) (ha 20 (by decide))
    have h5 := hA.2.2.2.1
    have h6 := hA.2.2.2.2
    have hix : 33 * i + q < szM 21 := by show 33 * i + q < 1089; omega
    obtain ⟨w1, e1, q1, o1⟩ := h.s (j := 21) (i := 33 * i + q) (by omega) (by omega) hix (nI (lc b c nn tn i q))
    have hb : fX7_commons_b117 K (fX7_commons_L14 K fuel) w m (nI f) (nI tn) (nI i) (nI q) (nI (lc b c nn tn i q)) = fX7_commons_L14 K fuel w1 m (nI f) (nI tn) (nI i) (nI q - 1) := by
      rw [fX7_commons_b117, h.g28, Option.bind_some, ix33, e1, Option.bind_some, nI_m1_add]
    have hcell : fX7_commons_L14 K (fuel + 1) w m (nI f) (nI tn) (nI i) (nI q) = fX7_commons_b117 K (fX7_commons_L14 K fuel) w m (nI f) (nI tn) (nI i) (nI q) (nI (lc b c nn tn i q)) := by
      rw [fX7_commons_L14, if_neg (nI_pos (show q < 2 ^ 31 by omega))]
      simp only [h.g0, h.l (j := 1) (i := f) (by omega) (by omega) hf, hA'.1, Option.bind_some]
      by_cases hin : i < nn
      · rw [if_neg (nI_ge hin (by omega))]
        by_cases hjn : q < tn
        · rw [if_neg (nI_ge hjn (by omega))]
          have t1 := hT (i + 1) q (by omega) (by omega) (Or.inl (by omega))
          have t2 := hT (i + 1) (q + 1) (by omega) (by omega) (Or.inl (by omega))
          have t3 := hT i (q + 1) (by omega) (by omega) (Or.inr ⟨rfl, Nat.le_refl _⟩)
          have l1 := @lc_le b c nn tn (i + 1) q
          have l2 := @lc_le b c nn tn (i + 1) (q + 1)
          have l3 := @lc_le b c nn tn i (q + 1)
          have x1 : 33 * (i + 1) + q < szM 21 := by show 33 * (i + 1) + q < 1089; omega
          have x2 : 33 * (i + 1) + q + 1 < szM 21 := by show 33 * (i + 1) + q + 1 < 1089; omega
          have x3 : 33 * i + q + 1 < szM 21 := by show 33 * i + q + 1 < 1089; omega
          have x4 : 32 * f + i < szM 2 := by show 32 * f + i < 192; omega
          have x5 : q < szM 20 := by show q < 40; omega
          rw [← Nat.add_assoc] at t2 t3
          simp only [nI_1, ix33, ix32, h.g28, h.g1, h.g27, Option.bind_some, h.l (j := 21) (by omega) (by omega) x1, h.l (j := 21) (by omega) (by omega) x2, h.l (j := 21) (by omega) (by omega) x3, h.l (j := 2) (by omega) (by omega) x4, h.l (j := 20) (by omega) (by omega) x5, t1, t2, t3, (hA'.2.1 i hin).1, (hA'.2.2.1 q hjn).1, hA'.eqb hin hjn, maxI (show lc b c nn tn (i + 1) q < 2 ^ 31 by omega) (show lc b c nn tn i (q + 1) < 2 ^ 31 by omega), nI_one_add, maxI (show max (lc b c nn tn (i + 1) q) (lc b c nn tn i (q + 1)) < 2 ^ 31 by omega) (show 1 + lc b c nn tn (i + 1) (q + 1) < 2 ^ 31 by omega)]
          rw [lc_in' b c nn tn hin hjn]
          split <;> rfl
        · rw [if_pos (nI_le (show tn ≤ q by omega) (by omega)), lc_end b c nn tn (Or.inr (by omega))]
          rfl
      · rw [if_pos (nI_le (show nn ≤ i by omega) (by omega)), lc_end b c nn tn (Or.inl (by omega))]
        rfl
    obtain ⟨w2, A2, e2, q2, a2, t2, o2⟩ := X7_com_in hf hA K hi q fuel w1 _ (by omega) (by omega) q1 (fun j hj => by rw [vup_ne hj]; exact ha j hj) (by
      intro i' j' hi' hj' hor
      rw [vup_eq]
      by_cases hii : i' = i ∧ j' = q
      · obtain ⟨rfl, rfl⟩ := hii
        simp [upd]
      · have : ¬ 33 * i' + j' = 33 * i + q := by omega
        have h9 : upd (A' 21) (33 * i + q) (nI (lc b c nn tn i q)) (33 * i' + j') = A' 21 (33 * i' + j') := by simp [upd, this]
        rw [h9]
        exact hT i' j' hi' hj' (by omega))
    refine ⟨w2, A2, ?_, q2, a2, t2, o1.tr o2⟩
    rw [nI_pred, hcell, hb, e2]
theorem X7_com_out (hf : f < 6) (hA : MSrc A f nn tn b ι c) : ∀ (p fuel : Nat) (w : Fw) (A' : Nat → Nat → Int32), p ≤ nn + 1 → p < fuel → Mo w m S A' → (∀ j, j ≠ 21 → A' j = A j) → (∀ i' j', i' ≤ nn → j' ≤ tn → p ≤ i' → A' 21 (33 * i' + j') = nI (lc b c nn tn i' j')) → ∃ w' A1, fX7_commons_L7 fuel w m (nI f) (nI tn) (nI p - 1) = some w' ∧ Mo w' m S A1 ∧ (∀ j, j ≠ 21 → A1 j = A j) ∧ (∀ i' j', i' ≤ nn → j' ≤ tn → A1 21 (33 * i' + j') = nI (lc b c nn tn i' j')) ∧ Out w w' m (m + 23)
  | p, 0, w, A', h1, h2, h, ha, hT => by omega
  | 0, fuel + 1, w, A', h1, h2, h, ha, hT => by
    rw [fX7_commons_L7, if_pos (by decide)]
    exact ⟨w, A', rfl, h, ha, fun i' j' hi hj => hT i' j' hi hj (Nat.zero_le _), Out.rf⟩
  | p + 1, fuel + 1, w, A', h1, h2, h, ha, hT => by
    have h5 := hA.2.2.2.1
    have h6 := hA.2.2.2.2
    rw [nI_pred, fX7_commons_L7, if_neg (nI_pos (show p < 2 ^ 31 by omega))]
    obtain ⟨w1, A1, e1, q1, a1, t1, o1⟩ := X7_com_in (S := S) hf hA (fX7_commons_L7 fuel) (show p ≤ nn by omega) (tn + 1) 1000 w A' (by omega) (by omega) h ha (fun i' j' hi' hj' hor => hT i' j' hi' hj' (by omega))
    rw [nI_pred] at e1
    rw [e1]
    obtain ⟨w2, A2, e2, q2, a2, t2, o2⟩ := X7_com_out hf hA p fuel w1 A1 (by omega) (by omega) q1 a1 (fun i' j' hi' hj' hle => t1 i' j' hi' hj' (by omega))
    exact ⟨w2, A2, e2, q2, a2, t2, o1.tr o2⟩
theorem X7_commons_q {w : Fw} (hf : f < 6) (hA : MSrc A f nn tn b ι c) (h : Mo w m S A) : ∃ w' A1, fX7_commons w m (nI f) (nI tn) = some w' ∧ Mo w' m S A1 ∧ (∀ j, j ≠ 21 → A1 j = A j) ∧ (∀ i' j', i' ≤ nn → j' ≤ tn → A1 21 (33 * i' + j') = nI (lc b c nn tn i' j')) ∧ Out w w' m (m + 23) := by
  have h5 := hA.2.2.2.1
  obtain ⟨w1, A1, e1, r⟩ := X7_com_out (S := S) hf hA (nn + 1) 1000 w A (by omega) (by omega) h (fun _ _ => rfl) (fun i' j' hi' hj' hle => by omega)
  rw [nI_pred] at e1
  exact ⟨w1, A1, by simp only [fX7_commons, h.g0, h.l (j := 1) (i := f) (by omega) (by omega) hf, hA.1, Option.bind_some, e1], r⟩
/-- no line has an id yet -/
theorem X7_none_loop (h32 : tn ≤ 32) (before : Int32) : ∀ (q k fuel : Nat) (w : Fw) (A' : Nat → Nat → Int32), k + q = tn → q < fuel → Mo w m S A' → (∀ j, j ≠ 22 → A' j = A j) → (∀ i, i < k → A' 22 i = -1) → ∃ w' A1, fX7_load_L44 fuel w m (nI f) (nI tn) before (nI k) = fX7_load_L73 1000 w' m (nI f) (nI tn) before 0 0 0 ∧ Mo w' m S A1 ∧ (∀ j, j ≠ 22 → A1 j = A j) ∧ (∀ i, i < tn → A1 22 i = -1) ∧ Out w w' m (m + 23)
  | q, k, 0, w, A', h1, h2, h, ha, hn => by omega
  | 0, k, fuel + 1, w, A', h1, h2, h, ha, hn => by
    have : k = tn := by omega
    subst this
    rw [fX7_load_L44, if_pos (nI_le (Nat.le_refl k) (by omega))]
    exact ⟨w, A', rfl, h, ha, hn, Out.rf⟩
  | q + 1, k, fuel + 1, w, A', h1, h2, h, ha, hn => by
    have hle : ¬ nI tn ≤ nI k := nI_ge (by omega) (by omega)
    have hk : k < szM 22 := by show k < 32; omega
    obtain ⟨w1, e1, q1, o1⟩ := h.s (j := 22) (i := k) (by omega) (by omega) hk (-1)
    obtain ⟨w2, A2, e2, q2, a2, n2, o2⟩ := X7_none_loop h32 before q (k + 1) fuel w1 _ (by omega) (by omega) q1 (fun j hj => by rw [vup_ne hj]; exact ha j hj) (fun i hi => by
      rw [vup_eq]
      by_cases hik : i = k
      · subst hik; simp [upd]
      · have := hn i (by omega)
        simp [upd, hik, this])
    refine ⟨w2, A2, ?_, q2, a2, n2, o1.tr o2⟩
    rw [fX7_load_L44, if_neg hle, h.g29, Option.bind_some, e1, Option.bind_some, nI_1, e2]
end MLO
