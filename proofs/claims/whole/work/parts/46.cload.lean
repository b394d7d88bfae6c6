/-! ===== load: the class's table and walk ===== -/
def RtZ (w : Fw) (a : Nat) (Z : Nat → Nat → Int32) (D : Nat → Int32) : Prop := ∃ ρ : Nat → Option Nat, w a = some (.inr (.inr (3, [.ref (a + 1), .ref (a + 35)]))) ∧ w (a + 1) = some (.inr (.inl (1, 33, ρ))) ∧ (∀ i, i < 33 → ρ i = some (a + 2 + i)) ∧ (∀ i, i < 33 → w (a + 2 + i) = some (.inl (33, Z i))) ∧ w (a + 35) = some (.inl (32, D))
theorem Rt.z {w : Fw} {a : Nat} (h : Rt w a) : ∃ Z D, RtZ w a Z D := by
  obtain ⟨ρ, Z, D, h⟩ := h
  exact ⟨Z, D, ρ, h⟩
theorem RtZ.rt {w : Fw} {a : Nat} {Z : Nat → Nat → Int32} {D : Nat → Int32} (h : RtZ w a Z D) : Rt w a := by
  obtain ⟨ρ, h⟩ := h
  exact ⟨ρ, Z, D, h⟩
section TB
variable {w : Fw} {a : Nat} {Z : Nat → Nat → Int32} {D : Nat → Int32}
theorem RtZ.frame {w' : Fw} (h : RtZ w a Z D) (he : ∀ q, a ≤ q → q < a + 36 → w' q = w q) : RtZ w' a Z D := by
  obtain ⟨ρ, h1, h2, h3, h4, h5⟩ := h
  exact ⟨ρ, by rw [he _ (by omega) (by omega)]; exact h1, by rw [he _ (by omega) (by omega)]; exact h2, h3, fun i hi => by rw [he _ (by omega) (by omega)]; exact h4 i hi, by rw [he _ (by omega) (by omega)]; exact h5⟩
theorem RtZ.o (h : RtZ w a Z D) : isO w a 3 = some () := by
  obtain ⟨ρ, h1, -⟩ := h
  exact isO_ok h1
theorem RtZ.g0 (h : RtZ w a Z D) : gR w a 3 0 = some (a + 1) := by
  obtain ⟨ρ, h1, -⟩ := h
  exact gR_ok h1 rfl
theorem RtZ.g1 (h : RtZ w a Z D) : gR w a 3 1 = some (a + 35) := by
  obtain ⟨ρ, h1, -⟩ := h
  exact gR_ok h1 rfl
theorem RtZ.r (h : RtZ w a Z D) {i : Nat} (hi : i < 33) : lR w 1 (a + 1) (nI i) = some (a + 2 + i) := by
  obtain ⟨ρ, h1, h2, h3, -⟩ := h
  exact lR_ok h2 hi (by decide) (h3 i hi)
theorem RtZ.l (h : RtZ w a Z D) {i j : Nat} (hi : i < 33) (hj : j < 33) : lI w (a + 2 + i) (nI j) = some (Z i j) := by
  obtain ⟨ρ, h1, h2, h3, h4, -⟩ := h
  exact lI_ok (h4 i hi) hj (by decide)
theorem RtZ.d (h : RtZ w a Z D) {j : Nat} (hj : j < 32) : lI w (a + 35) (nI j) = some (D j) := by
  obtain ⟨ρ, h1, h2, h3, h4, h5⟩ := h
  exact lI_ok h5 hj (by decide)
theorem RtZ.s (h : RtZ w a Z D) {i j : Nat} (hi : i < 33) (hj : j < 33) (x : Int32) : ∃ w', sI w (a + 2 + i) (nI j) x = some w' ∧ RtZ w' a (vup Z i j x) D ∧ Out w w' a (a + 36) := by
  obtain ⟨ρ, h1, h2, h3, h4, h5⟩ := h
  refine ⟨_, sI_ok (h4 i hi) hj (by decide), ⟨ρ, by rw [fup_ne (by omega)]; exact h1, by rw [fup_ne (by omega)]; exact h2, h3, fun k hk => ?_, by rw [fup_ne (by omega)]; exact h5⟩, Out.fup (by omega) (by omega)⟩
  by_cases hki : k = i
  · subst hki
    rw [fup_eq, vup_eq]
  · rw [fup_ne (by omega), vup_ne hki]
    exact h4 k hk
theorem RtZ.sd (h : RtZ w a Z D) {j : Nat} (hj : j < 32) (x : Int32) : ∃ w', sI w (a + 35) (nI j) x = some w' ∧ RtZ w' a Z (upd D j x) ∧ Out w w' a (a + 36) := by
  obtain ⟨ρ, h1, h2, h3, h4, h5⟩ := h
  exact ⟨_, sI_ok h5 hj (by decide), ⟨ρ, by rw [fup_ne (by omega)]; exact h1, by rw [fup_ne (by omega)]; exact h2, h3, fun k hk => by rw [fup_ne (by omega)]; exact h4 k hk, fup_eq _ _ _⟩, Out.fup (by omega) (by omega)⟩
end TB
theorem X5_byteAt_q {w : Fw} {a tn : Nat} {τ : Nat → Nat} (h : Tp w a tn τ) {k : Nat} (hk : k < tn) : fX5_byteAt w a (nI k) = some (nI (τ k)) := by
  obtain ⟨h0, T, h1, h2, h3⟩ := h
  simp only [fX5_byteAt, gR_ok h1 (show ([Value.int (nI tn), Value.ref (a + 1)] : List Value)[1]? = some (.ref (a + 1)) from rfl), Option.bind_some, lI_ok h2 (show k < 40 by omega) (by decide), (h3 k hk).1]
/-- the lines that were, and the tape -/
def Src (w : Fw) (s t nn tn : Nat) (b ι c : Nat → Nat) : Prop := (∃ B I ra rb, Sh w s nn B I ra rb ∧ Nn nn B b 256 ∧ Nn nn I ι (2 ^ 30)) ∧ Tp w t tn c ∧ nn ≤ 32 ∧ tn ≤ 32
section SRC
variable {w : Fw} {s t nn tn : Nat} {b ι c : Nat → Nat}
theorem Src.frame {w' : Fw} (h : Src w s t nn tn b ι c) (h1 : ∀ q, s ≤ q → q < s + 3 → w' q = w q) (h2 : ∀ q, t ≤ q → q < t + 2 → w' q = w q) : Src w' s t nn tn b ι c := by
  obtain ⟨⟨B, I, ra, rb, a1, a2, a3⟩, a4, a5, a6⟩ := h
  exact ⟨⟨B, I, ra, rb, a1.frame h1, a2, a3⟩, a4.frame h2, a5, a6⟩
theorem Src.os (h : Src w s t nn tn b ι c) : isO w s 4 = some () := by
  obtain ⟨⟨B, I, ra, rb, a1, a2, a3⟩, a4, a5, a6⟩ := h
  exact a1.o
theorem Src.ot (h : Src w s t nn tn b ι c) : isO w t 5 = some () := h.2.1.o
theorem Src.ns (h : Src w s t nn tn b ι c) : fX4_size w s = some (nI nn) := by
  obtain ⟨⟨B, I, ra, rb, a1, a2, a3⟩, a4, a5, a6⟩ := h
  exact X4_size_q a1
theorem Src.nt (h : Src w s t nn tn b ι c) : fX5_size w t = some (nI tn) := X5_size_q h.2.1
theorem Src.bs (h : Src w s t nn tn b ι c) {i : Nat} (hi : i < nn) : fX4_byteAt w s (nI i) = some (nI (b i)) ∧ b i < 256 := by
  obtain ⟨⟨B, I, ra, rb, a1, a2, a3⟩, a4, a5, a6⟩ := h
  exact ⟨by rw [X4_byteAt_q a1 (show i < 32 by omega), (a2 i hi).1], (a2 i hi).2⟩
theorem Src.is (h : Src w s t nn tn b ι c) {i : Nat} (hi : i < nn) : fX4_idAt w s (nI i) = some (nI (ι i)) ∧ ι i < 2 ^ 30 := by
  obtain ⟨⟨B, I, ra, rb, a1, a2, a3⟩, a4, a5, a6⟩ := h
  exact ⟨by rw [X4_idAt_q a1 (show i < 32 by omega), (a3 i hi).1], (a3 i hi).2⟩
theorem Src.bt (h : Src w s t nn tn b ι c) {j : Nat} (hj : j < tn) : fX5_byteAt w t (nI j) = some (nI (c j)) ∧ c j < 256 := by
  obtain ⟨-, T, -, -, h3⟩ := h.2.1
  exact ⟨X5_byteAt_q h.2.1 hj, (h3 j hj).2⟩
theorem Src.eqb (h : Src w s t nn tn b ι c) {i j : Nat} (hi : i < nn) (hj : j < tn) : nI (b i) = nI (c j) ↔ b i = c j := by
  have h1 := (h.bs hi).2
  have h2 := (h.bt hj).2
  exact nI_eq (by omega) (by omega)
end SRC
theorem maxI {x y : Nat} (hx : x < 2 ^ 31) (hy : y < 2 ^ 31) : (if nI x < nI y then nI y else nI x) = nI (max x y) := by
  by_cases h : x < y
  · rw [if_pos (nI_lt h hy), Nat.max_eq_right (by omega)]
  · rw [if_neg (nI_nlt (by omega) hx), Nat.max_eq_left (by omega)]
theorem nI_one_add (x : Nat) : 1 + nI x = nI (1 + x) := nI_add 1 x
theorem nI_m1_add (x : Nat) : nI x + (-1) = nI x - 1 := by
  rw [Int32.sub_eq_add_neg]
def TOK (b c : Nat → Nat) (nn tn : Nat) (Z : Nat → Nat → Int32) (i q : Nat) : Prop := ∀ i' j', i' ≤ nn → j' ≤ tn → (i < i' ∨ (i' = i ∧ q ≤ j')) → Z i' j' = nI (lc b c nn tn i' j')
section MEAS
variable {a s t nn tn : Nat} {b ι c : Nat → Nat} {D : Nat → Int32}
theorem X3_longest_q {w : Fw} {Z : Nat → Nat → Int32} (h : Src w s t nn tn b ι c) (hz : RtZ w a Z D) {i j : Nat} (hi : i ≤ nn) (hj : j ≤ tn) (hT : TOK b c nn tn Z i (j + 1)) : fX3_longestFrom w a s t (nI i) (nI j) = some (nI (lc b c nn tn i j)) := by
  have h5 := h.2.2.1
  have h6 := h.2.2.2
  rw [fX3_longestFrom]
  simp only [h.os, h.ns, h.ot, h.nt, Option.bind_some, fX3_longestFrom_b17]
  by_cases hin : i < nn
  · rw [if_neg (nI_ge hin (by omega))]
    by_cases hjn : j < tn
    · rw [if_pos (nI_lt hjn (by omega))]
      have t1 := hT (i + 1) j (by omega) (by omega) (Or.inl (by omega))
      have t2 := hT (i + 1) (j + 1) (by omega) (by omega) (Or.inl (by omega))
      have t3 := hT i (j + 1) (by omega) (by omega) (Or.inr ⟨rfl, Nat.le_refl _⟩)
      have l1 := @lc_le b c nn tn (i + 1) j
      have l3 := @lc_le b c nn tn i (j + 1)
      simp only [(h.bs hin).1, (h.bt hjn).1, Option.bind_some, h.eqb hin hjn, hz.g0, nI_1, hz.r (show i + 1 < 33 by omega), hz.r (show i < 33 by omega), hz.l (show i + 1 < 33 by omega) (show j < 33 by omega), hz.l (show i + 1 < 33 by omega) (show j + 1 < 33 by omega), hz.l (show i < 33 by omega) (show j + 1 < 33 by omega), t1, t2, t3, nI_one_add, maxI (show lc b c nn tn (i + 1) j < 2 ^ 31 by omega) (show lc b c nn tn i (j + 1) < 2 ^ 31 by omega)]
      rw [lc_in b c nn tn hin hjn]
      split <;> rfl
    · rw [if_neg (nI_nlt (by omega) (by omega)), lc_end b c nn tn (Or.inr (by omega))]
      rfl
  · rw [if_pos (nI_le (by omega) (by omega)), lc_end b c nn tn (Or.inl (by omega))]
    rfl
theorem X3_meas_in (hs : s + 3 ≤ a ∨ a + 36 ≤ s) (ht : t + 2 ≤ a ∨ a + 36 ≤ t) (K : Fw → Nat → Nat → Nat → Int32 → Option Fw) {i : Nat} (hi : i ≤ nn) : ∀ (q fuel : Nat) (w : Fw) (Z : Nat → Nat → Int32), q ≤ tn + 1 → q < fuel → Src w s t nn tn b ι c → RtZ w a Z D → TOK b c nn tn Z i q → ∃ w' Z', fX3_measure_L15 K fuel w a s t (nI i) (nI q - 1) = K w' a s t (nI i - 1) ∧ Src w' s t nn tn b ι c ∧ RtZ w' a Z' D ∧ TOK b c nn tn Z' i 0 ∧ Out w w' a (a + 36)
  | q, 0, w, Z, h1, h2, h, hz, hT => by omega
  | 0, fuel + 1, w, Z, h1, h2, h, hz, hT => by
    rw [fX3_measure_L15, if_pos (by decide), nI_m1_add]
    exact ⟨w, Z, rfl, h, hz, hT, Out.rf⟩
  | q + 1, fuel + 1, w, Z, h1, h2, h, hz, hT => by
    have h5 := h.2.2.1
    have h6 := h.2.2.2
    rw [nI_pred, fX3_measure_L15, if_neg (nI_pos (show q < 2 ^ 31 by omega))]
    simp only [hz.g0, hz.r (show i < 33 by omega), hz.o, X3_longest_q h hz hi (show q ≤ tn by omega) hT, Option.bind_some, nI_m1_add]
    obtain ⟨w1, e1, z1, o1⟩ := hz.s (show i < 33 by omega) (show q < 33 by omega) (nI (lc b c nn tn i q))
    rw [e1, Option.bind_some]
    obtain ⟨w2, Z2, e2, s2, z2, t2, o2⟩ := X3_meas_in hs ht K hi q fuel w1 _ (by omega) (by omega) (h.frame (fun p p1 p2 => o1 p (by omega)) (fun p p1 p2 => o1 p (by omega))) z1 (by
      intro i' j' hi' hj' hor
      by_cases hii : i' = i
      · subst hii
        rw [vup_eq]
        by_cases hjj : j' = q
        · subst hjj
          simp [upd]
        · have : upd (Z i') q (nI (lc b c nn tn i' q)) j' = Z i' j' := by simp [upd, hjj]
          rw [this]
          exact hT i' j' hi' hj' (Or.inr ⟨rfl, by omega⟩)
      · rw [vup_ne hii]
        exact hT i' j' hi' hj' (Or.inl (by omega)))
    exact ⟨w2, Z2, e2, s2, z2, t2, o1.tr o2⟩
theorem X3_meas_out (hs : s + 3 ≤ a ∨ a + 36 ≤ s) (ht : t + 2 ≤ a ∨ a + 36 ≤ t) : ∀ (p fuel : Nat) (w : Fw) (Z : Nat → Nat → Int32), p ≤ nn + 1 → p < fuel → Src w s t nn tn b ι c → RtZ w a Z D → (∀ i' j', i' ≤ nn → j' ≤ tn → p ≤ i' → Z i' j' = nI (lc b c nn tn i' j')) → ∃ w' Z', fX3_measure_L5 fuel w a s t (nI p - 1) = some w' ∧ Src w' s t nn tn b ι c ∧ RtZ w' a Z' D ∧ (∀ i' j', i' ≤ nn → j' ≤ tn → Z' i' j' = nI (lc b c nn tn i' j')) ∧ Out w w' a (a + 36)
  | p, 0, w, Z, h1, h2, h, hz, hT => by omega
  | 0, fuel + 1, w, Z, h1, h2, h, hz, hT => by
    rw [fX3_measure_L5, if_pos (by decide)]
    exact ⟨w, Z, rfl, h, hz, fun i' j' hi hj => hT i' j' hi hj (Nat.zero_le _), Out.rf⟩
  | p + 1, fuel + 1, w, Z, h1, h2, h, hz, hT => by
    have h5 := h.2.2.1
    have h6 := h.2.2.2
    rw [nI_pred, fX3_measure_L5, if_neg (nI_pos (show p < 2 ^ 31 by omega))]
    simp only [h.ot, h.nt, Option.bind_some]
    obtain ⟨w1, Z1, e1, s1, z1, t1, o1⟩ := X3_meas_in (D := D) hs ht (fX3_measure_L5 fuel) (show p ≤ nn by omega) (tn + 1) 1000 w Z (by omega) (by omega) h hz (fun i' j' hi' hj' hor => hT i' j' hi' hj' (by omega))
    rw [nI_pred] at e1
    rw [e1]
    obtain ⟨w2, Z2, e2, s2, z2, t2, o2⟩ := X3_meas_out hs ht p fuel w1 Z1 (by omega) (by omega) s1 z1 (fun i' j' hi' hj' hle => t1 i' j' hi' hj' (by omega))
    exact ⟨w2, Z2, e2, s2, z2, t2, o1.tr o2⟩
theorem X3_measure_q {w : Fw} {Z : Nat → Nat → Int32} (hs : s + 3 ≤ a ∨ a + 36 ≤ s) (ht : t + 2 ≤ a ∨ a + 36 ≤ t) (h : Src w s t nn tn b ι c) (hz : RtZ w a Z D) : ∃ w' Z', fX3_measure w a s t = some w' ∧ Src w' s t nn tn b ι c ∧ RtZ w' a Z' D ∧ (∀ i' j', i' ≤ nn → j' ≤ tn → Z' i' j' = nI (lc b c nn tn i' j')) ∧ Out w w' a (a + 36) := by
  have h5 := h.2.2.1
  obtain ⟨w1, Z1, e1, r⟩ := X3_meas_out hs ht (nn + 1) 1000 w Z (by omega) (by omega) h hz (fun i' j' hi' hj' hle => by omega)
  rw [nI_pred] at e1
  exact ⟨w1, Z1, by simp only [fX3_measure, h.os, h.ns, Option.bind_some, e1], r⟩
end MEAS
