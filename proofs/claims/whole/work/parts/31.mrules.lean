/-! ===== the reference's rules ===== -/
/-- its lines are these -/
def ML (A : Nat → Nat → Int32) (n : Nat → Nat) (β ι : Nat → Nat → Nat) : Prop := ∀ f, f < 6 → n f ≤ 32 ∧ A 1 f = nI (n f) ∧ ∀ k, k < n f → A 2 (32 * f + k) = nI (β f k) ∧ β f k < 256 ∧ A 3 (32 * f + k) = nI (ι f k) ∧ ι f k < 2 ^ 30
theorem ix32 (f k : Nat) : (32 : Int32) * nI f + nI k = nI (32 * f + k) := by
  have h1 : (32 : Int32) * nI f = nI (32 * f) := pk_mul 32 f
  rw [h1, nI_add]
theorem X7_isIn_q (w : Fw) (x a b : Int32) : fX7_isIn w x a b = some (bz (decide (a ≤ x ∧ x ≤ b))) := by
  rw [fX7_isIn]
  by_cases h1 : x < a
  · have h1' : ¬ a ≤ x := Int32.not_le.mpr h1
    simp [h1, h1', fX7_isIn_b14, fX7_isIn_b15, bz, zb]
  · have h1' : a ≤ x := Int32.not_lt.mp h1
    by_cases h2 : b < x
    · have h2' : ¬ x ≤ b := Int32.not_le.mpr h2
      simp [h1, h1', h2, h2', fX7_isIn_b14, fX7_isIn_b15, bz, zb]
    · have h2' : x ≤ b := Int32.not_lt.mp h2
      simp [h1, h1', h2, h2', fX7_isIn_b15, bz, zb]
theorem X7_isFile_q (w : Fw) (x : Int32) : fX7_isFile w x = some (bz (decide (0 ≤ x ∧ x ≤ 5))) := by
  simp only [fX7_isFile, X7_isIn_q, Option.bind_some, zb_bz]
theorem X7_isByte_q (w : Fw) (x : Int32) : fX7_isByte w x = some (bz (decide (0 ≤ x ∧ x ≤ 255))) := by
  simp only [fX7_isByte, X7_isIn_q, Option.bind_some, zb_bz]
section MR
variable {w : Fw} {m : Nat} {S : Nat → Int32} {A : Nat → Nat → Int32} {n : Nat → Nat} {β ι : Nat → Nat → Nat}
theorem X7_many (h : Mo w m S A) (hL : ML A n β ι) {f : Nat} (hf : f < 6) : lI w (m + 1) (nI f) = some (nI (n f)) := by
  rw [h.l (j := 1) (by omega) (by omega) (show f < szM 1 from hf), (hL f hf).2.1]
theorem X7_lineAt (h : Mo w m S A) (hL : ML A n β ι) {f k : Nat} (hf : f < 6) (hk : k < n f) : lI w (m + 2) (nI (32 * f + k)) = some (nI (β f k)) := by
  have h32 := (hL f hf).1
  rw [h.l (j := 2) (by omega) (by omega) (show 32 * f + k < szM 2 by show _ < 192; omega), ((hL f hf).2.2 k hk).1]
theorem X7_idAt (h : Mo w m S A) (hL : ML A n β ι) {f k : Nat} (hf : f < 6) (hk : k < n f) : lI w (m + 3) (nI (32 * f + k)) = some (nI (ι f k)) := by
  have h32 := (hL f hf).1
  rw [h.l (j := 3) (by omega) (by omega) (show 32 * f + k < szM 3 by show _ < 192; omega), ((hL f hf).2.2 k hk).2.2.1]
theorem X7_kind_q (h : Mo w m S A) (hL : ML A n β ι) {f k : Nat} (hf : f < 6) (hk : k < n f) : fX7_kind w m (nI f) (nI k) = some (nI (β f k / 32)) := by
  simp only [fX7_kind, h.g1, Option.bind_some, ix32, X7_lineAt h hL hf hk, kind_n ((hL f hf).2.2 k hk).2.1]
theorem X7_number_q (h : Mo w m S A) (hL : ML A n β ι) {f k : Nat} (hf : f < 6) (hk : k < n f) : fX7_number w m (nI f) (nI k) = some (nI (β f k % 32)) := by
  simp only [fX7_number, h.g1, Option.bind_some, ix32, X7_lineAt h hL hf hk, num_n _ ((hL f hf).2.2 k hk).2.1]
theorem X7_defs_loop (h : Mo w m S A) (hL : ML A n β ι) {f : Nat} (hf : f < 6) : ∀ (q k fuel : Nat), k + q = n f → q < fuel → fX7_defs_L4 w fuel m (nI f) (nmsN (β f) 1 k) (nI k) = some (nmsN (β f) 1 (n f))
  | q, k, 0, h1, h2 => by omega
  | 0, k, fuel + 1, h1, h2 => by
    have h32 := (hL f hf).1
    have hkn : k = n f := by omega
    rw [hkn]
    have hle : nI (n f) ≤ nI (n f) := nI_le (by omega) (by omega)
    rw [fX7_defs_L4]
    simp only [h.g0, Option.bind_some, X7_many h hL hf, hle, if_true]
  | q + 1, k, fuel + 1, h1, h2 => by
    have h32 := (hL f hf).1
    have hle : ¬ nI (n f) ≤ nI k := nI_ge (by omega) (by omega)
    have hb := ((hL f hf).2.2 k (by omega)).2.1
    have ih := X7_defs_loop h hL hf q (k + 1) fuel (by omega) (by omega)
    rw [fX7_defs_L4]
    simp only [h.g0, Option.bind_some, X7_many h hL hf, hle, if_false, h.o, X7_kind_q h hL hf (show k < n f by omega), X7_number_q h hL hf (show k < n f by omega), fX7_defs_b35, nI_1, nI_is1 (show β f k / 32 < 2 ^ 31 by omega)]
    rw [← ih, nmsN]
    by_cases hq : β f k / 32 = 1 <;> simp [hq]
theorem X7_defs_q (h : Mo w m S A) (hL : ML A n β ι) {f : Nat} (hf : f < 6) : fX7_defs w m (nI f) = some (nmsN (β f) 1 (n f)) := by
  have h32 := (hL f hf).1
  rw [fX7_defs]
  exact X7_defs_loop h hL hf (n f) 0 1000 (by omega) (by omega)
theorem X7_uses_loop (h : Mo w m S A) (hL : ML A n β ι) {f : Nat} (hf : f < 6) : ∀ (q k fuel : Nat), k + q = n f → q < fuel → fX7_uses_L4 w fuel m (nI f) (nmsN (β f) 2 k) (nI k) = some (nmsN (β f) 2 (n f))
  | q, k, 0, h1, h2 => by omega
  | 0, k, fuel + 1, h1, h2 => by
    have h32 := (hL f hf).1
    have hkn : k = n f := by omega
    rw [hkn]
    have hle : nI (n f) ≤ nI (n f) := nI_le (by omega) (by omega)
    rw [fX7_uses_L4]
    simp only [h.g0, Option.bind_some, X7_many h hL hf, hle, if_true]
  | q + 1, k, fuel + 1, h1, h2 => by
    have h32 := (hL f hf).1
    have hle : ¬ nI (n f) ≤ nI k := nI_ge (by omega) (by omega)
    have hb := ((hL f hf).2.2 k (by omega)).2.1
    have ih := X7_uses_loop h hL hf q (k + 1) fuel (by omega) (by omega)
    rw [fX7_uses_L4]
    simp only [h.g0, Option.bind_some, X7_many h hL hf, hle, if_false, h.o, X7_kind_q h hL hf (show k < n f by omega), X7_number_q h hL hf (show k < n f by omega), fX7_uses_b35, nI_1, nI_is2 (show β f k / 32 < 2 ^ 31 by omega)]
    rw [← ih, nmsN]
    by_cases hq : β f k / 32 = 2 <;> simp [hq]
theorem X7_uses_q (h : Mo w m S A) (hL : ML A n β ι) {f : Nat} (hf : f < 6) : fX7_uses w m (nI f) = some (nmsN (β f) 2 (n f)) := by
  have h32 := (hL f hf).1
  rw [fX7_uses]
  exact X7_uses_loop h hL hf (n f) 0 1000 (by omega) (by omega)
theorem X7_imports_loop (h : Mo w m S A) (hL : ML A n β ι) {f g : Nat} (hf : f < 6) (hg : g < 6) : ∀ (q k fuel : Nat), k + q = n f → q < fuel → fX7_imports_L5 w fuel m (nI f) (nI g) (bz (imp (β f) k g)) (nI k) = some (bz (imp (β f) (n f) g))
  | q, k, 0, h1, h2 => by omega
  | 0, k, fuel + 1, h1, h2 => by
    have h32 := (hL f hf).1
    have hkn : k = n f := by omega
    rw [hkn]
    have hle : nI (n f) ≤ nI (n f) := nI_le (by omega) (by omega)
    rw [fX7_imports_L5]
    simp only [h.g0, Option.bind_some, X7_many h hL hf, hle, if_true, zb_bz]
  | q + 1, k, fuel + 1, h1, h2 => by
    have h32 := (hL f hf).1
    have hle : ¬ nI (n f) ≤ nI k := nI_ge (by omega) (by omega)
    have hb := ((hL f hf).2.2 k (by omega)).2.1
    have ih := X7_imports_loop h hL hf hg q (k + 1) fuel (by omega) (by omega)
    have hs : imp (β f) (k + 1) g = (imp (β f) k g || (decide (β f k / 32 = 5) && decide (β f k % 32 % 6 = g))) := by unfold imp; rw [any_succ]
    rw [hs] at ih
    rw [fX7_imports_L5]
    simp only [h.g0, Option.bind_some, X7_many h hL hf, hle, if_false, h.o, X7_kind_q h hL hf (show k < n f by omega), X7_number_q h hL hf (show k < n f by omega), fX7_imports_b45, fX7_imports_b49, fX7_imports_b50, nI_1, nI_is5 (show β f k / 32 < 2 ^ 31 by omega), rem6 (show β f k % 32 < 2 ^ 31 by omega), nI_eq (show β f k % 32 % 6 < 2 ^ 31 by omega) (show g < 2 ^ 31 by omega)]
    rw [← ih]
    cases hi : imp (β f) k g
    · by_cases h5 : β f k / 32 = 5
      · by_cases h6 : β f k % 32 % 6 = g <;> simp [h5, h6, bz]
      · simp [h5, bz]
    · simp [bz]
theorem X7_imports_q (h : Mo w m S A) (hL : ML A n β ι) {f g : Nat} (hf : f < 6) (hg : g < 6) : fX7_imports w m (nI f) (nI g) = some (bz (imp (β f) (n f) g)) := by
  have h32 := (hL f hf).1
  rw [fX7_imports]
  exact X7_imports_loop h hL hf hg (n f) 0 1000 (by omega) (by omega)
theorem X7_isThere_loop (h : Mo w m S A) (hL : ML A n β ι) {f x : Nat} (hf : f < 6) (hx : x < 32) (b : Bool) : ∀ (q g fuel : Nat), g + q = 6 → q < fuel → fX7_isThere_L22 w fuel m (nI f) (nI x) (bz (b || (List.range g).any fun g => imp (β f) (n f) g && hasK (β g) (n g) 1 x)) (nI g) = some (bz (b || (List.range 6).any fun g => imp (β f) (n f) g && hasK (β g) (n g) 1 x))
  | q, g, 0, h1, h2 => by omega
  | 0, g, fuel + 1, h1, h2 => by
    have : g = 6 := by omega
    subst this
    rw [fX7_isThere_L22, if_pos (by decide), zb_bz]
  | q + 1, g, fuel + 1, h1, h2 => by
    have hg : g < 6 := by omega
    have hle : ¬ (6 : Int32) ≤ nI g := nI_ge (b := 6) hg (by decide)
    have ih := X7_isThere_loop h hL hf hx b q (g + 1) fuel (by omega) (by omega)
    rw [any_succ, ← Bool.or_assoc] at ih
    rw [fX7_isThere_L22, if_neg hle]
    simp only [h.o, Option.bind_some, X7_imports_q h hL hf hg, X7_defs_q h hL hg, fX7_isThere_b57, fX7_isThere_b61, fX7_isThere_b62, nI_1, bit_s _ hx, bt_nms hx]
    rw [← ih]
    cases hi : (b || (List.range g).any fun g => imp (β f) (n f) g && hasK (β g) (n g) 1 x)
    · cases h5 : imp (β f) (n f) g
      · simp [bz]
      · cases h6 : hasK (β g) (n g) 1 x <;> simp [bz]
    · simp [bz]
theorem X7_isThere_q (h : Mo w m S A) (hL : ML A n β ι) {f x : Nat} (hf : f < 6) (hx : x < 32) : fX7_isThere w m (nI f) (nI x) = some (bz (thereB n β f x)) := by
  have h9 := fun b => X7_isThere_loop h hL hf hx b 6 0 1000 (by omega) (by omega)
  rw [fX7_isThere]
  simp only [h.o, Option.bind_some, X7_defs_q h hL hf, fX7_isThere_b18, bit_s _ hx, bt_nms hx, thereB]
  cases hh : hasK (β f) (n f) 1 x
  · have := h9 false; rw [nI_0] at this; simpa [bz] using this
  · have := h9 true; rw [nI_0] at this; simpa [bz] using this
theorem X7_isSecond_loop (h : Mo w m S A) (hL : ML A n β ι) {f k : Nat} (hf : f < 6) (hk : k < n f) : ∀ (q j fuel : Nat), j + q = k → q < fuel → fX7_isSecond_L5 w fuel m (nI f) (nI k) (bz ((List.range j).any fun j => decide (β f j = β f k))) (nI j) = some (bz ((List.range k).any fun j => decide (β f j = β f k)))
  | q, j, 0, h1, h2 => by omega
  | 0, j, fuel + 1, h1, h2 => by
    have h32 := (hL f hf).1
    have : j = k := by omega
    subst this
    rw [fX7_isSecond_L5, if_pos (nI_le (Nat.le_refl _) (by omega)), zb_bz]
  | q + 1, j, fuel + 1, h1, h2 => by
    have h32 := (hL f hf).1
    have hle : ¬ nI k ≤ nI j := nI_ge (by omega) (by omega)
    have b1 := ((hL f hf).2.2 k (by omega)).2.1
    have b2 := ((hL f hf).2.2 j (by omega)).2.1
    have ih := X7_isSecond_loop h hL hf hk q (j + 1) fuel (by omega) (by omega)
    rw [any_succ] at ih
    rw [fX7_isSecond_L5, if_neg hle]
    simp only [h.g1, Option.bind_some, ix32, X7_lineAt h hL hf hk, X7_lineAt h hL hf (show j < n f by omega), fX7_isSecond_b41, fX7_isSecond_b46, nI_1, nI_eq (show β f j < 2 ^ 31 by omega) (show β f k < 2 ^ 31 by omega)]
    rw [← ih]
    cases hi : ((List.range j).any fun j => decide (β f j = β f k))
    · by_cases h6 : β f j = β f k <;> simp [h6, bz]
    · simp [bz]
theorem X7_isSecond_q (h : Mo w m S A) (hL : ML A n β ι) {f k : Nat} (hf : f < 6) (hk : k < n f) : fX7_isSecond w m (nI f) (nI k) = some (bz ((List.range k).any fun j => decide (β f j = β f k))) := by
  have h32 := (hL f hf).1
  rw [fX7_isSecond]
  exact X7_isSecond_loop h hL hf hk k 0 1000 (by omega) (by omega)
theorem X7_close_loop (h : Mo w m S A) (hL : ML A n β ι) {f k : Nat} (hf : f < 6) (hk : k < n f) : ∀ (q j fuel : Nat), j + q = k → q < fuel → fX7_isLone_L15 w fuel m (nI f) (nI k) (nI (dep (β f) j)) (nI j) = some (bz (decide (dep (β f) k = 0)))
  | q, j, 0, h1, h2 => by omega
  | 0, j, fuel + 1, h1, h2 => by
    have h32 := (hL f hf).1
    have hd := dep_le (β f) j
    have : j = k := by omega
    subst this
    rw [fX7_isLone_L15, if_pos (nI_le (Nat.le_refl _) (by omega))]
    simp only [nI_is0 (show dep (β f) j < 2 ^ 31 by omega), fX7_isLone_b71]
    by_cases hz : dep (β f) j = 0 <;> simp [hz, bz, zb]
  | q + 1, j, fuel + 1, h1, h2 => by
    have h32 := (hL f hf).1
    have hd := dep_le (β f) j
    have hle : ¬ nI k ≤ nI j := nI_ge (by omega) (by omega)
    have b2 := ((hL f hf).2.2 j (by omega)).2.1
    have ih := X7_close_loop h hL hf hk q (j + 1) fuel (by omega) (by omega)
    rw [dep] at ih
    rw [fX7_isLone_L15, if_neg hle]
    simp only [h.o, Option.bind_some, X7_kind_q h hL hf (show j < n f by omega), fX7_isLone_b56, nI_1, nI_is3 (show β f j / 32 < 2 ^ 31 by omega), nI_is4 (show β f j / 32 < 2 ^ 31 by omega)]
    by_cases h3 : β f j / 32 = 3
    · rw [if_pos h3] at ih ⊢; exact ih
    · rw [if_neg h3] at ih ⊢
      by_cases h4 : β f j / 32 = 4
      · rw [if_pos h4] at ih ⊢
        by_cases hz : dep (β f) j = 0
        · rw [if_pos (by rw [hz]; decide)]
          rw [hz] at ih ⊢
          exact ih
        · rw [if_neg (nI_nle (by omega) (by omega))]
          obtain ⟨d', hd'⟩ : ∃ d', dep (β f) j = d' + 1 := ⟨dep (β f) j - 1, by omega⟩
          rw [hd'] at ih ⊢
          rw [pk_m1]
          exact ih
      · rw [if_neg h4] at ih ⊢; exact ih
/-- an OPEN at k: from j on, never back to where it was -/
theorem X7_open_loop (h : Mo w m S A) (hL : ML A n β ι) {f k : Nat} (hf : f < 6) : ∀ (q j fuel : Nat), j + q = n f → q < fuel → k < j → (∀ i, k ≤ i → i < j → dep (β f) k < dep (β f) (i + 1)) → fX7_isLone_L75 w fuel m (nI f) (nI (dep (β f) j - dep (β f) k)) (nI j) = some (bz ((List.range (n f)).all fun j => decide (j < k) || decide (dep (β f) k < dep (β f) (j + 1))))
  | q, j, 0, h1, h2, hkj, hab => by omega
  | 0, j, fuel + 1, h1, h2, hkj, hab => by
    have h32 := (hL f hf).1
    have hle : nI (n f) ≤ nI j := nI_le (by omega) (by omega)
    rw [fX7_isLone_L75]
    simp only [h.g0, Option.bind_some, X7_many h hL hf, hle, if_true]
    have : ((List.range (n f)).all fun j => decide (j < k) || decide (dep (β f) k < dep (β f) (j + 1))) = true := by
      rw [List.all_eq_true]
      intro i hi
      rw [List.mem_range] at hi
      by_cases hik : i < k
      · simp [hik]
      · simp [hab i (by omega) (by omega)]
    rw [this]; rfl
  | q + 1, j, fuel + 1, h1, h2, hkj, hab => by
    have h32 := (hL f hf).1
    have hd := dep_le (β f) j
    have hle : ¬ nI (n f) ≤ nI j := nI_ge (by omega) (by omega)
    have b2 := ((hL f hf).2.2 j (by omega)).2.1
    have hjj := hab (j - 1) (by omega) (by omega)
    rw [show j - 1 + 1 = j by omega] at hjj
    have hnext : ∀ d, nI d = nI (dep (β f) (j + 1) - dep (β f) k) → d = dep (β f) (j + 1) - dep (β f) k → fX7_isLone_b117 w (fX7_isLone_L75 w fuel) m (nI f) (nI d) (nI j) = some (bz ((List.range (n f)).all fun j => decide (j < k) || decide (dep (β f) k < dep (β f) (j + 1)))) := by
      intro d _ hd2
      subst hd2
      have hd3 := dep_le (β f) (j + 1)
      rw [fX7_isLone_b117]
      simp only [nI_is0 (show dep (β f) (j + 1) - dep (β f) k < 2 ^ 31 by omega), nI_1]
      by_cases hz : dep (β f) (j + 1) - dep (β f) k = 0
      · rw [if_pos hz]
        have : ((List.range (n f)).all fun j => decide (j < k) || decide (dep (β f) k < dep (β f) (j + 1))) = false := by
          rw [Bool.eq_false_iff]
          intro hall
          rw [List.all_eq_true] at hall
          have h9 := hall j (List.mem_range.mpr (by omega))
          simp at h9
          omega
        rw [this]; rfl
      · rw [if_neg hz]
        exact X7_open_loop h hL hf q (j + 1) fuel (by omega) (by omega) (by omega) (fun i i1 i2 => by
          by_cases hij : i = j
          · subst hij; omega
          · exact hab i i1 (by omega))
    rw [fX7_isLone_L75]
    simp only [h.g0, Option.bind_some, X7_many h hL hf, hle, if_false, h.o, X7_kind_q h hL hf (show j < n f by omega), nI_is3 (show β f j / 32 < 2 ^ 31 by omega), nI_is4 (show β f j / 32 < 2 ^ 31 by omega)]
    by_cases h3 : β f j / 32 = 3
    · have e : dep (β f) (j + 1) = dep (β f) j + 1 := by rw [dep, if_pos h3]
      rw [if_pos h3, nI_1]
      exact hnext _ (by congr 1; omega) (by omega)
    · rw [if_neg h3]
      by_cases h4 : β f j / 32 = 4
      · have e : dep (β f) (j + 1) = dep (β f) j - 1 := by rw [dep, if_neg h3, if_pos h4]
        rw [if_pos h4]
        obtain ⟨d', hd'⟩ : ∃ d', dep (β f) j - dep (β f) k = d' + 1 := ⟨dep (β f) j - dep (β f) k - 1, by omega⟩
        rw [hd', pk_m1]
        exact hnext _ (by congr 1; omega) (by omega)
      · have e : dep (β f) (j + 1) = dep (β f) j := by rw [dep, if_neg h3, if_neg h4]
        rw [if_neg h4]
        exact hnext _ (by congr 1; omega) (by omega)
theorem X7_isLone_q (h : Mo w m S A) (hL : ML A n β ι) {f k : Nat} (hf : f < 6) (hk : k < n f) (hkd : β f k / 32 = 3 ∨ β f k / 32 = 4) : fX7_isLone w m (nI f) (nI k) = some (bz (lone (β f) (n f) k)) := by
  have h32 := (hL f hf).1
  have b2 := ((hL f hf).2.2 k hk).2.1
  have hd := dep_le (β f) k
  rw [fX7_isLone]
  simp only [h.o, Option.bind_some, X7_kind_q h hL hf hk, nI_is4 (show β f k / 32 < 2 ^ 31 by omega)]
  by_cases h4 : β f k / 32 = 4
  · rw [if_pos h4]
    have h9 := X7_close_loop h hL hf hk k 0 1000 (by omega) (by omega)
    have e : lone (β f) (n f) k = decide (dep (β f) k = 0) := by simp [lone, h4]
    rw [e]
    exact h9
  · have h3 : β f k / 32 = 3 := by omega
    rw [if_neg h4]
    have e : lone (β f) (n f) k = ((List.range (n f)).all fun j => decide (j < k) || decide (dep (β f) k < dep (β f) (j + 1))) := by simp [lone, h3]
    rw [e]
    have hle : ¬ nI (n f) ≤ nI k := nI_ge (by omega) (by omega)
    have e1 : dep (β f) (k + 1) = dep (β f) k + 1 := by rw [dep, if_pos h3]
    have h9 := X7_open_loop (k := k) h hL hf (n f - (k + 1)) (k + 1) 999 (by omega) (by omega) (by omega) (fun i i1 i2 => by rw [show i = k by omega, e1]; omega)
    rw [e1, show dep (β f) k + 1 - dep (β f) k = 1 by omega] at h9
    rw [fX7_isLone_L75]
    simp only [h.g0, Option.bind_some, X7_many h hL hf, hle, if_false, h.o, X7_kind_q h hL hf hk, nI_is3 (show β f k / 32 < 2 ^ 31 by omega), fX7_isLone_b117]
    rw [if_pos h3, if_neg (by decide), nI_1]
    exact h9
end MR
