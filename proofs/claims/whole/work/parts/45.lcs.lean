/-! ===== load: the longest common row, and the walk along it ===== -/
section LCS
variable (b c : Nat → Nat) (nn tn : Nat)
def lcsR : Nat → Nat → Nat
  | 0, _ => 0
  | _ + 1, 0 => 0
  | p + 1, q + 1 => if b (nn - (p + 1)) = c (tn - (q + 1)) then 1 + lcsR p q else max (lcsR p (q + 1)) (lcsR (p + 1) q)
termination_by p q => p + q
def lc (i j : Nat) : Nat := lcsR b c nn tn (nn - i) (tn - j)
theorem lcsR_0 (q : Nat) : lcsR b c nn tn 0 q = 0 := by rw [lcsR]
theorem lcsR_q0 (p : Nat) : lcsR b c nn tn p 0 = 0 := by cases p <;> rw [lcsR]
theorem lcsR_s (p q : Nat) : lcsR b c nn tn (p + 1) (q + 1) = if b (nn - (p + 1)) = c (tn - (q + 1)) then 1 + lcsR b c nn tn p q else max (lcsR b c nn tn p (q + 1)) (lcsR b c nn tn (p + 1) q) := by rw [lcsR]
theorem lcsR_near : ∀ (p q : Nat), lcsR b c nn tn p q ≤ lcsR b c nn tn (p + 1) q ∧ lcsR b c nn tn (p + 1) q ≤ 1 + lcsR b c nn tn p q ∧ lcsR b c nn tn p q ≤ lcsR b c nn tn p (q + 1) ∧ lcsR b c nn tn p (q + 1) ≤ 1 + lcsR b c nn tn p q
  | 0, 0 => by simp [lcsR_0, lcsR_q0]
  | p + 1, 0 => by
    have h := lcsR_near p 0
    rw [lcsR_q0, lcsR_q0, lcsR_s]
    rw [lcsR_q0] at h
    rw [lcsR_q0]
    split <;> (rw [lcsR_q0] at * ; omega)
  | 0, q + 1 => by
    have h := lcsR_near 0 q
    rw [lcsR_0, lcsR_0, lcsR_s]
    rw [lcsR_0, lcsR_0] at h
    rw [lcsR_0, lcsR_0]
    split <;> omega
  | p + 1, q + 1 => by
    have h1 := lcsR_near p (q + 1)
    have h2 := lcsR_near (p + 1) q
    have h3 := lcsR_near p q
    have e1 := lcsR_s b c nn tn (p + 1) q
    have e2 := lcsR_s b c nn tn p (q + 1)
    have e3 := lcsR_s b c nn tn p q
    refine ⟨?_, ?_, ?_, ?_⟩
    · rw [e1]; split <;> omega
    · rw [e1]; split <;> omega
    · rw [e2]; split <;> omega
    · rw [e2]; split <;> omega
termination_by p q => p + q
theorem lcsR_le : ∀ (p q : Nat), lcsR b c nn tn p q ≤ p
  | 0, q => by rw [lcsR_0]; exact Nat.le_refl _
  | p + 1, q => by
    have h1 := lcsR_near b c nn tn p q
    have h2 := lcsR_le p q
    omega
theorem lc_le {i j : Nat} : lc b c nn tn i j ≤ nn := by
  have := lcsR_le b c nn tn (nn - i) (tn - j)
  unfold lc
  omega
theorem lc_end {i j : Nat} (h : nn ≤ i ∨ tn ≤ j) : lc b c nn tn i j = 0 := by
  unfold lc
  rcases h with h | h
  · rw [Nat.sub_eq_zero_of_le h, lcsR_0]
  · rw [Nat.sub_eq_zero_of_le h, lcsR_q0]
theorem lc_in {i j : Nat} (hi : i < nn) (hj : j < tn) : lc b c nn tn i j = if b i = c j then 1 + lc b c nn tn (i + 1) (j + 1) else max (lc b c nn tn (i + 1) j) (lc b c nn tn i (j + 1)) := by
  unfold lc
  obtain ⟨p, hp⟩ : ∃ p, nn - i = p + 1 := ⟨nn - i - 1, by omega⟩
  obtain ⟨q, hq⟩ : ∃ q, tn - j = q + 1 := ⟨tn - j - 1, by omega⟩
  have a1 : nn - (i + 1) = p := by omega
  have a2 : tn - (j + 1) = q := by omega
  rw [hp, hq, a1, a2, lcsR_s, show nn - (p + 1) = i by omega, show tn - (q + 1) = j by omega]
theorem lc_near {i j : Nat} (hi : i < nn) (hj : j < tn) : lc b c nn tn (i + 1) j ≤ 1 + lc b c nn tn (i + 1) (j + 1) ∧ lc b c nn tn i (j + 1) ≤ 1 + lc b c nn tn (i + 1) (j + 1) := by
  unfold lc
  obtain ⟨p, hp⟩ : ∃ p, nn - i = p + 1 := ⟨nn - i - 1, by omega⟩
  obtain ⟨q, hq⟩ : ∃ q, tn - j = q + 1 := ⟨tn - j - 1, by omega⟩
  have a1 : nn - (i + 1) = p := by omega
  have a2 : tn - (j + 1) = q := by omega
  rw [hp, hq, a1, a2]
  have h := lcsR_near b c nn tn p q
  exact ⟨h.2.2.2, h.2.1⟩
/-- the reference's way to say it -/
theorem lc_in' {i j : Nat} (hi : i < nn) (hj : j < tn) : lc b c nn tn i j = if b i = c j then max (max (lc b c nn tn (i + 1) j) (lc b c nn tn i (j + 1))) (1 + lc b c nn tn (i + 1) (j + 1)) else max (lc b c nn tn (i + 1) j) (lc b c nn tn i (j + 1)) := by
  rw [lc_in b c nn tn hi hj]
  obtain ⟨h1, h2⟩ := lc_near b c nn tn hi hj
  split
  · omega
  · rfl
/-- which line that was each line that is goes on with -/
def wst (i j : Nat) : List (Option Nat) :=
  if _h : tn ≤ j then [] else if _h2 : nn ≤ i then none :: wst i (j + 1) else if b i = c j then some i :: wst (i + 1) (j + 1) else if lc b c nn tn (i + 1) j = lc b c nn tn i j then wst (i + 1) j else none :: wst i (j + 1)
termination_by (nn - i) + (tn - j)
theorem wst_out {i j : Nat} (h : tn ≤ j) : wst b c nn tn i j = [] := by rw [wst, dif_pos h]
theorem wst_past {i j : Nat} (h : j < tn) (h2 : nn ≤ i) : wst b c nn tn i j = none :: wst b c nn tn i (j + 1) := by rw [wst, dif_neg (by omega), dif_pos h2]
theorem wst_eq {i j : Nat} (h : j < tn) (h2 : i < nn) (he : b i = c j) : wst b c nn tn i j = some i :: wst b c nn tn (i + 1) (j + 1) := by rw [wst, dif_neg (by omega), dif_neg (by omega), if_pos he]
theorem wst_gone {i j : Nat} (h : j < tn) (h2 : i < nn) (he : ¬ b i = c j) (hl : lc b c nn tn (i + 1) j = lc b c nn tn i j) : wst b c nn tn i j = wst b c nn tn (i + 1) j := by rw [wst, dif_neg (by omega), dif_neg (by omega), if_neg he, if_pos hl]
theorem wst_new {i j : Nat} (h : j < tn) (h2 : i < nn) (he : ¬ b i = c j) (hl : ¬ lc b c nn tn (i + 1) j = lc b c nn tn i j) : wst b c nn tn i j = none :: wst b c nn tn i (j + 1) := by rw [wst, dif_neg (by omega), dif_neg (by omega), if_neg he, if_neg hl]
theorem wst_len (i j : Nat) : (wst b c nn tn i j).length = tn - j := by
  by_cases h : j < tn
  · by_cases h2 : i < nn
    · by_cases he : b i = c j
      · rw [wst_eq b c nn tn h h2 he, List.length_cons, wst_len (i + 1) (j + 1)]; omega
      · by_cases hl : lc b c nn tn (i + 1) j = lc b c nn tn i j
        · rw [wst_gone b c nn tn h h2 he hl, wst_len (i + 1) j]
        · rw [wst_new b c nn tn h h2 he hl, List.length_cons, wst_len i (j + 1)]; omega
    · rw [wst_past b c nn tn h (by omega), List.length_cons, wst_len i (j + 1)]; omega
  · rw [wst_out b c nn tn (by omega)]; simp; omega
termination_by (nn - i) + (tn - j)
/-- the lines that are gone on with stand in their order -/
def inc : Nat → List (Option Nat) → Prop
  | _, [] => True
  | i, none :: R => inc i R
  | i, some x :: R => i ≤ x ∧ x < nn ∧ inc (x + 1) R
theorem inc_down : ∀ {R : List (Option Nat)} {i i' : Nat}, i' ≤ i → inc nn i R → inc nn i' R
  | [], _, _, _, _ => trivial
  | none :: R, i, i', h, hi => inc_down (R := R) h hi
  | some x :: R, i, i', h, hi => ⟨Nat.le_trans h hi.1, hi.2⟩
theorem wst_inc (i j : Nat) : inc nn i (wst b c nn tn i j) := by
  by_cases h : j < tn
  · by_cases h2 : i < nn
    · by_cases he : b i = c j
      · rw [wst_eq b c nn tn h h2 he]
        exact ⟨Nat.le_refl _, h2, wst_inc (i + 1) (j + 1)⟩
      · by_cases hl : lc b c nn tn (i + 1) j = lc b c nn tn i j
        · rw [wst_gone b c nn tn h h2 he hl]
          exact inc_down nn (Nat.le_succ i) (wst_inc (i + 1) j)
        · rw [wst_new b c nn tn h h2 he hl]
          exact wst_inc i (j + 1)
    · rw [wst_past b c nn tn h (by omega)]
      exact wst_inc i (j + 1)
  · rw [wst_out b c nn tn (by omega)]
    trivial
termination_by (nn - i) + (tn - j)
end LCS
/-- how many go on, how many are new, and the ids -/
def kp : List (Option Nat) → Nat
  | [] => 0
  | none :: R => kp R
  | some _ :: R => kp R + 1
def nw : List (Option Nat) → Nat
  | [] => 0
  | none :: R => nw R + 1
  | some _ :: R => nw R
theorem kp_nw : ∀ R : List (Option Nat), kp R + nw R = R.length
  | [] => rfl
  | none :: R => by have := kp_nw R; simp only [kp, nw, List.length_cons]; omega
  | some _ :: R => by have := kp_nw R; simp only [kp, nw, List.length_cons]; omega
def conv (ι : Nat → Nat) : Nat → List (Option Nat) → List Nat
  | _, [] => []
  | e, none :: R => e :: conv ι (e + 1) R
  | e, some x :: R => ι x :: conv ι e R
theorem conv_len (ι : Nat → Nat) : ∀ (R : List (Option Nat)) (e : Nat), (conv ι e R).length = R.length
  | [], _ => rfl
  | none :: R, e => by simp only [conv, List.length_cons, conv_len ι R]
  | some _ :: R, e => by simp only [conv, List.length_cons, conv_len ι R]
theorem conv_mem {ι : Nat → Nat} {nn : Nat} : ∀ {R : List (Option Nat)} {e i v : Nat}, inc nn i R → v ∈ conv ι e R → (∃ x, i ≤ x ∧ x < nn ∧ v = ι x) ∨ (e ≤ v ∧ v < e + nw R)
  | [], e, i, v, _, h => by simp [conv] at h
  | none :: R, e, i, v, hi, h => by
    rw [conv, List.mem_cons] at h
    rcases h with h | h
    · exact Or.inr ⟨by omega, by rw [nw]; omega⟩
    · rcases conv_mem (R := R) (i := i) hi h with h1 | h1
      · exact Or.inl h1
      · exact Or.inr ⟨by omega, by rw [nw]; omega⟩
  | some y :: R, e, i, v, hi, h => by
    rw [conv, List.mem_cons] at h
    rcases h with h | h
    · exact Or.inl ⟨y, hi.1, hi.2.1, h⟩
    · rcases conv_mem (R := R) hi.2.2 h with ⟨x, h1, h2, h3⟩ | h1
      · exact Or.inl ⟨x, by have := hi.1; omega, h2, h3⟩
      · exact Or.inr ⟨h1.1, by rw [nw]; exact h1.2⟩
theorem conv_nodup {ι : Nat → Nat} {nn : Nat} (hinj : ∀ x y, x < nn → y < nn → ι x = ι y → x = y) : ∀ {R : List (Option Nat)} {e i : Nat}, inc nn i R → (∀ x, x < nn → ι x < e) → (conv ι e R).Nodup
  | [], e, i, _, _ => by simp [conv]
  | none :: R, e, i, hi, hs => by
    rw [conv, List.nodup_cons]
    refine ⟨fun h => ?_, conv_nodup hinj (R := R) (i := i) hi (fun x hx => by have := hs x hx; omega)⟩
    rcases conv_mem (R := R) (i := i) hi h with ⟨x, h1, h2, h3⟩ | h1
    · have := hs x h2; omega
    · omega
  | some y :: R, e, i, hi, hs => by
    rw [conv, List.nodup_cons]
    refine ⟨fun h => ?_, conv_nodup hinj (R := R) hi.2.2 hs⟩
    rcases conv_mem (R := R) hi.2.2 h with ⟨x, h1, h2, h3⟩ | h1
    · have := hinj y x hi.2.1 h2 h3; omega
    · have := hs y hi.2.1; omega
theorem nodup_getD {L : List Nat} (h : L.Nodup) {k l : Nat} (hk : k < L.length) (hl : l < L.length) (e : L.getD k 0 = L.getD l 0) : k = l := by
  have h1 : L[k] = L[l] := by simpa [List.getD, hk, hl] using e
  exact (List.getElem_inj h).mp h1
theorem getD_mem {L : List Nat} {k : Nat} (hk : k < L.length) : L.getD k 0 ∈ L := by
  have : L.getD k 0 = L[k] := by simp [List.getD, hk]
  rw [this]
  exact List.getElem_mem hk
