/-! ===== a row of findings (FindingRow): V 0 rules, 1 lines, 2 ids, 3 sinces, 4 untils, 5 reasons ===== -/
def Rw (w : Fw) (a c : Nat) (V : Nat → Nat → Int32) : Prop :=
  w a = some (.inr (.inr (2, [.int (nI c), .ref (a + 1), .ref (a + 2), .ref (a + 3), .ref (a + 4), .ref (a + 5), .ref (a + 6)]))) ∧ w (a + 1) = some (.inl (32, V 0)) ∧ w (a + 2) = some (.inl (32, V 1)) ∧ w (a + 3) = some (.inl (32, V 2)) ∧ w (a + 4) = some (.inl (32, V 3)) ∧ w (a + 5) = some (.inl (32, V 4)) ∧ w (a + 6) = some (.inl (32, V 5))
theorem Rw.frame {w w' : Fw} {a c : Nat} {V : Nat → Nat → Int32} (h : Rw w a c V) (he : ∀ q, a ≤ q → q < a + 7 → w' q = w q) : Rw w' a c V := by
  obtain ⟨h0, h1, h2, h3, h4, h5, h6⟩ := h
  exact ⟨by rw [he a (by omega) (by omega)]; exact h0, by rw [he _ (by omega) (by omega)]; exact h1, by rw [he _ (by omega) (by omega)]; exact h2, by rw [he _ (by omega) (by omega)]; exact h3, by rw [he _ (by omega) (by omega)]; exact h4, by rw [he _ (by omega) (by omega)]; exact h5, by rw [he _ (by omega) (by omega)]; exact h6⟩
section ROWS
variable {w : Fw} {a c : Nat} {V : Nat → Nat → Int32}
theorem X2_isO (h : Rw w a c V) : isO w a 2 = some () := isO_ok h.1
theorem X2_size_q (h : Rw w a c V) : fX2_size w a = some (nI c) := by
  simp [fX2_size, gI, h.1]
theorem X2_ruleAt_q (h : Rw w a c V) {i : Nat} (hi : i < 32) : fX2_ruleAt w a (nI i) = some (V 0 i) := by
  obtain ⟨h0, h1, h2, h3, h4, h5, h6⟩ := h
  simp [fX2_ruleAt, gR, h0, lI_ok h1 hi]
theorem X2_lineAt_q (h : Rw w a c V) {i : Nat} (hi : i < 32) : fX2_lineAt w a (nI i) = some (V 1 i) := by
  obtain ⟨h0, h1, h2, h3, h4, h5, h6⟩ := h
  simp [fX2_lineAt, gR, h0, lI_ok h2 hi]
theorem X2_idAt_q (h : Rw w a c V) {i : Nat} (hi : i < 32) : fX2_idAt w a (nI i) = some (V 2 i) := by
  obtain ⟨h0, h1, h2, h3, h4, h5, h6⟩ := h
  simp [fX2_idAt, gR, h0, lI_ok h3 hi]
theorem X2_sinceAt_q (h : Rw w a c V) {i : Nat} (hi : i < 32) : fX2_sinceAt w a (nI i) = some (V 3 i) := by
  obtain ⟨h0, h1, h2, h3, h4, h5, h6⟩ := h
  simp [fX2_sinceAt, gR, h0, lI_ok h4 hi]
theorem X2_isSilenced_q (h : Rw w a c V) {i : Nat} (hi : i < 32) (d : Int32) : fX2_isSilenced w a (nI i) d = some (bz (decide (d < V 4 i))) := by
  obtain ⟨h0, h1, h2, h3, h4, h5, h6⟩ := h
  by_cases hd : d < V 4 i
  · have hd' : ¬ V 4 i ≤ d := Int32.not_le.mpr hd
    simp [fX2_isSilenced, gR, h0, lI_ok h5 hi, hd, hd', fX2_isSilenced_b15, bz, zb]
  · have hd' : V 4 i ≤ d := Int32.not_lt.mp hd
    simp [fX2_isSilenced, gR, h0, lI_ok h5 hi, hd, hd', fX2_isSilenced_b15, bz, zb]
theorem X2_daysLeft_q (h : Rw w a c V) {i : Nat} (hi : i < 32) (d : Int32) : fX2_daysLeft w a (nI i) d = some (if d < V 4 i then V 4 i - d else 0) := by
  have hs := X2_isSilenced_q h hi d
  obtain ⟨h0, h1, h2, h3, h4, h5, h6⟩ := h
  by_cases hd : d < V 4 i <;> simp [fX2_daysLeft, isO_ok h0, hs, gR, h0, lI_ok h5 hi, hd, bz] <;> rfl
theorem X2_reasonAt_q (h : Rw w a c V) {i : Nat} (hi : i < 32) (d : Int32) : fX2_reasonAt w a (nI i) d = some (if d < V 4 i then V 5 i else -1) := by
  have hs := X2_isSilenced_q h hi d
  obtain ⟨h0, h1, h2, h3, h4, h5, h6⟩ := h
  by_cases hd : d < V 4 i <;> simp [fX2_reasonAt, isO_ok h0, hs, gR, h0, lI_ok h6 hi, hd, bz] <;> rfl
def pRI (V : Nat → Nat → Int32) (r i : Int32) : Nat → Bool := fun k => decide (V 0 k = r) && decide (V 2 k = i)
theorem X2_placeOf_loop (h : Rw w a c V) (hc : c ≤ 32) (r i : Int32) : ∀ (m k fuel : Nat), k + m = c → m < fuel → fX2_placeOf_L2 w fuel a r i (nI k) = some (plI (srch (pRI V r i) m k))
  | m, k, 0, hk, hf => by omega
  | 0, k, fuel + 1, hk, hf => by
    have hle : nI c ≤ nI k := nI_le (by omega) (by omega)
    rw [fX2_placeOf_L2]
    simp [gI, h.1, hle, srch, plI]
  | m + 1, k, fuel + 1, hk, hf => by
    have hle : ¬ nI c ≤ nI k := nI_ge (by omega) (by omega)
    have ih := X2_placeOf_loop h hc r i m (k + 1) fuel (by omega) (by omega)
    rw [← nI_1] at ih
    obtain ⟨h0, h1, h2, h3, h4, h5, h6⟩ := h
    rw [fX2_placeOf_L2]
    simp only [gI, gR, h0, List.getElem?_cons_zero, List.getElem?_cons_succ, if_true, Option.bind_some, hle, if_false, lI_ok h1 (show k < 32 by omega) (by decide), lI_ok h3 (show k < 32 by omega) (by decide), fX2_placeOf_b32, ih, srch, pRI]
    by_cases hr : V 0 k = r
    · by_cases hi : V 2 k = i
      · simp [hr, hi, plI]
      · simp [hr, hi]
    · simp [hr]
theorem X2_placeOf_q (h : Rw w a c V) (hc : c ≤ 32) (r i : Int32) : fX2_placeOf w a r i = some (plI (srch (pRI V r i) c 0)) := by
  rw [fX2_placeOf]
  exact X2_placeOf_loop h hc r i c 0 1000 (by omega) (by omega)
theorem X2_countSilenced_loop (h : Rw w a c V) (hc : c ≤ 32) (d : Int32) : ∀ (m k fuel : Nat), k + m = c → m < fuel → fX2_countSilenced_L4 w fuel a d (nI (cntB (fun j => decide (d < V 4 j)) k)) (nI k) = some (nI (cntB (fun j => decide (d < V 4 j)) c))
  | m, k, 0, hk, hf => by omega
  | 0, k, fuel + 1, hk, hf => by
    have hle : nI c ≤ nI k := nI_le (by omega) (by omega)
    rw [fX2_countSilenced_L4]
    have : k = c := by omega
    subst this
    simp [gI, h.1, hle]
  | m + 1, k, fuel + 1, hk, hf => by
    have hle : ¬ nI c ≤ nI k := nI_ge (by omega) (by omega)
    have ih := X2_countSilenced_loop h hc d m (k + 1) fuel (by omega) (by omega)
    have hs := X2_isSilenced_q h (show k < 32 by omega) d
    rw [fX2_countSilenced_L4]
    simp only [gI, h.1, List.getElem?_cons_zero, if_true, Option.bind_some, hle, if_false, isO_ok h.1, hs, fX2_countSilenced_b24]
    rw [← ih, cntB, nI_bz, ← nI_1]
    by_cases hd : d < V 4 k <;> simp [hd, bz]
theorem X2_countSilenced_q (h : Rw w a c V) (hc : c ≤ 32) (d : Int32) : fX2_countSilenced w a d = some (nI (cntB (fun j => decide (d < V 4 j)) c)) := by
  rw [fX2_countSilenced]
  exact X2_countSilenced_loop h hc d c 0 1000 (by omega) (by omega)
end ROWS
