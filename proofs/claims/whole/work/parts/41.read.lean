/-! ===== readers ===== -/
theorem getD_app_ge {α : Type} {L M : List α} {j : Nat} {d : α} : (L ++ M).getD (L.length + j) d = M.getD j d := by
  simp [List.getD, List.getElem?_append_right]
theorem cntB_congr {P Q : Nat → Bool} : ∀ {m : Nat}, (∀ j, j < m → P j = Q j) → cntB P m = cntB Q m
  | 0, _ => rfl
  | m + 1, h => by rw [cntB, cntB, cntB_congr (fun j hj => h j (by omega)), h m (by omega)]
theorem cntB_add (P : Nat → Bool) (a : Nat) : ∀ b, cntB P (a + b) = cntB P a + cntB (fun j => P (a + j)) b
  | 0 => by simp [cntB]
  | b + 1 => by
    rw [show a + (b + 1) = (a + b) + 1 by omega, cntB, cntB, cntB_add P a b]
    omega
def cF (P : Fnd → Bool) (L : List Fnd) : Nat := cntB (fun j => P (L.getD j d0)) L.length
theorem cF_app (P : Fnd → Bool) (L M : List Fnd) : cF P (L ++ M) = cF P L + cF P M := by
  unfold cF
  rw [List.length_append, cntB_add]
  congr 1
  · exact cntB_congr (fun j hj => by rw [getD_app_lt hj])
  · exact cntB_congr (fun j hj => by rw [getD_app_ge])
section RL
variable {w : Fw} {a : Nat} {L : List Fnd}
theorem RwL.o (h : RwL w a L) : isO w a 2 = some () := by
  obtain ⟨h1, V, h2, h3⟩ := h
  exact X2_isO h2
theorem X2_size_l (h : RwL w a L) : fX2_size w a = some (nI L.length) := by
  obtain ⟨h1, V, h2, h3⟩ := h
  exact X2_size_q h2
theorem X2_at_l (h : RwL w a L) {i : Nat} (hi : i < L.length) : fX2_ruleAt w a (nI i) = some (L.getD i d0).1 ∧ fX2_lineAt w a (nI i) = some (L.getD i d0).2.1 ∧ fX2_idAt w a (nI i) = some (L.getD i d0).2.2.1 ∧ fX2_sinceAt w a (nI i) = some (L.getD i d0).2.2.2.1 ∧ (∀ d, fX2_isSilenced w a (nI i) d = some (bz (decide (d < (L.getD i d0).2.2.2.2.1)))) ∧ (∀ d, fX2_daysLeft w a (nI i) d = some (if d < (L.getD i d0).2.2.2.2.1 then (L.getD i d0).2.2.2.2.1 - d else 0)) ∧ (∀ d, fX2_reasonAt w a (nI i) d = some (if d < (L.getD i d0).2.2.2.2.1 then (L.getD i d0).2.2.2.2.2 else -1)) := by
  obtain ⟨h1, V, h2, h3⟩ := h
  have hi' : i < 32 := by omega
  rw [← h3 i hi]
  exact ⟨X2_ruleAt_q h2 hi', X2_lineAt_q h2 hi', X2_idAt_q h2 hi', X2_sinceAt_q h2 hi', fun d => X2_isSilenced_q h2 hi' d, fun d => X2_daysLeft_q h2 hi' d, fun d => X2_reasonAt_q h2 hi' d⟩
theorem X2_countSilenced_l (h : RwL w a L) (d : Int32) : fX2_countSilenced w a d = some (nI (cF (fun e => decide (d < e.2.2.2.2.1)) L)) := by
  obtain ⟨h1, V, h2, h3⟩ := h
  rw [X2_countSilenced_q h2 h1]
  congr 2
  exact cntB_congr (fun j hj => by rw [← h3 j hj]; rfl)
theorem X2_countAfter_l (h : RwL w a L) (ch : Int32) (b : Bool) (d : Int32) : fX2_countAfter w a ch (bz b) d = some (nI (cF (fun e => decide (ch < e.2.2.2.1) && (!b || !decide (d < e.2.2.2.2.1))) L)) := by
  obtain ⟨h1, V, h2, h3⟩ := h
  rw [X2_countAfter_q h2 h1]
  congr 2
  exact cntB_congr (fun j hj => by rw [← h3 j hj]; rfl)
end RL
theorem flF_at {M : Nat → List Fnd} {f k : Nat} (hk : k < (M f).length) : ∀ {g : Nat}, f < g → (flF M f).length + k < (flF M g).length ∧ (flF M g).getD ((flF M f).length + k) d0 = (M f).getD k d0 ∧ (flP M g).getD ((flF M f).length + k) 0 = f ∧ (flP M g).length = (flF M g).length
  | 0, h => by omega
  | g + 1, h => by
    have hlen : ∀ q, (flP M q).length = (flF M q).length := by
      intro q
      induction q with
      | zero => rfl
      | succ q ih => rw [flP, flF, List.length_append, List.length_append, ih, List.length_replicate]
    by_cases hg : f = g
    · subst hg
      rw [flF, flP, List.length_append]
      refine ⟨by omega, getD_app_ge, ?_, ?_⟩
      · rw [← hlen f, getD_app_ge]
        simp [List.getD, hk]
      · rw [List.length_append, hlen, List.length_replicate]
    · obtain ⟨h1, h2, h3, h4⟩ := flF_at hk (g := g) (by omega)
      rw [flF, flP, List.length_append]
      refine ⟨by omega, ?_, ?_, ?_⟩
      · rw [getD_app_lt h1, h2]
      · rw [getD_app_lt (by rw [h4]; exact h1), h3]
      · rw [List.length_append, h4, List.length_replicate]
section RD
variable {w : Fw} {z : Nat} {n : Nat → Nat} {β ι : Nat → Nat → Nat} {M : Nat → List Fnd} {ℓ : List Lg} {tn : Nat} {τ : Nat → Nat} {chg day ids : Nat} {bad wrk : Int32}
theorem CW0.row (h : CW0 w z n β ι M ℓ tn τ) {f : Nat} (hf : f < 6) : ∃ ra, lR w 0 (z + 1) (nI f) = some (sh z f) ∧ isO w (sh z f) 4 = some () ∧ fX4_findings w (sh z f) = some ra ∧ RwL w ra (M f) ∧ isO w ra 2 = some () ∧ fX4_size w (sh z f) = some (nI (n f)) := by
  obtain ⟨hn, B, I, ra, rb, M', hab, hsh, hβ, hι, hR, hR'⟩ := h.2.1 f hf
  exact ⟨ra, h.1.at hf, hsh.o, X4_findings_q hsh, hR, hR.o, X4_size_q hsh⟩
theorem CW0.rlen (h : CW0 w z n β ι M ℓ tn τ) {f : Nat} (hf : f < 6) : (M f).length ≤ 32 := by
  obtain ⟨hn, B, I, ra, rb, M', hab, hsh, hβ, hι, hR, hR'⟩ := h.2.1 f hf
  exact hR.1
theorem CW0.flen (h : CW0 w z n β ι M ℓ tn τ) {g : Nat} (hg : g ≤ 6) : (flF M g).length ≤ 32 * g := flF_le (fun f hf => h.rlen (by omega))
theorem X6_ahead_loop (hF : FHo w z chg day ids bad wrk) (h : CW0 w z n β ι M ℓ tn τ) {f : Nat} (hf : f ≤ 6) : ∀ (q g fuel : Nat), g + q = f → q < fuel → fX6_findingsAhead_L4 w fuel z (nI f) (nI (flF M g).length) (nI g) = some (nI (flF M f).length)
  | q, g, 0, h1, h2 => by omega
  | 0, g, fuel + 1, h1, h2 => by
    have : g = f := by omega
    subst this
    rw [fX6_findingsAhead_L4, if_pos (nI_le (Nat.le_refl g) (by omega)), fX6_findingsAhead_b36]
  | q + 1, g, fuel + 1, h1, h2 => by
    have hle : ¬ nI f ≤ nI g := nI_ge (by omega) (by omega)
    have hle' : ¬ (6 : Int32) ≤ nI g := nI_ge (b := 6) (by omega) (by decide)
    obtain ⟨ra, r1, r2, r3, r4, r5, r6⟩ := h.row (f := g) (by omega)
    have ih := X6_ahead_loop hF h hf q (g + 1) fuel (by omega) (by omega)
    rw [flF, List.length_append] at ih
    rw [fX6_findingsAhead_L4, if_neg hle, if_neg hle']
    simp only [hF.g0, r1, r2, r3, r5, X2_size_l r4, Option.bind_some, nI_add, nI_1]
    exact ih
theorem X6_ahead_q (hF : FHo w z chg day ids bad wrk) (h : CW0 w z n β ι M ℓ tn τ) {f : Nat} (hf : f ≤ 6) : fX6_findingsAhead w z (nI f) = some (nI (flF M f).length) := by
  rw [fX6_findingsAhead]
  exact X6_ahead_loop hF h hf f 0 1000 (by omega) (by omega)
theorem X6_fileOf_loop (hF : FHo w z chg day ids bad wrk) (h : CW0 w z n β ι M ℓ tn τ) {i : Nat} (hi : i < 2 ^ 31) : ∀ (q g fuel : Nat), g + q = 6 → q < fuel → (flF M g).length ≤ i → (∃ f k, f < 6 ∧ k < (M f).length ∧ i = (flF M f).length + k ∧ fX6_fileOfFinding_L10 w fuel z (nI (i - (flF M g).length)) (nI g) = some (nI f)) ∨ ((flF M 6).length ≤ i ∧ fX6_fileOfFinding_L10 w fuel z (nI (i - (flF M g).length)) (nI g) = some (-1))
  | q, g, 0, h1, h2, h3 => by omega
  | 0, g, fuel + 1, h1, h2, h3 => by
    have : g = 6 := by omega
    subst this
    exact Or.inr ⟨h3, by rw [fX6_fileOfFinding_L10, if_pos (by decide)]⟩
  | q + 1, g, fuel + 1, h1, h2, h3 => by
    have hle' : ¬ (6 : Int32) ≤ nI g := nI_ge (b := 6) (by omega) (by decide)
    obtain ⟨ra, r1, r2, r3, r4, r5, r6⟩ := h.row (f := g) (by omega)
    have h32 := h.rlen (f := g) (by omega)
    by_cases hk : (M g).length ≤ i - (flF M g).length
    · have e1 : (flF M (g + 1)).length = (flF M g).length + (M g).length := by rw [flF, List.length_append]
      have ih := X6_fileOf_loop hF h hi q (g + 1) fuel (by omega) (by omega) (by omega)
      have e2 : fX6_fileOfFinding_L10 w (fuel + 1) z (nI (i - (flF M g).length)) (nI g) = fX6_fileOfFinding_L10 w fuel z (nI (i - (flF M (g + 1)).length)) (nI (g + 1)) := by
        rw [fX6_fileOfFinding_L10, if_neg hle']
        simp only [hF.g0, r1, r2, r3, r5, X2_size_l r4, Option.bind_some, if_pos (nI_le hk (by omega)), pk_sub hk, nI_1]
        rw [e1, Nat.sub_sub]
      rw [e2]
      exact ih
    · refine Or.inl ⟨g, i - (flF M g).length, by omega, by omega, by omega, ?_⟩
      rw [fX6_fileOfFinding_L10, if_neg hle']
      simp only [hF.g0, r1, r2, r3, r5, X2_size_l r4, Option.bind_some, if_neg (nI_ge (show i - (flF M g).length < (M g).length by omega) (by omega))]
end RD
