section RD2
variable {w : Fw} {z m : Nat} {n : Nat → Nat} {β ι : Nat → Nat → Nat} {M : Nat → List Fnd} {ℓ : List Lg} {tn : Nat} {τ : Nat → Nat} {chg day ids : Nat} {bad wrk : Int32} {S : Nat → Int32} {A : Nat → Nat → Int32} {G : List Fnd} {Φ : List Nat}
theorem X7_isSilent_q (h : Mo w m S A) (hG : FG A G Φ) {i : Nat} (hi : i < G.length) : fX7_isSilent w m (nI i) = some (bz (decide (S 1 < (G.getD i d0).2.2.2.2.1))) := by
  have h9 := (hG.2.2 i hi).2.2.2.2.2.1
  have hi' : i < szM 9 := by have := hG.1; show i < 192; omega
  rw [fX7_isSilent]
  simp only [h.g4, h.g15, Option.bind_some, h.l (j := 9) (by omega) (by omega) hi', h9, fX7_isSilent_b18]
  by_cases hd : S 1 < (G.getD i d0).2.2.2.2.1
  · rw [if_neg (Int32.not_le.mpr hd), decide_eq_true hd]; decide
  · rw [if_pos (Int32.not_lt.mp hd), decide_eq_false hd]; decide
theorem bz_cond {α : Type} (b : Bool) (x y : α) : (if bz b = 0 then x else y) = if b then y else x := by cases b <;> rfl
theorem X7_silent_loop (h : Mo w m S A) (h5 : S 5 = nI G.length) (hG : FG A G Φ) : ∀ (q k fuel : Nat), k + q = G.length → q < fuel → fX7_look_L69 w fuel m (nI (cntB (fun j => decide (S 1 < (G.getD j d0).2.2.2.2.1)) k)) (nI k) = some (nI (cF (fun e => decide (S 1 < e.2.2.2.2.1)) G))
  | q, k, 0, h1, h2 => by omega
  | 0, k, fuel + 1, h1, h2 => by
    have := hG.1
    have hk : k = G.length := by omega
    subst hk
    rw [fX7_look_L69]
    simp only [h.g8, h5, Option.bind_some, if_pos (nI_le (Nat.le_refl G.length) (by omega))]
    rfl
  | q + 1, k, fuel + 1, h1, h2 => by
    have := hG.1
    have hle : ¬ nI G.length ≤ nI k := nI_ge (by omega) (by omega)
    have ih := X7_silent_loop h h5 hG q (k + 1) fuel (by omega) (by omega)
    rw [fX7_look_L69]
    simp only [h.g8, h5, Option.bind_some, hle, if_false, h.o, X7_isSilent_q h hG (show k < G.length by omega), fX7_look_b91, bz_cond]
    rw [← ih, cntB, nI_bz, ← nI_1 k]
    cases decide (S 1 < (G.getD k d0).2.2.2.2.1) <;> rfl
theorem X6_silent_loop (hF : FHo w z chg day ids bad wrk) (h : CW0 w z n β ι M ℓ tn τ) : ∀ (q g fuel : Nat), g + q = 6 → q < fuel → fX6_countSilenced_L4 w fuel z (nI (cF (fun e => decide (nI day < e.2.2.2.2.1)) (flF M g))) (nI g) = some (nI (cF (fun e => decide (nI day < e.2.2.2.2.1)) (flF M 6)))
  | q, g, 0, h1, h2 => by omega
  | 0, g, fuel + 1, h1, h2 => by
    have : g = 6 := by omega
    subst this
    rw [fX6_countSilenced_L4, if_pos (by decide)]
  | q + 1, g, fuel + 1, h1, h2 => by
    have hle' : ¬ (6 : Int32) ≤ nI g := nI_ge (b := 6) (by omega) (by decide)
    obtain ⟨ra, r1, r2, r3, r4, r5, r6⟩ := h.row (f := g) (by omega)
    have ih := X6_silent_loop hF h q (g + 1) fuel (by omega) (by omega)
    rw [flF, cF_app] at ih
    rw [fX6_countSilenced_L4, if_neg hle']
    simp only [hF.g0, hF.g6, r1, r2, r3, r5, X2_countSilenced_l r4, Option.bind_some, nI_add, nI_1]
    exact ih
def sumN (n : Nat → Nat) : Nat → Nat
  | 0 => 0
  | g + 1 => sumN n g + n g
theorem X6_lines_loop (hF : FHo w z chg day ids bad wrk) (h : CW0 w z n β ι M ℓ tn τ) : ∀ (q g fuel : Nat), g + q = 6 → q < fuel → fX6_countLines_L4 w fuel z (nI (sumN n g)) (nI g) = some (nI (sumN n 6))
  | q, g, 0, h1, h2 => by omega
  | 0, g, fuel + 1, h1, h2 => by
    have : g = 6 := by omega
    subst this
    rw [fX6_countLines_L4, if_pos (by decide)]
  | q + 1, g, fuel + 1, h1, h2 => by
    have hle' : ¬ (6 : Int32) ≤ nI g := nI_ge (b := 6) (by omega) (by decide)
    obtain ⟨ra, r1, r2, r3, r4, r5, r6⟩ := h.row (f := g) (by omega)
    have ih := X6_lines_loop hF h q (g + 1) fuel (by omega) (by omega)
    rw [sumN] at ih
    rw [fX6_countLines_L4, if_neg hle']
    simp only [hF.g0, r1, r2, r6, Option.bind_some, nI_add, nI_1]
    exact ih
theorem X7_lines_loop (h : Mo w m S A) (hL : ML A n β ι) : ∀ (q g fuel : Nat), g + q = 6 → q < fuel → fX7_look_L113 w fuel m (nI (sumN n g)) (nI g) = some (nI (sumN n 6))
  | q, g, 0, h1, h2 => by omega
  | 0, g, fuel + 1, h1, h2 => by
    have : g = 6 := by omega
    subst this
    rw [fX7_look_L113, if_pos (by decide)]
  | q + 1, g, fuel + 1, h1, h2 => by
    have hle' : ¬ (6 : Int32) ≤ nI g := nI_ge (b := 6) (by omega) (by decide)
    have ih := X7_lines_loop h hL q (g + 1) fuel (by omega) (by omega)
    rw [sumN] at ih
    rw [fX7_look_L113, if_neg hle']
    simp only [h.g0, X7_many h hL (show g < 6 by omega), Option.bind_some, nI_add, nI_1]
    exact ih
theorem X6_since_loop (hF : FHo w z chg day ids bad wrk) (h : CW0 w z n β ι M ℓ tn τ) (x1 : Int32) (b : Bool) : ∀ (q g fuel : Nat), g + q = 6 → q < fuel → fX6_since_L16 w fuel z x1 (bz b) (nI (cF (fun e => decide (x1 < e.2.2.2.1) && (!b || !decide (nI day < e.2.2.2.2.1))) (flF M g))) (nI g) = some (nI (cF (fun e => decide (x1 < e.2.2.2.1) && (!b || !decide (nI day < e.2.2.2.2.1))) (flF M 6)))
  | q, g, 0, h1, h2 => by omega
  | 0, g, fuel + 1, h1, h2 => by
    have : g = 6 := by omega
    subst this
    rw [fX6_since_L16, if_pos (by decide)]
  | q + 1, g, fuel + 1, h1, h2 => by
    have hle' : ¬ (6 : Int32) ≤ nI g := nI_ge (b := 6) (by omega) (by decide)
    obtain ⟨ra, r1, r2, r3, r4, r5, r6⟩ := h.row (f := g) (by omega)
    have ih := X6_since_loop hF h x1 b q (g + 1) fuel (by omega) (by omega)
    rw [flF, cF_app] at ih
    have hca := X2_countAfter_l r4 x1 b (nI day)
    rw [fX6_since_L16, if_neg hle']
    simp only [hF.g0, r1, r2, r3, Option.bind_some, fX6_since_b45, hF.g6, r5]
    rw [← ih, ← nI_add, ← nI_1]
    cases b
    · rw [if_neg (by decide), show (0 : Int32) = bz false from rfl, hca, Option.bind_some]
    · rw [if_pos (by decide), show (1 : Int32) = bz true from rfl, hca, Option.bind_some]
theorem X7_since_loop (h : Mo w m S A) (h5 : S 5 = nI G.length) (hG : FG A G Φ) (x1 : Int32) (b : Bool) : ∀ (q k fuel : Nat), k + q = G.length → q < fuel → fX7_since_L16 w fuel m x1 (bz b) (nI (cntB (fun j => decide (x1 < (G.getD j d0).2.2.2.1) && (!b || !decide (S 1 < (G.getD j d0).2.2.2.2.1))) k)) (nI k) = some (nI (cF (fun e => decide (x1 < e.2.2.2.1) && (!b || !decide (S 1 < e.2.2.2.2.1))) G))
  | q, k, 0, h1, h2 => by omega
  | 0, k, fuel + 1, h1, h2 => by
    have := hG.1
    have hk : k = G.length := by omega
    subst hk
    rw [fX7_since_L16]
    simp only [h.g8, h5, Option.bind_some, if_pos (nI_le (Nat.le_refl G.length) (by omega))]
    rfl
  | q + 1, k, fuel + 1, h1, h2 => by
    have := hG.1
    have hle : ¬ nI G.length ≤ nI k := nI_ge (by omega) (by omega)
    have hi' : k < szM 8 := by show k < 192; omega
    have h8 := (hG.2.2 k (by omega)).2.2.2.2.1
    have ih := X7_since_loop h h5 hG x1 b q (k + 1) fuel (by omega) (by omega)
    rw [fX7_since_L16]
    simp only [h.g8, h5, Option.bind_some, hle, if_false, h.g14, h.l (j := 8) (by omega) (by omega) hi', h8, h.o, X7_isSilent_q h hG (show k < G.length by omega), fX7_since_b55, fX7_since_b54, fX7_since_b50, bz_cond]
    rw [← ih, cntB, nI_bz, ← nI_1 k]
    by_cases hx : x1 < (G.getD k d0).2.2.2.1
    · rw [if_neg (Int32.not_le.mpr hx), decide_eq_true hx]
      cases b
      · rfl
      · cases decide (S 1 < (G.getD k d0).2.2.2.2.1) <;> rfl
    · rw [if_pos (Int32.not_lt.mp hx), decide_eq_false hx]
      rfl
/-- a finding's place, on both sides -/
theorem fnd_cases (hC : CW w z n β ι M ℓ tn τ chg day ids bad wrk) (hM : MW w m n β ι M ℓ tn τ chg day ids bad wrk) (x1 : Int32) : (∃ f k, f < 6 ∧ k < (M f).length ∧ (flF M f).length + k < (flF M 6).length ∧ x1 = nI ((flF M f).length + k) ∧ fX6_fileOfFinding w z x1 = some (nI f) ∧ fX7_isFinding w m x1 = some 1) ∨ (fX6_fileOfFinding w z x1 = some (-1) ∧ fX7_isFinding w m x1 = some 0) := by
  obtain ⟨hF, hW⟩ := hC.split
  obtain ⟨S, A, q, s0, s1, s2, s3, s4, s5, s7, s8, hL, hG, hl, ht, hT⟩ := id hM
  have hlen := hW.flen (g := 6) (by omega)
  by_cases h0 : (0 : Int32) ≤ x1
  · obtain ⟨i, hi, rfl⟩ := nI_of (Int32.not_lt.mpr h0)
    have hl := X6_fileOf_loop hF hW hi 6 0 1000 (by omega) (by omega) (by simp [flF])
    have e0 : nI (i - (flF M 0).length) = nI i := by simp [flF]
    rw [e0, show nI 0 = (0 : Int32) from rfl] at hl
    have e1 : fX6_fileOfFinding w z (nI i) = fX6_fileOfFinding_L10 w 1000 z (nI i) 0 := by rw [fX6_fileOfFinding, if_pos h0]
    rw [e1]
    rcases hl with ⟨f, k, hf, hk, rfl, he⟩ | ⟨hge, he⟩
    · obtain ⟨a1, a2, a3, -⟩ := flF_at hk (g := 6) hf
      refine Or.inl ⟨f, k, hf, hk, a1, rfl, he, ?_⟩
      obtain ⟨p, hp⟩ : ∃ p, (flF M 6).length = p + 1 := ⟨(flF M 6).length - 1, by omega⟩
      have h2 : nI ((flF M f).length + k) ≤ nI p := nI_le (by omega) (by omega)
      simp only [fX7_isFinding, q.g8, s5, hp, Option.bind_some, nI_pred, X7_isIn_q, zb_bz, decide_eq_true (show (0 : Int32) ≤ nI ((flF M f).length + k) ∧ nI ((flF M f).length + k) ≤ nI p from ⟨h0, h2⟩)]
      rfl
    · refine Or.inr ⟨he, ?_⟩
      have h2 : ¬ ((0 : Int32) ≤ nI i ∧ nI i ≤ nI (flF M 6).length - 1) := by
        intro e
        have h9 := e.2
        rw [Int32.le_iff_toInt_le, nI_toInt hi] at h9
        have h8 : (nI (flF M 6).length - 1).toInt = (((flF M 6).length : Nat) : Int) - (1 : Nat) := pk_sub_toInt (b := 1) (by omega) (by omega)
        rw [h8] at h9
        omega
      simp only [fX7_isFinding, q.g8, s5, Option.bind_some, X7_isIn_q, zb_bz, decide_eq_false h2]
      rfl
  · refine Or.inr ⟨by rw [fX6_fileOfFinding, if_neg h0], ?_⟩
    simp only [fX7_isFinding, q.g8, s5, Option.bind_some, X7_isIn_q, zb_bz, decide_eq_false (fun e : (0 : Int32) ≤ x1 ∧ x1 ≤ nI (flF M 6).length - 1 => h0 e.1)]
    rfl
end RD2
