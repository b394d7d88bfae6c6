theorem step_look {z : Nat} : ∀ (j : Nat) (w : Fw) (x1 : Int32), j < 512 → Inv z j w → ∃ r : Int32, fX6_look w z x1 = some r ∧ fX7_look w (z + 150) x1 = some r := by
  intro j w x1 hj hI
  obtain ⟨n, β, ι, M, ℓ, tn, τ, chg, day, ids, bad, wrk, hC, hM, hCo, hU, hc, hid, hday⟩ := id hI
  obtain ⟨hF, hW⟩ := hC.split
  obtain ⟨S, A, q, s0, s1, s2, s3, s4, s5, s7, s8, hL, hG, hl, ht, hT⟩ := id hM
  have hlg := hW.2.2.2.2.2
  have hlen := hW.flen (g := 6) (by omega)
  have a6 : fX6_findingsAhead w z 6 = some (nI (flF M 6).length) := X6_ahead_q hF hW (Nat.le_refl 6)
  have c6 : fX6_countSilenced w z = some (nI (cF (fun e => decide (nI day < e.2.2.2.2.1)) (flF M 6))) := by
    rw [fX6_countSilenced]; exact X6_silent_loop hF hW 6 0 1000 (by omega) (by omega)
  have c7 : fX7_look_L69 w 1000 (z + 150) 0 0 = some (nI (cF (fun e => decide (nI day < e.2.2.2.2.1)) (flF M 6))) := by
    have h9 := X7_silent_loop q s5 hG (flF M 6).length 0 1000 (by omega) (by omega)
    rw [s1] at h9
    exact h9
  have l6 : fX6_countLines w z = some (nI (sumN n 6)) := by
    rw [fX6_countLines]; exact X6_lines_loop hF hW 6 0 1000 (by omega) (by omega)
  have l7 : fX7_look_L113 w 1000 (z + 150) 0 0 = some (nI (sumN n 6)) := X7_lines_loop q hL 6 0 1000 (by omega) (by omega)
  rw [fX6_look, fX7_look]
  simp only [hF.g5, hF.g6, hF.o, a6, c6, hF.g4, X1_isO hlg, X1_size_l hlg, hF.g9, l6, hF.g7, hF.g8, q.g3, q.g4, q.g8, c7, q.g22, q.g7, l7, q.g5, q.g6, s0, s1, s2, s3, s4, s5, s7, Option.bind_some]
  by_cases h0 : x1 = 0
  · exact ⟨_, by rw [if_pos h0], by rw [if_pos h0]⟩
  simp only [if_neg h0]
  by_cases h1 : x1 = 1
  · exact ⟨_, by rw [if_pos h1], by rw [if_pos h1]⟩
  simp only [if_neg h1]
  by_cases h2 : x1 = 2
  · exact ⟨_, by rw [if_pos h2], by rw [if_pos h2]⟩
  simp only [if_neg h2]
  by_cases h3 : x1 = 3
  · exact ⟨_, by rw [if_pos h3], by rw [if_pos h3]⟩
  simp only [if_neg h3]
  by_cases h4 : x1 = 4
  · exact ⟨_, by rw [if_pos h4], by rw [if_pos h4]⟩
  simp only [if_neg h4]
  by_cases h5 : x1 = 5
  · exact ⟨_, by rw [if_pos h5], by rw [if_pos h5]⟩
  simp only [if_neg h5]
  by_cases h6 : x1 = 6
  · exact ⟨_, by rw [if_pos h6], by rw [if_pos h6]⟩
  simp only [if_neg h6]
  by_cases h7 : x1 = 7
  · exact ⟨_, by rw [if_pos h7], by rw [if_pos h7]⟩
  simp only [if_neg h7]
  by_cases h8 : x1 = 8
  · exact ⟨_, by rw [if_pos h8], by rw [if_pos h8]⟩
  exact ⟨-1, by rw [if_neg h8], by rw [if_neg h8]⟩
theorem step_line {z : Nat} : ∀ (j : Nat) (w : Fw) (x1 x2 x3 : Int32), j < 512 → Inv z j w → ∃ r : Int32, fX6_line w z x1 x2 x3 = some r ∧ fX7_line w (z + 150) x1 x2 x3 = some r := by
  intro j w x1 x2 x3 hj hI
  obtain ⟨n, β, ι, M, ℓ, tn, τ, chg, day, ids, bad, wrk, hC, hM, hCo, hU, hc, hid, hday⟩ := id hI
  obtain ⟨hF, hW⟩ := hC.split
  obtain ⟨S, A, q, s0, s1, s2, s3, s4, s5, s7, s8, hL, hG, hl, ht, hT⟩ := id hM
  rcases isLine_out hC hM x1 x2 with ⟨f, t, hf, hn, htn, rfl, rfl⟩ | ⟨a, b⟩
  · have i6 := isLine_in hC hf htn
    have i7 := isLine7_in hM hf hn htn
    obtain ⟨-, B, I, ra, rb, M', hab, hsh, hβ, hι, hR, hR'⟩ := hW.2.1 f hf
    obtain ⟨-, -, hLk⟩ := hL f hf
    obtain ⟨k1, -, k3, -⟩ := hLk t htn
    have hi2 : 32 * f + t < szM 2 := by show 32 * f + t < 192; omega
    have hi3 : 32 * f + t < szM 3 := by show 32 * f + t < 192; omega
    rw [fX6_line, fX7_line]
    simp only [hF.o, q.o, i6, i7, hF.g0, hW.1.at hf, hsh.o, X4_byteAt_q hsh (show t < 32 by omega), X4_idAt_q hsh (show t < 32 by omega), (hβ t htn).1, (hι t htn).1, q.g1, q.g2, ix32, q.l (j := 2) (by omega) (by omega) hi2, q.l (j := 3) (by omega) (by omega) hi3, k1, k3, Option.bind_some, fX7_line_b51, if_neg (show ¬ (1 : Int32) = 0 by decide)]
    by_cases h0 : x3 = 0
    · exact ⟨_, by rw [if_pos h0], by rw [if_pos h0]⟩
    simp only [if_neg h0]
    by_cases h1 : x3 = 1
    · exact ⟨_, by rw [if_pos h1], by rw [if_pos h1]⟩
    exact ⟨-1, by rw [if_neg h1], by rw [if_neg h1]⟩
  · exact ⟨-1, by simp [fX6_line, hF.o, a], by simp [fX7_line, q.o, b, fX7_line_b51]⟩
theorem step_finding {z : Nat} : ∀ (j : Nat) (w : Fw) (x1 x2 : Int32), j < 512 → Inv z j w → ∃ r : Int32, fX6_finding w z x1 x2 = some r ∧ fX7_finding w (z + 150) x1 x2 = some r := by
  intro j w x1 x2 hj hI
  obtain ⟨n, β, ι, M, ℓ, tn, τ, chg, day, ids, bad, wrk, hC, hM, hCo, hU, hc, hid, hday⟩ := id hI
  obtain ⟨hF, hW⟩ := hC.split
  obtain ⟨S, A, q, s0, s1, s2, s3, s4, s5, s7, s8, hL, hG, hl, ht, hT⟩ := id hM
  rcases fnd_cases hC hM x1 with ⟨f, k, hf, hk, hlt, rfl, i6, i7⟩ | ⟨a, b⟩
  · obtain ⟨ra, r1, r2, r3, r4, r5, r6⟩ := hW.row hf
    obtain ⟨v1, v2, v3, v4, v5, v6, v7⟩ := X2_at_l r4 hk
    obtain ⟨-, a2, a3, -⟩ := flF_at hk (g := 6) hf
    obtain ⟨g1, g2, g3, g4, g5, g6, g7⟩ := hG.2.2 _ hlt
    have hs := X7_isSilent_q q hG hlt
    rw [a2] at g1 g3 g4 g5 g6 g7 hs
    rw [a3] at g2
    rw [s1] at hs
    have hge : (flF M f).length ≤ (flF M f).length + k := by omega
    have e5 : nI ((flF M f).length + k) - nI (flF M f).length = nI k := by rw [pk_sub hge, Nat.add_sub_cancel_left]
    have hi : (flF M f).length + k < 192 := by have := hG.1; omega
    have hfm : ¬ nI f = -1 := nI_m1 (by omega)
    rw [fX6_finding, fX7_finding]
    simp only [hF.o, q.o, i6, i7, hfm, if_false, if_neg (show ¬ (1 : Int32) = 0 by decide), hF.g0, r1, r2, r3, r5, X6_ahead_q hF hW (show f ≤ 6 by omega), e5, v1, v2, v3, v4, v5, v6, v7, hF.g6, q.g10, q.g11, q.g12, q.g13, q.g14, q.g15, q.g16, q.g4, s1, hs, q.l (j := 4) (i := (flF M f).length + k) (by omega) (by omega) hi, q.l (j := 5) (i := (flF M f).length + k) (by omega) (by omega) hi, q.l (j := 6) (i := (flF M f).length + k) (by omega) (by omega) hi, q.l (j := 7) (i := (flF M f).length + k) (by omega) (by omega) hi, q.l (j := 8) (i := (flF M f).length + k) (by omega) (by omega) hi, q.l (j := 9) (i := (flF M f).length + k) (by omega) (by omega) hi, q.l (j := 10) (i := (flF M f).length + k) (by omega) (by omega) hi, g1, g2, g3, g4, g5, g6, g7, Option.bind_some, fX6_finding_b133, fX7_finding_b104, fX7_finding_b128, fX7_finding_b147, bz_cond]
    by_cases h0 : x2 = 0
    · exact ⟨_, by rw [if_pos h0], by rw [if_pos h0]⟩
    simp only [if_neg h0]
    by_cases h1 : x2 = 1
    · exact ⟨_, by rw [if_pos h1], by rw [if_pos h1]⟩
    simp only [if_neg h1]
    by_cases h2 : x2 = 2
    · exact ⟨_, by rw [if_pos h2], by rw [if_pos h2]⟩
    simp only [if_neg h2]
    by_cases h3 : x2 = 3
    · exact ⟨_, by rw [if_pos h3], by rw [if_pos h3]⟩
    simp only [if_neg h3]
    by_cases h4 : x2 = 4
    · exact ⟨_, by rw [if_pos h4], by rw [if_pos h4]⟩
    simp only [if_neg h4]
    by_cases hd : nI day < ((M f).getD k d0).2.2.2.2.1
    · simp only [if_pos hd, decide_eq_true hd, if_true]
      by_cases h5 : x2 = 5
      · exact ⟨_, by rw [if_pos h5], by rw [if_pos h5]⟩
      simp only [if_neg h5]
      by_cases h6 : x2 = 6
      · exact ⟨_, by rw [if_pos h6], by rw [if_pos h6]⟩
      simp only [if_neg h6]
      by_cases h7 : x2 = 7
      · exact ⟨_, by rw [if_pos h7], by rw [if_pos h7]⟩
      exact ⟨-1, by rw [if_neg h7], by rw [if_neg h7]⟩
    · simp only [if_neg hd, decide_eq_false hd, if_neg (show ¬ false = true by decide)]
      by_cases h5 : x2 = 5
      · exact ⟨_, by rw [if_pos h5], by rw [if_pos h5]⟩
      simp only [if_neg h5]
      by_cases h6 : x2 = 6
      · exact ⟨_, by rw [if_pos h6], by rw [if_pos h6]⟩
      simp only [if_neg h6]
      by_cases h7 : x2 = 7
      · exact ⟨_, by rw [if_pos h7], by rw [if_pos h7]⟩
      exact ⟨-1, by rw [if_neg h7], by rw [if_neg h7]⟩
  · exact ⟨-1, by simp [fX6_finding, hF.o, a], by simp [fX7_finding, q.o, b]⟩
theorem srch_shiftN (P : Nat → Bool) (c : Nat) : ∀ (m k : Nat), srch P m (c + k) = (srch (fun j => P (c + j)) m k).map (c + ·)
  | 0, k => rfl
  | m + 1, k => by
    unfold srch
    by_cases h : P (c + k) = true
    · rw [if_pos h, if_pos h]; rfl
    · rw [if_neg h, if_neg h, ← srch_shiftN P c m (k + 1)]; rfl
theorem srch_add (P : Nat → Bool) (b : Nat) : ∀ (a k : Nat), srch P (a + b) k = match srch P a k with | some j => some j | none => srch P b (k + a)
  | 0, k => by simp [srch]
  | a + 1, k => by
    rw [show a + 1 + b = (a + b) + 1 by omega, srch, srch]
    by_cases h : P k = true
    · rw [if_pos h, if_pos h]
    · rw [if_neg h, if_neg h, srch_add P b a (k + 1), show k + 1 + a = k + (a + 1) by omega]
theorem flF_pre {M : Nat → List Fnd} {g : Nat} : ∀ {h : Nat}, g ≤ h → ∃ T, flF M h = flF M g ++ T
  | 0, e => ⟨[], by have : g = 0 := by omega
                    subst this; rfl⟩
  | h + 1, e => by
    by_cases hg : g = h + 1
    · exact ⟨[], by rw [hg, List.append_nil]⟩
    · obtain ⟨T, hT⟩ := flF_pre (M := M) (g := g) (h := h) (by omega)
      exact ⟨T ++ M h, by rw [flF, hT, List.append_assoc]⟩
theorem X6_find_loop {w : Fw} {z : Nat} {n : Nat → Nat} {β ι : Nat → Nat → Nat} {M : Nat → List Fnd} {ℓ : List Lg} {tn : Nat} {τ : Nat → Nat} {chg day ids : Nat} {bad wrk : Int32} (hF : FHo w z chg day ids bad wrk) (h : CW0 w z n β ι M ℓ tn τ) (r i : Int32) : ∀ (q g fuel : Nat), g + q = 6 → q < fuel → fX6_find_L2 w fuel z r i (nI g) = some (plI (srch (pL (flF M 6) r i) ((flF M 6).length - (flF M g).length) (flF M g).length))
  | q, g, 0, h1, h2 => by omega
  | 0, g, fuel + 1, h1, h2 => by
    have : g = 6 := by omega
    subst this
    rw [fX6_find_L2, if_pos (by decide), Nat.sub_self]
    rfl
  | q + 1, g, fuel + 1, h1, h2 => by
    have hle' : ¬ (6 : Int32) ≤ nI g := nI_ge (b := 6) (by omega) (by decide)
    obtain ⟨ra, r1, r2, r3, r4, r5, r6⟩ := h.row (f := g) (by omega)
    have ih := X6_find_loop hF h r i q (g + 1) fuel (by omega) (by omega)
    obtain ⟨T, hT⟩ := flF_pre (M := M) (g := g + 1) (h := 6) (by omega)
    have e1 : (flF M (g + 1)).length = (flF M g).length + (M g).length := by rw [flF, List.length_append]
    have e2 : (flF M 6).length = (flF M (g + 1)).length + T.length := by rw [hT, List.length_append]
    have e3 : (flF M 6).length - (flF M g).length = (M g).length + ((flF M 6).length - (flF M (g + 1)).length) := by omega
    have hb := h.flen (g := 6) (by omega)
    rw [e3, srch_add, ← e1]
    have hseg : srch (pL (flF M 6) r i) (M g).length (flF M g).length = (srch (pL (M g) r i) (M g).length 0).map ((flF M g).length + ·) := by
      have h9 := srch_shiftN (pL (flF M 6) r i) (flF M g).length (M g).length 0
      rw [Nat.add_zero] at h9
      rw [h9]
      congr 1
      apply srch_congr
      intro k _ hk
      have hg := (flF_at (show k < (M g).length by omega) (g := 6) (by omega)).2.1
      simp only [pL]
      rw [hg]
    rw [fX6_find_L2, if_neg hle', hseg]
    simp only [hF.g0, r1, r2, r3, r5, X2_placeOf_l r4, Option.bind_some, hF.o, X6_ahead_q hF h (show g ≤ 6 by omega), nI_1]
    cases hs : srch (pL (M g) r i) (M g).length 0 with
    | none =>
      simp only [plI, if_true, Option.map_none]
      exact ih
    | some k =>
      have hk := (srch_some hs).2.1
      rw [if_neg (plI_ne (show k < 2 ^ 31 by omega))]
      simp only [plI, Option.map_some, nI_add]
theorem step_find {z : Nat} : ∀ (j : Nat) (w : Fw) (x1 x2 : Int32), j < 512 → Inv z j w → ∃ r : Int32, fX6_find w z x1 x2 = some r ∧ fX7_find w (z + 150) x1 x2 = some r := by
  intro j w x1 x2 hj hI
  obtain ⟨n, β, ι, M, ℓ, tn, τ, chg, day, ids, bad, wrk, hC, hM, hCo, hU, hc, hid, hday⟩ := id hI
  obtain ⟨hF, hW⟩ := hC.split
  obtain ⟨S, A, q, s0, s1, s2, s3, s4, s5, s7, s8, hL, hG, hl, ht, hT⟩ := id hM
  refine ⟨_, ?_, X7_find_q q s5 hG x1 x2⟩
  rw [fX6_find]
  exact X6_find_loop hF hW x1 x2 6 0 1000 (by omega) (by omega)
theorem step_since {z : Nat} : ∀ (j : Nat) (w : Fw) (x1 x2 : Int32), j < 512 → Inv z j w → ∃ r : Int32, fX6_since w z x1 x2 = some r ∧ fX7_since w (z + 150) x1 x2 = some r := by
  intro j w x1 x2 hj hI
  obtain ⟨n, β, ι, M, ℓ, tn, τ, chg, day, ids, bad, wrk, hC, hM, hCo, hU, hc, hid, hday⟩ := id hI
  obtain ⟨hF, hW⟩ := hC.split
  obtain ⟨S, A, q, s0, s1, s2, s3, s4, s5, s7, s8, hL, hG, hl, ht, hT⟩ := id hM
  have hlen := hW.flen (g := 6) (by omega)
  have key : ∀ b : Bool, fX6_since_L16 w 1000 z x1 (bz b) 0 0 = fX7_since_L16 w 1000 (z + 150) x1 (bz b) 0 0 ∧ ∃ r, fX6_since_L16 w 1000 z x1 (bz b) 0 0 = some r := by
    intro b
    have h6 := X6_since_loop hF hW x1 b 6 0 1000 (by omega) (by omega)
    have h7 := X7_since_loop q s5 hG x1 b (flF M 6).length 0 1000 (by omega) (by omega)
    rw [s1] at h7
    have h6' : fX6_since_L16 w 1000 z x1 (bz b) 0 0 = _ := h6
    have h7' : fX7_since_L16 w 1000 (z + 150) x1 (bz b) 0 0 = _ := h7
    exact ⟨h6'.trans h7'.symm, _, h6'⟩
  by_cases h0 : x2 = 0
  · obtain ⟨k1, r, k2⟩ := key false
    refine ⟨r, ?_, ?_⟩
    · rw [fX6_since, if_pos h0, fX6_since_b11, h0]; exact k2
    · rw [fX7_since, h0, X7_isIn_q, Option.bind_some, if_neg (by decide)]; exact k1.symm.trans k2
  · by_cases h1 : x2 = 1
    · obtain ⟨k1, r, k2⟩ := key true
      refine ⟨r, ?_, ?_⟩
      · rw [fX6_since, if_neg h0, if_pos h1, fX6_since_b11, h1]; exact k2
      · rw [fX7_since, h1, X7_isIn_q, Option.bind_some, if_neg (by decide)]; exact k1.symm.trans k2
    · refine ⟨-1, by rw [fX6_since, if_neg h0, if_neg h1], ?_⟩
      have hno : ¬ ((0 : Int32) ≤ x2 ∧ x2 ≤ 1) := by
        intro e
        obtain ⟨k, hk, rfl⟩ := nI_of2 (M := (1 : Int32)) (n := 1) (by decide) (Int32.not_lt.mpr e.1) e.2
        match k, hk with
        | 0, _ => exact h0 rfl
        | 1, _ => exact h1 rfl
      rw [fX7_since, X7_isIn_q, decide_eq_false hno]
      rfl
theorem step_log {z : Nat} : ∀ (j : Nat) (w : Fw) (x1 x2 : Int32), j < 512 → Inv z j w → ∃ r : Int32, fX6_log w z x1 x2 = some r ∧ fX7_log w (z + 150) x1 x2 = some r := by
  intro j w x1 x2 hj hI
  obtain ⟨n, β, ι, M, ℓ, tn, τ, chg, day, ids, bad, wrk, hC, hM, hCo, hU, hc, hid, hday⟩ := id hI
  obtain ⟨hF, hW⟩ := hC.split
  obtain ⟨S, A, q, s0, s1, s2, s3, s4, s5, s7, s8, hL, hG, hl, ht, hT⟩ := id hM
  have hlg := hW.2.2.2.2.2
  have h60 := hl.1
  have no : ¬ ((0 : Int32) ≤ x1 ∧ x1 ≤ nI ℓ.length - 1) → fX7_log w (z + 150) x1 x2 = some (-1) := by
    intro e
    simp only [fX7_log, q.g22, s7, Option.bind_some, X7_isIn_q, decide_eq_false e]
    rfl
  rcases pk_ix x1 (n := ℓ.length) (by omega) with h1 | h1 | ⟨i, hi, rfl⟩
  · exact ⟨-1, by rw [fX6_log, if_pos h1, fX6_log_b15], no (fun e => absurd h1 (Int32.not_lt.mpr e.1))⟩
  · have h0 : ¬ x1 < 0 := fun e => absurd (Int32.lt_of_lt_of_le e (Int32.le_trans (nI_pos' (show ℓ.length < 2 ^ 31 by omega)) h1)) Int32.lt_irrefl
    refine ⟨-1, ?_, no (fun e => ?_)⟩
    · rw [fX6_log, if_neg h0]
      simp only [hF.g4, X1_isO hlg, X1_size_l hlg, Option.bind_some, if_neg (Int32.not_lt.mpr h1), fX6_log_b15]
    · have h9 := Int32.le_trans h1 e.2
      rw [Int32.le_iff_toInt_le, nI_toInt (by omega)] at h9
      have h8 : (nI ℓ.length - 1).toInt = ((ℓ.length : Nat) : Int) - (1 : Nat) := pk_sub_toInt (b := 1) (by omega) (by omega)
      rw [h8] at h9
      omega
  · obtain ⟨p, e1, e2, e3, e4, e5⟩ := X1_at_l hlg hi
    have hin : (0 : Int32) ≤ nI i ∧ nI i ≤ nI ℓ.length - 1 := by
      obtain ⟨k, hk⟩ : ∃ k, ℓ.length = k + 1 := ⟨ℓ.length - 1, by omega⟩
      rw [hk, nI_pred]
      exact ⟨nI_pos' (by omega), nI_le (by omega) (by omega)⟩
    have hix : nI ℓ.length - 1 - nI i = nI (ℓ.length - 1 - i) := by
      obtain ⟨k, hk⟩ : ∃ k, ℓ.length = k + 1 := ⟨ℓ.length - 1, by omega⟩
      rw [hk, nI_pred, pk_sub (by omega)]
      rfl
    have hpl : ℓ.length - 1 - i < ℓ.length := by omega
    obtain ⟨g1, g2, g3, g4⟩ := hl.2 _ hpl
    have hp60 : ℓ.length - 1 - i < 60 := by omega
    rw [fX6_log, if_neg (nI_pos (show i < 2 ^ 31 by omega)), fX7_log]
    simp only [hF.g4, X1_isO hlg, X1_size_l hlg, Option.bind_some, if_pos (nI_lt hi (by omega)), e1, e2, e3, e4, e5, q.g22, s7, X7_isIn_q, decide_eq_true hin, show bz true = 1 from rfl, if_neg (show ¬ (1 : Int32) = 0 by decide), hix, q.g23, q.g24, q.g25, q.g26, q.l (j := 16) (i := ℓ.length - 1 - i) (by omega) (by omega) hp60, q.l (j := 17) (i := ℓ.length - 1 - i) (by omega) (by omega) hp60, q.l (j := 18) (i := ℓ.length - 1 - i) (by omega) (by omega) hp60, q.l (j := 19) (i := ℓ.length - 1 - i) (by omega) (by omega) hp60, g1, g2, g3, g4, fX7_log_b81]
    by_cases h0 : x2 = 0
    · exact ⟨_, by rw [if_pos h0], by rw [if_pos h0]⟩
    simp only [if_neg h0]
    by_cases h1 : x2 = 1
    · exact ⟨_, by rw [if_pos h1], by rw [if_pos h1]⟩
    simp only [if_neg h1]
    by_cases h2 : x2 = 2
    · exact ⟨_, by rw [if_pos h2], by rw [if_pos h2]⟩
    simp only [if_neg h2]
    by_cases h3 : x2 = 3
    · exact ⟨_, by rw [if_pos h3], by rw [if_pos h3]⟩
    exact ⟨-1, by rw [if_neg h3], by rw [if_neg h3]⟩
