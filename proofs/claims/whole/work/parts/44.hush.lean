/-! ===== silence, speak ===== -/
theorem getD_set {α : Type} {L : List α} {i k : Nat} {x d : α} (hi : i < L.length) : (L.set i x).getD k d = if k = i then x else L.getD k d := by
  by_cases h : k = i
  · subst h; simp [List.getD, hi]
  · rw [if_neg h]; simp [List.getD, List.getElem?_set_ne (Ne.symm h)]
theorem flF_len {M M' : Nat → List Fnd} (h : ∀ g, (M' g).length = (M g).length) : ∀ g, (flF M' g).length = (flF M g).length ∧ flP M' g = flP M g
  | 0 => ⟨rfl, rfl⟩
  | g + 1 => by
    obtain ⟨a, b⟩ := flF_len h g
    rw [flF, flF, flP, flP, List.length_append, List.length_append, a, b, h g]
    exact ⟨rfl, rfl⟩
theorem flF_set {M : Nat → List Fnd} {f k : Nat} {e : Fnd} (hk : k < (M f).length) : ∀ g, flF (setF M f ((M f).set k e)) g = if f < g then (flF M g).set ((flF M f).length + k) e else flF M g
  | 0 => by simp [flF]
  | g + 1 => by
    rw [flF, flF_set hk g]
    by_cases hg : g = f
    · subst hg
      rw [if_neg (Nat.lt_irrefl _), if_pos (by omega), setF_eq, flF, List.set_append_right _ _ (by omega), Nat.add_sub_cancel_left]
    · rw [setF_ne hg]
      by_cases hlt : f < g
      · have h1 := (flF_at hk (g := g) hlt).1
        rw [if_pos hlt, if_pos (by omega), flF, List.set_append_left _ _ h1]
      · rw [if_neg hlt, if_neg (by omega), flF]
theorem FG_set {A A' : Nat → Nat → Int32} {G : List Fnd} {Φ : List Nat} (hG : FG A G Φ) {i : Nat} (hi : i < G.length) {u r : Int32} (ha : ∀ j, j ≠ 9 → j ≠ 10 → A' j = A j) (h9 : A' 9 i = u) (h10 : A' 10 i = r) (hn : ∀ k, k ≠ i → A' 9 k = A 9 k ∧ A' 10 k = A 10 k) : FG A' (G.set i ((G.getD i d0).1, (G.getD i d0).2.1, (G.getD i d0).2.2.1, (G.getD i d0).2.2.2.1, u, r)) Φ := by
  obtain ⟨h1, h2, h3⟩ := hG
  refine ⟨by rw [List.length_set]; exact h1, by rw [List.length_set]; exact h2, fun k hk => ?_⟩
  rw [List.length_set] at hk
  rw [getD_set hi, ha 4 (by decide) (by decide), ha 5 (by decide) (by decide), ha 6 (by decide) (by decide), ha 7 (by decide) (by decide), ha 8 (by decide) (by decide)]
  obtain ⟨a1, a2, a3, a4, a5, a6, a7⟩ := h3 k hk
  by_cases hki : k = i
  · subst hki
    rw [if_pos rfl]
    exact ⟨a1, a2, a3, a4, a5, h9, h10⟩
  · rw [if_neg hki, (hn k hki).1, (hn k hki).2]
    exact ⟨a1, a2, a3, a4, a5, a6, a7⟩
theorem k3_set {L : List Fnd} {k : Nat} {e : Fnd} (hk : k < L.length) (he : k3 e = k3 (L.getD k d0)) : (L.set k e).map k3 = L.map k3 := by
  apply List.ext_getElem?
  intro i
  rw [List.getElem?_map, List.getElem?_map]
  by_cases h : i = k
  · subst h
    have h9 : L.getD i d0 = L[i] := by simp [List.getD, hk]
    rw [List.getElem?_set_self hk, List.getElem?_eq_getElem hk, ← h9]
    exact congrArg some he
  · rw [List.getElem?_set_ne (Ne.symm h)]
theorem Cons_set {n : Nat → Nat} {β ι : Nat → Nat → Nat} {bad : Int32} {M : Nat → List Fnd} (h : Cons n β ι bad M) {f k : Nat} {e : Fnd} (hk : k < (M f).length) (he : k3 e = k3 ((M f).getD k d0)) : Cons n β ι bad (setF M f ((M f).set k e)) := by
  intro g hg
  by_cases hgf : g = f
  · subst hgf
    rw [setF_eq, k3_set hk he]
    exact h g hg
  · rw [setF_ne hgf]
    exact h g hg
section HU
variable {w : Fw} {z : Nat} {n : Nat → Nat} {β ι : Nat → Nat → Nat} {M : Nat → List Fnd} {ℓ : List Lg} {tn : Nat} {τ : Nat → Nat} {chg day ids : Nat} {bad wrk : Int32}
/-- a file's row of findings, to be written anew in its place -/
theorem CW0.rowW (h : CW0 w z n β ι M ℓ tn τ) {f : Nat} (hf : f < 6) : ∃ ra, sh z f + 3 ≤ ra ∧ ra + 7 ≤ sh z f + 17 ∧ lR w 0 (z + 1) (nI f) = some (sh z f) ∧ isO w (sh z f) 4 = some () ∧ fX4_findings w (sh z f) = some ra ∧ RwL w ra (M f) ∧ isO w ra 2 = some () ∧ ∀ (w' : Fw) (L : List Fnd), RwL w' ra L → Out w w' ra (ra + 7) → CW0 w' z n β ι (setF M f L) ℓ tn τ := by
  obtain ⟨h2, h3, h4, h5, ⟨F, O, h6⟩, h7⟩ := id h
  obtain ⟨hn, B, I, ra, rb, M', hab, hsh, hβ, hι, hR, hR'⟩ := h3 f hf
  refine ⟨ra, by omega, by omega, h2.at hf, hsh.o, X4_findings_q hsh, hR, hR.o, fun w' L hL o => ?_⟩
  have hlo : z + 2 + 17 * f = sh z f := rfl
  refine ⟨h2.frame (o _ (by omega)), fun g hg => ?_, h4.frame (fun q q1 q2 => o q (by omega)), h5.frame (fun q q1 q2 => o q (by omega)), ⟨F, O, h6.frame (fun q q1 q2 => o q (by omega))⟩, h7.frame (fun q q1 q2 => o q (by omega))⟩
  by_cases hgf : g = f
  · subst hgf
    rw [setF_eq]
    exact ⟨hn, B, I, ra, rb, M', hab, hsh.frame (fun q q1 q2 => o q (by omega)), hβ, hι, hL, hR'.frame (fun q q1 q2 => o q (by omega))⟩
  · rw [setF_ne hgf]
    have hlg : z + 2 + 17 * g = sh z g := rfl
    exact (h3 g hg).frame (fun q q1 q2 => o q (by omega))
end HU
theorem X6_silence_no {w : Fw} {z : Nat} {x1 x2 x3 x4 x5 s0 : Int32} (h : x4 = -1 ∨ x5 = 0 ∨ s0 = 0) : fX6_silence_b40 w z x1 x2 x3 x4 x5 s0 = some (0, w) := by
  have hb : fX6_silence_b58 w = some (0, w) := by rw [fX6_silence_b58, zb_0]; rfl
  rw [fX6_silence_b40]
  by_cases h4 : x4 = -1
  · rw [if_pos h4, hb]
  rw [if_neg h4]
  by_cases h5 : x5 = 0
  · rw [if_pos h5, hb]
  rw [if_neg h5]
  by_cases h6 : s0 = 0
  · rw [if_pos h6, hb]
  rcases h with h | h | h <;> contradiction
theorem X6_silence_b23_no {w : Fw} {z : Nat} {x1 x2 x3 x4 x5 : Int32} (h : x4 = -1 ∨ x5 = 0 ∨ ¬ ((0 : Int32) ≤ x3 ∧ x3 ≤ 99)) : fX6_silence_b23 w z x1 x2 x3 x4 x5 = some (0, w) := by
  rw [fX6_silence_b23, fX6_silence_b39, X6_silence_no (s0 := 0) (Or.inr (Or.inr rfl))]
  by_cases h1 : x3 < 0
  · rw [if_pos h1]
  rw [if_neg h1]
  by_cases h2 : 99 < x3
  · rw [if_pos h2]
  rw [if_neg h2]
  rcases h with h | h | h
  · exact X6_silence_no (Or.inl h)
  · exact X6_silence_no (Or.inr (Or.inl h))
  · exact absurd ⟨Int32.not_lt.mp h1, Int32.not_lt.mp h2⟩ h
theorem X6_silence_out {w : Fw} {z : Nat} {x1 x2 x3 x4 : Int32} (ho : isO w z 6 = some ()) (hf : fX6_fileOfFinding w z x1 = some x4) (h : x4 = -1 ∨ ¬ ((1 : Int32) ≤ x2 ∧ x2 ≤ 99) ∨ ¬ ((0 : Int32) ≤ x3 ∧ x3 ≤ 99)) : fX6_silence w z x1 x2 x3 = some (0, w) := by
  rw [fX6_silence, ho, Option.bind_some, hf, Option.bind_some, fX6_silence_b22, X6_silence_b23_no (x5 := 0) (Or.inr (Or.inl rfl))]
  by_cases h1 : x2 < 1
  · rw [if_pos h1]
  rw [if_neg h1]
  by_cases h2 : 99 < x2
  · rw [if_pos h2]
  rw [if_neg h2]
  rcases h with h | h | h
  · exact X6_silence_b23_no (Or.inl h)
  · exact absurd ⟨Int32.not_lt.mp h1, Int32.not_lt.mp h2⟩ h
  · exact X6_silence_b23_no (Or.inr (Or.inr h))
theorem step_silence {z : Nat} : ∀ (j : Nat) (w : Fw) (x1 x2 x3 : Int32), j < 512 → Inv z j w → ∃ (r : Int32) (w1 w2 : Fw), fX6_silence w z x1 x2 x3 = some (r, w1) ∧ isO w1 (z + 150) 7 = some () ∧ fX7_silence w1 (z + 150) x1 x2 x3 = some (r, w2) ∧ Inv z (j + 1) w2 := by
  intro j w x1 x2 x3 hj hI
  obtain ⟨n, β, ι, M, ℓ, tn, τ, chg, day, ids, bad, wrk, hC, hM, hCo, hU, hc, hid, hday⟩ := id hI
  obtain ⟨hF, hW⟩ := hC.split
  have b28 : ∀ w : Fw, fX7_silence_b28 w = some (0, w) := fun w => by rw [fX7_silence_b28, zb_0]; rfl
  rcases fnd_cases hC hM x1 with ⟨f, k, hf, hk, hlt, rfl, i6, i7⟩ | ⟨a, b⟩
  · by_cases hx2 : (1 : Int32) ≤ x2 ∧ x2 ≤ 99
    · by_cases hx3 : (0 : Int32) ≤ x3 ∧ x3 ≤ 99
      · obtain ⟨ra, ra1, ra2, r1, r2, r3, r4, r5, hset⟩ := hW.rowW hf
        obtain ⟨wa, ea, la, oa⟩ := X2_hush_l r4 hk (nI day + x2) x3
        have hge : (flF M f).length ≤ (flF M f).length + k := by omega
        have e5 : nI ((flF M f).length + k) - nI (flF M f).length = nI k := by rw [pk_sub hge, Nat.add_sub_cancel_left]
        have hshd : sh z f = z + 2 + 17 * f := rfl
        have hWa := hset wa _ la oa
        have hFa := hF.frame (w' := wa) (oa z (by omega))
        have hMa := hM.frame (w' := wa) (fun q q1 q2 => oa q (by omega))
        have e6 : fX6_silence w z (nI ((flF M f).length + k)) x2 x3 = some (1, wa) := by
          rw [fX6_silence, hF.o, Option.bind_some, i6, Option.bind_some, if_neg (Int32.not_lt.mpr hx2.1), if_neg (Int32.not_lt.mpr hx2.2), fX6_silence_b23, if_neg (Int32.not_lt.mpr hx3.1), if_neg (Int32.not_lt.mpr hx3.2), fX6_silence_b40, if_neg (nI_m1 (show f < 2 ^ 31 by omega)), if_neg (by decide), if_neg (by decide)]
          simp only [hF.g0, r1, r2, r3, hF.o, X6_ahead_q hF hW (show f ≤ 6 by omega), hF.g6, r5, e5, ea, Option.bind_some, zb_1]
        obtain ⟨S, A, q, s0, s1, s2, s3, s4, s5, s7, s8, hL, hG, hl, ht, hT⟩ := id hMa
        have hi : (flF M f).length + k < 192 := by have := hG.1; omega
        have i7' : fX7_isFinding wa (z + 150) (nI ((flF M f).length + k)) = some 1 := by
          have h192 := hG.1
          obtain ⟨p, hp⟩ : ∃ p, (flF M 6).length = p + 1 := ⟨(flF M 6).length - 1, by omega⟩
          have h2 : nI ((flF M f).length + k) ≤ nI p := nI_le (by omega) (by omega)
          simp only [fX7_isFinding, q.g8, s5, hp, Option.bind_some, nI_pred, X7_isIn_q, zb_bz, decide_eq_true (show (0 : Int32) ≤ nI ((flF M f).length + k) ∧ nI ((flF M f).length + k) ≤ nI p from ⟨nI_pos' (by omega), h2⟩)]
          rfl
        obtain ⟨wb, eb, qb, ob⟩ := q.s (j := 9) (i := (flF M f).length + k) (by omega) (by omega) hi (nI day + x2)
        obtain ⟨wc, ec, qc, oc⟩ := qb.s (j := 10) (i := (flF M f).length + k) (by omega) (by omega) hi x3
        have n2 : fX7_isIn wa x2 1 99 = some 1 := by rw [X7_isIn_q, decide_eq_true hx2]; rfl
        have n3 : fX7_isIn wa x3 0 99 = some 1 := by rw [X7_isIn_q, decide_eq_true hx3]; rfl
        have e7 : fX7_silence wa (z + 150) (nI ((flF M f).length + k)) x2 x3 = some (1, wc) := by
          simp only [fX7_silence, q.o, i7', n2, n3, Option.bind_some, if_neg (show ¬ (1 : Int32) = 0 by decide), q.g15, q.g4, s1, eb, qb.g16, ec, zb_1]
        have hob := ob.tr oc
        have a2 := (flF_at hk (g := 6) hf).2.1
        have hG' := FG_set hG hlt (u := nI day + x2) (r := x3) (A' := vup (vup A 9 ((flF M f).length + k) (nI day + x2)) 10 ((flF M f).length + k) x3) (fun j j9 j10 => by rw [vup_ne j10, vup_ne j9]) (by rw [vup_ne (by decide), vup_eq]; simp [upd]) (by rw [vup_eq]; simp [upd]) (fun k' hk' => ⟨by rw [vup_ne (by decide), vup_eq]; simp [upd, hk'], by rw [vup_eq, vup_ne (by decide)]; simp [upd, hk']⟩)
        rw [a2] at hG'
        have hfl := flF_set (e := (((M f).getD k d0).1, ((M f).getD k d0).2.1, ((M f).getD k d0).2.2.1, ((M f).getD k d0).2.2.2.1, nI day + x2, x3)) hk 6
        rw [if_pos hf] at hfl
        rw [← hfl] at hG'
        have hln := flF_len (M := M) (M' := setF M f ((M f).set k (((M f).getD k d0).1, ((M f).getD k d0).2.1, ((M f).getD k d0).2.2.1, ((M f).getD k d0).2.2.2.1, nI day + x2, x3))) (fun g => by
          by_cases hgf : g = f
          · subst hgf; rw [setF_eq, List.length_set]
          · rw [setF_ne hgf]) 6
        refine ⟨1, wa, wc, e6, hMa.o, e7, n, β, ι, _, ℓ, tn, τ, chg, day, ids, bad, wrk, CW.frame ⟨hFa, hWa⟩ (fun q q1 q2 => hob q (by omega)), ⟨S, _, qc, s0, s1, s2, s3, s4, by rw [hln.1]; exact s5, s7, s8, ?_, by rw [hln.2]; exact hG', ?_, ht, ?_⟩, Cons_set hCo hk rfl, hU, by omega, by omega, hday⟩
        · intro g hg
          rw [vup_ne (by decide), vup_ne (by decide), vup_ne (by decide), vup_ne (by decide), vup_ne (by decide), vup_ne (by decide)]
          exact hL g hg
        · refine ⟨hl.1, fun i hi => ?_⟩
          rw [vup_ne (by decide), vup_ne (by decide), vup_ne (by decide), vup_ne (by decide), vup_ne (by decide), vup_ne (by decide), vup_ne (by decide), vup_ne (by decide)]
          exact hl.2 i hi
        · rw [vup_ne (by decide), vup_ne (by decide)]
          exact hT
      · refine ⟨0, w, w, X6_silence_out hF.o i6 (Or.inr (Or.inr hx3)), hM.o, ?_, hI.mono⟩
        simp only [fX7_silence, hM.o, i7, Option.bind_some, X7_isIn_q, decide_eq_true hx2, decide_eq_false hx3, show bz true = 1 from rfl, show bz false = 0 from rfl, if_neg (show ¬ (1 : Int32) = 0 by decide), if_true, b28]
    · refine ⟨0, w, w, X6_silence_out hF.o i6 (Or.inr (Or.inl hx2)), hM.o, ?_, hI.mono⟩
      simp only [fX7_silence, hM.o, i7, Option.bind_some, X7_isIn_q, decide_eq_false hx2, show bz false = 0 from rfl, if_neg (show ¬ (1 : Int32) = 0 by decide), if_true, b28]
  · refine ⟨0, w, w, X6_silence_out hF.o a (Or.inl rfl), hM.o, ?_, hI.mono⟩
    simp only [fX7_silence, hM.o, b, Option.bind_some, if_true, b28]
theorem step_speak {z : Nat} : ∀ (j : Nat) (w : Fw) (x1 : Int32), j < 512 → Inv z j w → ∃ (r : Int32) (w1 w2 : Fw), fX6_speak w z x1 = some (r, w1) ∧ isO w1 (z + 150) 7 = some () ∧ fX7_speak w1 (z + 150) x1 = some (r, w2) ∧ Inv z (j + 1) w2 := by
  intro j w x1 hj hI
  obtain ⟨n, β, ι, M, ℓ, tn, τ, chg, day, ids, bad, wrk, hC, hM, hCo, hU, hc, hid, hday⟩ := id hI
  obtain ⟨hF, hW⟩ := hC.split
  have b16 : ∀ w : Fw, fX7_speak_b16 w = some (0, w) := fun w => by rw [fX7_speak_b16, zb_0]; rfl
  rcases fnd_cases hC hM x1 with ⟨f, k, hf, hk, hlt, rfl, i6, i7⟩ | ⟨a, b⟩
  · obtain ⟨ra, ra1, ra2, r1, r2, r3, r4, r5, hset⟩ := hW.rowW hf
    obtain ⟨-, -, -, -, v5, -, -⟩ := X2_at_l r4 hk
    have hge : (flF M f).length ≤ (flF M f).length + k := by omega
    have e5 : nI ((flF M f).length + k) - nI (flF M f).length = nI k := by rw [pk_sub hge, Nat.add_sub_cancel_left]
    have hshd : sh z f = z + 2 + 17 * f := rfl
    have a2 := (flF_at hk (g := 6) hf).2.1
    by_cases hs : nI day < ((M f).getD k d0).2.2.2.2.1
    · obtain ⟨wa, ea, la, oa⟩ := X2_unhush_l r4 hk
      have hWa := hset wa _ la oa
      have hFa := hF.frame (w' := wa) (oa z (by omega))
      have hMa := hM.frame (w' := wa) (fun q q1 q2 => oa q (by omega))
      have e6 : fX6_speak w z (nI ((flF M f).length + k)) = some (1, wa) := by
        simp only [fX6_speak, i6, if_neg (nI_m1 (show f < 2 ^ 31 by omega)), hF.g0, r1, r2, r3, hF.o, X6_ahead_q hF hW (show f ≤ 6 by omega), hF.g6, r5, e5, v5, decide_eq_true hs, show bz true = 1 from rfl, if_neg (show ¬ (1 : Int32) = 0 by decide), ea, Option.bind_some, zb_1]
      obtain ⟨S, A, q, s0, s1, s2, s3, s4, s5, s7, s8, hL, hG, hl, ht, hT⟩ := id hMa
      have hi : (flF M f).length + k < 192 := by have := hG.1; omega
      have i7' : fX7_isFinding wa (z + 150) (nI ((flF M f).length + k)) = some 1 := by
        have h192 := hG.1
        obtain ⟨p, hp⟩ : ∃ p, (flF M 6).length = p + 1 := ⟨(flF M 6).length - 1, by omega⟩
        have h2 : nI ((flF M f).length + k) ≤ nI p := nI_le (by omega) (by omega)
        simp only [fX7_isFinding, q.g8, s5, hp, Option.bind_some, nI_pred, X7_isIn_q, zb_bz, decide_eq_true (show (0 : Int32) ≤ nI ((flF M f).length + k) ∧ nI ((flF M f).length + k) ≤ nI p from ⟨nI_pos' (by omega), h2⟩)]
        rfl
      have hsl := X7_isSilent_q q hG hlt
      rw [s1, a2, decide_eq_true hs] at hsl
      obtain ⟨wb, eb, qb, ob⟩ := q.s (j := 9) (i := (flF M f).length + k) (by omega) (by omega) hi 0
      have e7 : fX7_speak wa (z + 150) (nI ((flF M f).length + k)) = some (1, wb) := by
        simp only [fX7_speak, q.o, i7', hsl, Option.bind_some, show bz true = 1 from rfl, if_neg (show ¬ (1 : Int32) = 0 by decide), q.g15, eb, zb_1]
      have h10 := (hG.2.2 _ hlt).2.2.2.2.2.2
      have hG' := FG_set hG hlt (u := 0) (r := ((flF M 6).getD ((flF M f).length + k) d0).2.2.2.2.2) (A' := vup A 9 ((flF M f).length + k) 0) (fun j j9 j10 => by rw [vup_ne j9]) (by rw [vup_eq]; simp [upd]) (by rw [vup_ne (by decide)]; exact h10) (fun k' hk' => ⟨by rw [vup_eq]; simp [upd, hk'], by rw [vup_ne (by decide)]⟩)
      rw [a2] at hG'
      have hfl := flF_set (e := (((M f).getD k d0).1, ((M f).getD k d0).2.1, ((M f).getD k d0).2.2.1, ((M f).getD k d0).2.2.2.1, 0, ((M f).getD k d0).2.2.2.2.2)) hk 6
      rw [if_pos hf] at hfl
      rw [← hfl] at hG'
      have hln := flF_len (M := M) (M' := setF M f ((M f).set k (((M f).getD k d0).1, ((M f).getD k d0).2.1, ((M f).getD k d0).2.2.1, ((M f).getD k d0).2.2.2.1, 0, ((M f).getD k d0).2.2.2.2.2))) (fun g => by
        by_cases hgf : g = f
        · subst hgf; rw [setF_eq, List.length_set]
        · rw [setF_ne hgf]) 6
      refine ⟨1, wa, wb, e6, hMa.o, e7, n, β, ι, _, ℓ, tn, τ, chg, day, ids, bad, wrk, CW.frame ⟨hFa, hWa⟩ (fun q q1 q2 => ob q (by omega)), ⟨S, _, qb, s0, s1, s2, s3, s4, by rw [hln.1]; exact s5, s7, s8, ?_, by rw [hln.2]; exact hG', ?_, ht, ?_⟩, Cons_set hCo hk rfl, hU, by omega, by omega, hday⟩
      · intro g hg
        rw [vup_ne (by decide), vup_ne (by decide), vup_ne (by decide)]
        exact hL g hg
      · refine ⟨hl.1, fun i hi => ?_⟩
        rw [vup_ne (by decide), vup_ne (by decide), vup_ne (by decide), vup_ne (by decide)]
        exact hl.2 i hi
      · rw [vup_ne (by decide)]
        exact hT
    · obtain ⟨S, A, q, s0, s1, s2, s3, s4, s5, s7, s8, hL, hG, hl, ht, hT⟩ := id hM
      have hsl := X7_isSilent_q q hG hlt
      rw [s1, a2, decide_eq_false hs] at hsl
      refine ⟨0, w, w, ?_, hM.o, ?_, hI.mono⟩
      · simp only [fX6_speak, i6, if_neg (nI_m1 (show f < 2 ^ 31 by omega)), hF.g0, r1, r2, r3, hF.o, X6_ahead_q hF hW (show f ≤ 6 by omega), hF.g6, r5, e5, v5, decide_eq_false hs, show bz false = 0 from rfl, if_true, Option.bind_some, zb_0]
      · simp only [fX7_speak, q.o, i7, hsl, Option.bind_some, show bz false = 0 from rfl, if_neg (show ¬ (1 : Int32) = 0 by decide), if_true, b16]
  · refine ⟨0, w, w, ?_, hM.o, ?_, hI.mono⟩
    · simp only [fX6_speak, hF.o, a, Option.bind_some, if_true, zb_0]
    · simp only [fX7_speak, hM.o, b, Option.bind_some, if_true, b16]
