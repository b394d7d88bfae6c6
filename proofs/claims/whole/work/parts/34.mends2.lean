def flF (L : Nat → List Fnd) : Nat → List Fnd
  | 0 => []
  | f + 1 => flF L f ++ L f
def flP (L : Nat → List Fnd) : Nat → List Nat
  | 0 => []
  | f + 1 => flP L f ++ List.replicate (L f).length f
theorem flF_le {L : Nat → List Fnd} : ∀ {g : Nat}, (∀ f, f < g → (L f).length ≤ 32) → (flF L g).length ≤ 32 * g
  | 0, _ => by simp [flF]
  | g + 1, h => by
    have := flF_le (L := L) (g := g) (fun f hf => h f (by omega))
    have := h g (by omega)
    rw [flF, List.length_append]
    omega
/-- the findings of all files anew, out of the list H of those that were -/
def neL (n : Nat → Nat) (β ι : Nat → Nat → Nat) (bad : Int32) (H : List Fnd) (ch : Int32) (f : Nat) : List Fnd := fre (fun r k => ruB n β f bad r k) (ι f) H ch (n f)
section MY
variable {m : Nat} {n : Nat → Nat} {β ι : Nat → Nat → Nat} {H : List Fnd}
theorem neL_le {bad ch : Int32} {f : Nat} (h : n f ≤ 32) : (neL n β ι bad H ch f).length ≤ 32 := Nat.le_trans (fre_le (fun k' _ => ruB_one)) h
theorem X7_ended_loop {G : List Fnd} {Φ : List Nat} : ∀ (q k fuel : Nat) (w : Fw) (S : Nat → Int32) (A : Nat → Nat → Int32) (ℓ : List Lg), k + q = H.length → q < fuel → Mo w m S A → S 6 = nI H.length → MH A H → S 5 = nI G.length → FG A G Φ → S 7 = nI ℓ.length → GL A ℓ → ∃ w' S' A', fX7_finds_L213 fuel w m (nI k) = some w' ∧ Mo w' m S' A' ∧ (∀ t, t ≠ 7 → S' t = S t) ∧ (∀ j, (j < 16 ∨ 19 < j) → A' j = A j) ∧ S' 7 = nI ((H.drop k).foldl (ends1 G (S 0)) ℓ).length ∧ GL A' ((H.drop k).foldl (ends1 G (S 0)) ℓ) ∧ Out w w' m (m + 23)
  | q, k, 0, w, S, A, ℓ, h1, h2, h, h6, hH, h5, hG, h7, hl => by omega
  | 0, k, fuel + 1, w, S, A, ℓ, h1, h2, h, h6, hH, h5, hG, h7, hl => by
    have hlen := hH.1
    have hle : nI H.length ≤ nI k := nI_le (by omega) (by omega)
    rw [fX7_finds_L213, List.drop_eq_nil_of_le (by omega)]
    exact ⟨w, S, A, by simp [h.g9, h6, hle], h, fun _ _ => rfl, fun _ _ => rfl, h7, hl, Out.rf⟩
  | q + 1, k, fuel + 1, w, S, A, ℓ, h1, h2, h, h6, hH, h5, hG, h7, hl => by
    have hlen := hH.1
    have hle : ¬ nI H.length ≤ nI k := nI_ge (by omega) (by omega)
    have hk : k < 192 := by omega
    obtain ⟨c1, c2, c3, -, -⟩ := hH.2 k (by omega)
    have hd : H.drop k = H.getD k d0 :: H.drop (k + 1) := by
      rw [List.drop_eq_getElem_cons (by omega)]
      congr 1
      simp [List.getD, show k < H.length by omega]
    rw [fX7_finds_L213, hd, List.foldl_cons]
    simp only [h.g9, h6, Option.bind_some, hle, if_false, h.g17, h.g18, h.g19, h.l (j := 11) (i := k) (by omega) (by omega) hk, h.l (j := 12) (i := k) (by omega) (by omega) hk, h.l (j := 13) (i := k) (by omega) (by omega) hk, c1, c2, c3, h.o, X7_find_q h h5 hG, fX7_finds_b263, nI_1]
    cases hq : srch (pL G (H.getD k d0).1 (H.getD k d0).2.2.1) G.length 0 with
    | none =>
      obtain ⟨w1, A1, S1, e1, q1, a1, s1, t1, g1, o1⟩ := X7_logs_q h h7 hl (H.getD k d0).1 (H.getD k d0).2.2.1 (H.getD k d0).2.2.2.1
      simp only [plI, if_true, e1, Option.bind_some]
      have hends : ends1 G (S 0) ℓ (H.getD k d0) = push60 ℓ ((H.getD k d0).1, (H.getD k d0).2.2.1, (H.getD k d0).2.2.2.1, S 0) := by unfold ends1; rw [hq]; rfl
      have hH1 : MH A1 H := by
        refine ⟨hH.1, fun i hi => ?_⟩
        rw [a1 11 (by omega), a1 12 (by omega), a1 13 (by omega), a1 14 (by omega), a1 15 (by omega)]
        exact hH.2 i hi
      have hG1 : FG A1 G Φ := by
        refine ⟨hG.1, hG.2.1, fun i hi => ?_⟩
        rw [a1 4 (by omega), a1 5 (by omega), a1 6 (by omega), a1 7 (by omega), a1 8 (by omega), a1 9 (by omega), a1 10 (by omega)]
        exact hG.2.2 i hi
      obtain ⟨w2, S2, A2, e2, q2, s2, a2, t2, g2, o2⟩ := X7_ended_loop q (k + 1) fuel w1 S1 A1 _ (by omega) (by omega) q1 ((s1 6 (by omega)).trans h6) hH1 ((s1 5 (by omega)).trans h5) hG1 t1 g1
      rw [s1 0 (by omega)] at t2 g2
      refine ⟨w2, S2, A2, e2, q2, fun t ht => (s2 t ht).trans (s1 t ht), fun j hj => (a2 j hj).trans (a1 j hj), by rw [hends]; exact t2, by rw [hends]; exact g2, o1.tr o2⟩
    | some j =>
      obtain ⟨-, j2, -, -⟩ := srch_some hq
      have hgl := hG.1
      simp only [if_neg (plI_ne (show j < 2 ^ 31 by omega))]
      have hends : ends1 G (S 0) ℓ (H.getD k d0) = ℓ := by unfold ends1; rw [hq]; rfl
      rw [hends]
      exact X7_ended_loop q (k + 1) fuel w S A ℓ (by omega) (by omega) h h6 hH h5 hG h7 hl
theorem X7_file_loop {S0 : Nat → Int32} {A0 : Nat → Nat → Int32} {ℓ : List Lg} (hL : ML A0 n β ι) (hH : MH A0 H) (h6 : S0 6 = nI H.length) (h7 : S0 7 = nI ℓ.length) (hl : GL A0 ℓ) : ∀ (q f fuel : Nat) (w : Fw) (S : Nat → Int32) (A : Nat → Nat → Int32), f + q = 6 → q < fuel → Mo w m S A → Kp2 S S0 A A0 → S 5 = nI (flF (neL n β ι (S0 3) H (S0 0)) f).length → FG A (flF (neL n β ι (S0 3) H (S0 0)) f) (flP (neL n β ι (S0 3) H (S0 0)) f) → ∃ w' S' A', fX7_finds_L7 fuel w m (nI f) = some w' ∧ Mo w' m S' A' ∧ (∀ t, t ≠ 5 → t ≠ 7 → S' t = S0 t) ∧ (∀ j, (j < 4 ∨ (10 < j ∧ j < 16) ∨ 19 < j) → A' j = A0 j) ∧ S' 5 = nI (flF (neL n β ι (S0 3) H (S0 0)) 6).length ∧ FG A' (flF (neL n β ι (S0 3) H (S0 0)) 6) (flP (neL n β ι (S0 3) H (S0 0)) 6) ∧ S' 7 = nI (H.foldl (ends1 (flF (neL n β ι (S0 3) H (S0 0)) 6) (S0 0)) ℓ).length ∧ GL A' (H.foldl (ends1 (flF (neL n β ι (S0 3) H (S0 0)) 6) (S0 0)) ℓ) ∧ Out w w' m (m + 23)
  | q, f, 0, w, S, A, h1, h2, h, hk, hS, hG => by omega
  | 0, f, fuel + 1, w, S, A, h1, h2, h, hk, hS, hG => by
    have : f = 6 := by omega
    subst this
    rw [fX7_finds_L7, if_pos (by decide)]
    have hlen := hH.1
    have hl' : GL A ℓ := by
      refine ⟨hl.1, fun i hi => ?_⟩
      rw [hk.2 16 (by omega), hk.2 17 (by omega), hk.2 18 (by omega), hk.2 19 (by omega)]
      exact hl.2 i hi
    obtain ⟨w2, S2, A2, e2, q2, s2, a2, t2, g2, o2⟩ := X7_ended_loop (H := H) H.length 0 1000 w S A ℓ (by omega) (by omega) h ((hk.1 6 (by omega)).trans h6) (hk.MH hH) hS hG ((hk.1 7 (by omega)).trans h7) hl'
    rw [nI_0] at e2
    rw [List.drop_zero, hk.1 0 (by omega)] at t2 g2
    refine ⟨w2, S2, A2, e2, q2, fun t t5 t7 => (s2 t t7).trans (hk.1 t t5), fun j hj => (a2 j (by omega)).trans (hk.2 j (by omega)), (s2 5 (by omega)).trans hS, ?_, t2, g2, o2⟩
    refine ⟨hG.1, hG.2.1, fun i hi => ?_⟩
    rw [a2 4 (by omega), a2 5 (by omega), a2 6 (by omega), a2 7 (by omega), a2 8 (by omega), a2 9 (by omega), a2 10 (by omega)]
    exact hG.2.2 i hi
  | q + 1, f, fuel + 1, w, S, A, h1, h2, h, hk, hS, hG => by
    have hf : f < 6 := by omega
    have h32 := (hL f hf).1
    have hle : ¬ (6 : Int32) ≤ nI f := nI_ge (b := 6) hf (by decide)
    rw [fX7_finds_L7, if_neg hle]
    have hG0 : (flF (neL n β ι (S0 3) H (S0 0)) f).length ≤ 32 * f := flF_le (fun g hg => neL_le (hL g (by omega)).1)
    obtain ⟨w1, S1, A1, e1, q1, k1, s1, g1, o1⟩ := X7_line_loop (m := m) hL hH h6 hf (fX7_finds_L7 fuel) (Φ0 := flP (neL n β ι (S0 3) H (S0 0)) f) hG0 (n f) 0 1000 w S A (by omega) (by omega) h hk (by simpa [fre] using hS) (by simpa [fre] using hG)
    rw [nI_0] at e1
    rw [e1]
    obtain ⟨w2, S2, A2, e2, q2, r1, r2, r3, r4, r5, r6, o2⟩ := X7_file_loop hL hH h6 h7 hl q (f + 1) fuel w1 S1 A1 (by omega) (by omega) q1 k1 s1 g1
    exact ⟨w2, S2, A2, e2, q2, r1, r2, r3, r4, r5, r6, o1.tr o2⟩
theorem X7_finds_q {w : Fw} {S : Nat → Int32} {A : Nat → Nat → Int32} {ℓ : List Lg} (h : Mo w m S A) (hL : ML A n β ι) (hH : MH A H) (h6 : S 6 = nI H.length) (h7 : S 7 = nI ℓ.length) (hl : GL A ℓ) : ∃ w' S' A', fX7_finds w m = some w' ∧ Mo w' m S' A' ∧ (∀ t, t ≠ 5 → t ≠ 7 → S' t = S t) ∧ (∀ j, (j < 4 ∨ (10 < j ∧ j < 16) ∨ 19 < j) → A' j = A j) ∧ S' 5 = nI (flF (neL n β ι (S 3) H (S 0)) 6).length ∧ FG A' (flF (neL n β ι (S 3) H (S 0)) 6) (flP (neL n β ι (S 3) H (S 0)) 6) ∧ S' 7 = nI (H.foldl (ends1 (flF (neL n β ι (S 3) H (S 0)) 6) (S 0)) ℓ).length ∧ GL A' (H.foldl (ends1 (flF (neL n β ι (S 3) H (S 0)) 6) (S 0)) ℓ) ∧ Out w w' m (m + 23) := by
  rw [fX7_finds]
  obtain ⟨w1, e1, q1, o1⟩ := h.p8 0
  rw [e1, Option.bind_some]
  obtain ⟨w2, S2, A2, e2, q2, r1, r2, r3, r4, r5, r6, o2⟩ := X7_file_loop (S0 := S) (A0 := A) hL hH h6 h7 hl 6 0 1000 w1 _ A (by omega) (by omega) q1 ⟨fun t ht => by simp [upd, ht], fun _ _ => rfl⟩ (by simp [upd, flF]; rfl) ⟨by simp [flF], by simp [flF, flP], fun i hi => by simp [flF] at hi⟩
  rw [nI_0] at e2
  exact ⟨w2, S2, A2, e2, q2, r1, r2, r3, r4, r5, r6, o1.tr o2⟩
theorem or_as (a b c : Int32) : (a ||| b) ||| c = a ||| (b ||| c) := by
  apply b_ext
  intro i hi
  rw [b_or, b_or, b_or, b_or, Bool.or_assoc]
theorem or_z (a : Int32) : a ||| 0 = a := by
  apply b_ext
  intro i hi
  rw [b_or, b_0, Bool.or_false]
theorem X7_ends_loop {f : Nat} (hf : f < 6) (before : Int32) : ∀ (q g fuel : Nat) (w : Fw) (S : Nat → Int32) (A : Nat → Nat → Int32), g + q = 6 → q < fuel → Mo w m S A → ML A n β ι → S 4 = (if nmsN (β f) 1 (n f) = before then (1 : Int32) <<< (nI f &&& 31) else ((1 : Int32) <<< (nI f &&& 31)) ||| bitsN (fun g => imp (β g) (n g) f) g) → ∃ w1 S1, fX7_ends_L9 fuel w m (nI f) before (nI g) = (fX7_finds w1 m).bind (fun w1 => some w1) ∧ Mo w1 m S1 A ∧ (∀ t, t ≠ 4 → S1 t = S t) ∧ S1 4 = wset n β f before ∧ Out w w1 m (m + 23)
  | q, g, 0, w, S, A, h1, h2, h, hL, h4 => by omega
  | 0, g, fuel + 1, w, S, A, h1, h2, h, hL, h4 => by
    have : g = 6 := by omega
    subst this
    rw [fX7_ends_L9, if_pos (by decide), h.o, Option.bind_some]
    exact ⟨w, S, rfl, h, fun _ _ => rfl, h4, Out.rf⟩
  | q + 1, g, fuel + 1, w, S, A, h1, h2, h, hL, h4 => by
    have hg : g < 6 := by omega
    have hle : ¬ (6 : Int32) ≤ nI g := nI_ge (b := 6) hg (by decide)
    rw [fX7_ends_L9, if_neg hle]
    simp only [h.o, Option.bind_some, X7_defs_q h hL hf, X7_imports_q h hL hg hf, fX7_ends_b45, nI_1]
    by_cases hb : nmsN (β f) 1 (n f) = before
    · rw [if_pos hb] at h4 ⊢
      exact X7_ends_loop hf before q (g + 1) fuel w S A (by omega) (by omega) h hL (by rw [if_pos hb]; exact h4)
    · rw [if_neg hb] at h4 ⊢
      by_cases hi : imp (β g) (n g) f = true
      · simp only [hi, bz, if_true]
        rw [if_neg (by decide), h.g7, Option.bind_some]
        obtain ⟨w1, e1, q1, o1⟩ := h.p7 (S 4 ||| ((1 : Int32) <<< (nI g &&& 31)))
        rw [e1, Option.bind_some]
        obtain ⟨w2, S2, e2, q2, s2, t2, o2⟩ := X7_ends_loop hf before q (g + 1) fuel w1 _ A (by omega) (by omega) q1 hL (by rw [if_neg hb, bitsN, if_pos hi, ← or_as, ← h4]; simp [upd])
        exact ⟨w2, S2, e2, q2, fun t ht => (s2 t ht).trans (by simp [upd, ht]), t2, o1.tr o2⟩
      · simp only [hi, bz]
        rw [if_pos (by decide)]
        exact X7_ends_loop hf before q (g + 1) fuel w S A (by omega) (by omega) h hL (by rw [if_neg hb, bitsN, if_neg hi]; exact h4)
theorem X7_ends_q {w : Fw} {S : Nat → Int32} {A : Nat → Nat → Int32} {ℓ : List Lg} {f : Nat} (hf : f < 6) (before : Int32) (h : Mo w m S A) (hL : ML A n β ι) (hH : MH A H) (h6 : S 6 = nI H.length) (h7 : S 7 = nI ℓ.length) (hl : GL A ℓ) : ∃ w' S' A', fX7_ends w m (nI f) before = some w' ∧ Mo w' m S' A' ∧ (∀ t, t ≠ 4 → t ≠ 5 → t ≠ 7 → S' t = S t) ∧ S' 4 = wset n β f before ∧ (∀ j, (j < 4 ∨ (10 < j ∧ j < 16) ∨ 19 < j) → A' j = A j) ∧ S' 5 = nI (flF (neL n β ι (S 3) H (S 0)) 6).length ∧ FG A' (flF (neL n β ι (S 3) H (S 0)) 6) (flP (neL n β ι (S 3) H (S 0)) 6) ∧ S' 7 = nI (H.foldl (ends1 (flF (neL n β ι (S 3) H (S 0)) 6) (S 0)) ℓ).length ∧ GL A' (H.foldl (ends1 (flF (neL n β ι (S 3) H (S 0)) 6) (S 0)) ℓ) ∧ Out w w' m (m + 23) := by
  rw [fX7_ends]
  obtain ⟨w1, e1, q1, o1⟩ := h.p7 ((1 : Int32) <<< (nI f &&& 31))
  rw [e1, Option.bind_some]
  obtain ⟨w2, S2, e2, q2, s2, t2, o2⟩ := X7_ends_loop (n := n) (β := β) (ι := ι) hf before 6 0 1000 w1 _ A (by omega) (by omega) q1 hL (by
    have : upd S 4 ((1 : Int32) <<< (nI f &&& 31)) 4 = (1 : Int32) <<< (nI f &&& 31) := by simp [upd]
    rw [this, bitsN, or_z, ite_self])
  rw [nI_0] at e2
  rw [e2]
  have hs : ∀ t, t ≠ 4 → S2 t = S t := fun t ht => (s2 t ht).trans (by simp [upd, ht])
  obtain ⟨w3, S3, A3, e3, q3, r1, r2, r3, r4, r5, r6, o3⟩ := X7_finds_q q2 hL hH ((hs 6 (by omega)).trans h6) ((hs 7 (by omega)).trans h7) hl
  rw [hs 3 (by omega), hs 0 (by omega)] at r3 r4 r5 r6
  rw [e3, Option.bind_some]
  exact ⟨w3, S3, A3, rfl, q3, fun t a b c => (r1 t b c).trans (hs t a), (r1 4 (by omega) (by omega)).trans t2, r2, r3, r4, r5, r6, (o1.tr o2).tr o3⟩
end MY
