/-! ===== the reference: which rule a line breaks, its findings, its log ===== -/
def brk (n : Nat → Nat) (β : Nat → Nat → Nat) (bad : Int32) (f k : Nat) : Option Nat := srch (fun r => ruB n β f bad r k) 5 0
theorem srch5 (P : Nat → Bool) : srch P 5 0 = if P 0 then some 0 else if P 1 then some 1 else if P 2 then some 2 else if P 3 then some 3 else if P 4 then some 4 else none := rfl
section MF
variable {w : Fw} {m : Nat} {S : Nat → Int32} {A : Nat → Nat → Int32} {n : Nat → Nat} {β ι : Nat → Nat → Nat}
theorem X7_breaks_q (h : Mo w m S A) (hL : ML A n β ι) {f k : Nat} (hf : f < 6) (hk : k < n f) : fX7_breaks w m (nI f) (nI k) = some (plI (brk n β (S 3) f k)) := by
  have b := ((hL f hf).2.2 k hk).2.1
  have hq : ∀ c : Nat, c < 2 ^ 31 → (nI (β f k / 32) = nI c ↔ β f k / 32 = c) := fun c hc => nI_eq (by omega) hc
  have hx : β f k % 32 < 32 := by omega
  unfold brk
  rw [fX7_breaks, srch5]
  simp only [h.o, Option.bind_some, X7_number_q h hL hf hk, X7_kind_q h hL hf hk, nI_is0 (show β f k / 32 < 2 ^ 31 by omega), nI_is1 (show β f k / 32 < 2 ^ 31 by omega), nI_is2 (show β f k / 32 < 2 ^ 31 by omega), nI_is3 (show β f k / 32 < 2 ^ 31 by omega), nI_is4 (show β f k / 32 < 2 ^ 31 by omega), nI_is5 (show β f k / 32 < 2 ^ 31 by omega), h.g6, bit_s _ hx, rem6 (show β f k % 32 < 2 ^ 31 by omega), nI_eq (show β f k % 32 % 6 < 2 ^ 31 by omega) (show f < 2 ^ 31 by omega)]
  rcases (show β f k / 32 = 0 ∨ β f k / 32 = 1 ∨ β f k / 32 = 2 ∨ β f k / 32 = 3 ∨ β f k / 32 = 4 ∨ β f k / 32 = 5 ∨ 6 ≤ β f k / 32 by omega) with e | e | e | e | e | e | e
  · simp only [e, if_true, ruB, lone, fX7_breaks_b69]
    cases hb : bt (S 3) (β f k % 32) <;> simp [plI] <;> rfl
  · simp only [e, X7_isSecond_q h hL hf hk, Option.bind_some, ruB, lone, fX7_breaks_b84]
    have hh : ((List.range k).any fun j => decide (β f j = β f k)) = hasK (β f) k 1 (β f k % 32) := by
      unfold hasK
      congr 1
      funext j
      rw [Bool.eq_iff_iff]
      simp
      omega
    rw [hh]
    cases hb : hasK (β f) k 1 (β f k % 32) <;> simp [plI, bz] <;> rfl
  · simp only [e, X7_isThere_q h hL hf hx, Option.bind_some, ruB, lone, fX7_breaks_b99]
    cases hb : thereB n β f (β f k % 32) <;> simp [plI, bz] <;> rfl
  · rw [X7_isLone_q h hL hf hk (Or.inl e)]
    simp only [e, Option.bind_some, fX7_breaks_b114]
    have h0 : ruB n β f (S 3) 0 k = false := by simp [ruB, e]
    have h1 : ruB n β f (S 3) 1 k = false := by simp [ruB, e]
    have h3 : ruB n β f (S 3) 3 k = false := by simp [ruB, e]
    have h4 : ruB n β f (S 3) 4 k = false := by simp [ruB, e]
    have h2 : ruB n β f (S 3) 2 k = lone (β f) (n f) k := rfl
    rw [h0, h1, h2, h3, h4]
    cases hb : lone (β f) (n f) k <;> simp [plI, bz] <;> rfl
  · rw [X7_isLone_q h hL hf hk (Or.inr e)]
    simp only [e, Option.bind_some, fX7_breaks_b114]
    have h0 : ruB n β f (S 3) 0 k = false := by simp [ruB, e]
    have h1 : ruB n β f (S 3) 1 k = false := by simp [ruB, e]
    have h3 : ruB n β f (S 3) 3 k = false := by simp [ruB, e]
    have h4 : ruB n β f (S 3) 4 k = false := by simp [ruB, e]
    have h2 : ruB n β f (S 3) 2 k = lone (β f) (n f) k := rfl
    rw [h0, h1, h2, h3, h4]
    cases hb : lone (β f) (n f) k <;> simp [plI, bz] <;> rfl
  · have h0 : ruB n β f (S 3) 0 k = false := by simp [ruB, e]
    have h1 : ruB n β f (S 3) 1 k = false := by simp [ruB, e]
    have h2 : ruB n β f (S 3) 2 k = false := by simp [ruB, lone, e]
    have h3 : ruB n β f (S 3) 3 k = false := by simp [ruB, e]
    have h4 : ruB n β f (S 3) 4 k = (decide (β f k % 32 % 6 = f) || decide (nmsN (β (β f k % 32 % 6)) 1 (n (β f k % 32 % 6)) &&& nmsN (β f) 2 (n f) = 0)) := by simp [ruB, e]
    rw [h0, h1, h2, h3, h4]
    simp only [e, X7_defs_q h hL (show β f k % 32 % 6 < 6 by omega), X7_uses_q h hL hf, Option.bind_some, fX7_breaks_b140, fX7_breaks_b145]
    by_cases c1 : β f k % 32 % 6 = f
    · simp [c1, plI]; rfl
    · by_cases c2 : nmsN (β (β f k % 32 % 6)) 1 (n (β f k % 32 % 6)) &&& nmsN (β f) 2 (n f) = 0
      · simp [c1, c2, plI]; rfl
      · simp [c1, c2, plI]
  · have h0 : ruB n β f (S 3) 0 k = false := by simp [ruB]; omega
    have h1 : ruB n β f (S 3) 1 k = false := by simp [ruB]; omega
    have h2 : ruB n β f (S 3) 2 k = false := by simp [ruB, lone]; omega
    have h3 : ruB n β f (S 3) 3 k = false := by simp [ruB]; omega
    have h4 : ruB n β f (S 3) 4 k = false := by simp [ruB]; omega
    rw [h0, h1, h2, h3, h4]
    rw [if_neg (by omega), if_neg (by omega), if_neg (by omega), if_neg (by omega), if_neg (by omega), if_neg (by omega)]
    rfl
end MF
/-- the findings that were, and those that are -/
def MH (A : Nat → Nat → Int32) (H : List Fnd) : Prop := H.length ≤ 192 ∧ ∀ i, i < H.length → A 11 i = (H.getD i d0).1 ∧ A 12 i = (H.getD i d0).2.2.1 ∧ A 13 i = (H.getD i d0).2.2.2.1 ∧ A 14 i = (H.getD i d0).2.2.2.2.1 ∧ A 15 i = (H.getD i d0).2.2.2.2.2
def FG (A : Nat → Nat → Int32) (G : List Fnd) (Φ : List Nat) : Prop := G.length ≤ 192 ∧ Φ.length = G.length ∧ ∀ i, i < G.length → A 4 i = (G.getD i d0).1 ∧ A 5 i = nI (Φ.getD i 0) ∧ A 6 i = (G.getD i d0).2.1 ∧ A 7 i = (G.getD i d0).2.2.1 ∧ A 8 i = (G.getD i d0).2.2.2.1 ∧ A 9 i = (G.getD i d0).2.2.2.2.1 ∧ A 10 i = (G.getD i d0).2.2.2.2.2
def GL (A : Nat → Nat → Int32) (ℓ : List Lg) : Prop := ℓ.length ≤ 60 ∧ ∀ i, i < ℓ.length → A 16 i = (ℓ.getD i l0).1 ∧ A 17 i = (ℓ.getD i l0).2.1 ∧ A 18 i = (ℓ.getD i l0).2.2.1 ∧ A 19 i = (ℓ.getD i l0).2.2.2
section MG
variable {w : Fw} {m : Nat} {S : Nat → Int32} {A : Nat → Nat → Int32} {n : Nat → Nat} {β ι : Nat → Nat → Nat}
theorem X7_had_loop (h : Mo w m S A) {H : List Fnd} (hS : S 6 = nI H.length) (hH : MH A H) (r i : Int32) : ∀ (q k fuel : Nat), k + q = H.length → q < fuel → fX7_had_L2 w fuel m r i (nI k) = some (plI (srch (pL H r i) q k))
  | q, k, 0, h1, h2 => by omega
  | 0, k, fuel + 1, h1, h2 => by
    have h32 := hH.1
    have hle : nI H.length ≤ nI k := nI_le (by omega) (by omega)
    rw [fX7_had_L2]
    simp [h.g9, hS, hle, srch, plI]
  | q + 1, k, fuel + 1, h1, h2 => by
    have h32 := hH.1
    have hle : ¬ nI H.length ≤ nI k := nI_ge (by omega) (by omega)
    have ih := X7_had_loop h hS hH r i q (k + 1) fuel (by omega) (by omega)
    obtain ⟨e1, e2, -⟩ := hH.2 k (by omega)
    rw [fX7_had_L2]
    simp only [h.g9, h.g17, h.g18, hS, Option.bind_some, hle, if_false, h.l (j := 11) (i := k) (by omega) (by omega) (show k < 192 by omega), h.l (j := 12) (i := k) (by omega) (by omega) (show k < 192 by omega), e1, e2, fX7_had_b32, nI_1, ih, srch]
    by_cases hr : (H.getD k d0).1 = r
    · rw [if_pos hr]
      by_cases hi : (H.getD k d0).2.2.1 = i
      · have hp : pL H r i k = true := by unfold pL; rw [decide_eq_true hr, decide_eq_true hi]; rfl
        rw [if_pos hi, if_pos hp]; rfl
      · have hp : ¬ pL H r i k = true := by unfold pL; rw [decide_eq_false hi, Bool.and_false]; exact Bool.false_ne_true
        rw [if_neg hi, if_neg hp]
    · have hp : ¬ pL H r i k = true := by unfold pL; rw [decide_eq_false hr, Bool.false_and]; exact Bool.false_ne_true
      rw [if_neg hr, if_neg hp]
theorem X7_had_q (h : Mo w m S A) {H : List Fnd} (hS : S 6 = nI H.length) (hH : MH A H) (r i : Int32) : fX7_had w m r i = some (plI (srch (pL H r i) H.length 0)) := by
  have h32 := hH.1
  rw [fX7_had]
  exact X7_had_loop h hS hH r i H.length 0 1000 (by omega) (by omega)
theorem X7_find_loop (h : Mo w m S A) {G : List Fnd} {Φ : List Nat} (hS : S 5 = nI G.length) (hG : FG A G Φ) (r i : Int32) : ∀ (q k fuel : Nat), k + q = G.length → q < fuel → fX7_find_L2 w fuel m r i (nI k) = some (plI (srch (pL G r i) q k))
  | q, k, 0, h1, h2 => by omega
  | 0, k, fuel + 1, h1, h2 => by
    have h32 := hG.1
    have hle : nI G.length ≤ nI k := nI_le (by omega) (by omega)
    rw [fX7_find_L2]
    simp [h.g8, hS, hle, srch, plI]
  | q + 1, k, fuel + 1, h1, h2 => by
    have h32 := hG.1
    have hle : ¬ nI G.length ≤ nI k := nI_ge (by omega) (by omega)
    have ih := X7_find_loop h hS hG r i q (k + 1) fuel (by omega) (by omega)
    obtain ⟨e1, -, -, e2, -⟩ := hG.2.2 k (by omega)
    rw [fX7_find_L2]
    simp only [h.g8, h.g10, h.g13, hS, Option.bind_some, hle, if_false, h.l (j := 4) (i := k) (by omega) (by omega) (show k < 192 by omega), h.l (j := 7) (i := k) (by omega) (by omega) (show k < 192 by omega), e1, e2, fX7_find_b32, nI_1, ih, srch]
    by_cases hr : (G.getD k d0).1 = r
    · rw [if_pos hr]
      by_cases hi : (G.getD k d0).2.2.1 = i
      · have hp : pL G r i k = true := by unfold pL; rw [decide_eq_true hr, decide_eq_true hi]; rfl
        rw [if_pos hi, if_pos hp]; rfl
      · have hp : ¬ pL G r i k = true := by unfold pL; rw [decide_eq_false hi, Bool.and_false]; exact Bool.false_ne_true
        rw [if_neg hi, if_neg hp]
    · have hp : ¬ pL G r i k = true := by unfold pL; rw [decide_eq_false hr, Bool.false_and]; exact Bool.false_ne_true
      rw [if_neg hr, if_neg hp]
theorem X7_find_q (h : Mo w m S A) {G : List Fnd} {Φ : List Nat} (hS : S 5 = nI G.length) (hG : FG A G Φ) (r i : Int32) : fX7_find w m r i = some (plI (srch (pL G r i) G.length 0)) := by
  have h32 := hG.1
  rw [fX7_find]
  exact X7_find_loop h hS hG r i G.length 0 1000 (by omega) (by omega)
theorem X7_begins_loop {g : Nat} (hg : g ≤ 192) : ∀ (q k fuel : Nat) (w : Fw) (A' : Nat → Nat → Int32), k + q = g → q < fuel → Mo w m S A' → S 5 = nI g → (∀ j, (j < 11 ∨ 15 < j) → A' j = A j) → (∀ i, i < k → A' 11 i = A 4 i ∧ A' 12 i = A 7 i ∧ A' 13 i = A 8 i ∧ A' 14 i = A 9 i ∧ A' 15 i = A 10 i) → ∃ w' A'', fX7_begins_L20 fuel w m (nI k) = some w' ∧ Mo w' m S A'' ∧ (∀ j, (j < 11 ∨ 15 < j) → A'' j = A j) ∧ (∀ i, i < g → A'' 11 i = A 4 i ∧ A'' 12 i = A 7 i ∧ A'' 13 i = A 8 i ∧ A'' 14 i = A 9 i ∧ A'' 15 i = A 10 i) ∧ Out w w' m (m + 23)
  | q, k, 0, w, A', h1, h2, h, hS, ha, hb => by omega
  | 0, k, fuel + 1, w, A', h1, h2, h, hS, ha, hb => by
    have hle : nI g ≤ nI k := nI_le (by omega) (by omega)
    rw [fX7_begins_L20]
    exact ⟨w, A', by simp [h.g8, hS, hle], h, ha, fun i hi => hb i (by omega), Out.rf⟩
  | q + 1, k, fuel + 1, w, A', h1, h2, h, hS, ha, hb => by
    have hle : ¬ nI g ≤ nI k := nI_ge (by omega) (by omega)
    have hk : k < 192 := by omega
    rw [fX7_begins_L20]
    simp only [h.g8, hS, Option.bind_some, hle, if_false, h.g17, h.g10, h.l (j := 4) (i := k) (by omega) (by omega) hk]
    obtain ⟨w1, e1, q1, o1⟩ := h.s (j := 11) (i := k) (by omega) (by omega) hk (A' 4 k)
    simp only [e1, Option.bind_some, q1.g18, q1.g13, q1.l (j := 7) (i := k) (by omega) (by omega) hk]
    obtain ⟨w2, e2, q2, o2⟩ := q1.s (j := 12) (i := k) (by omega) (by omega) hk (vup A' 11 k (A' 4 k) 7 k)
    simp only [e2, Option.bind_some, q2.g19, q2.g14, q2.l (j := 8) (i := k) (by omega) (by omega) hk]
    obtain ⟨w3, e3, q3, o3⟩ := q2.s (j := 13) (i := k) (by omega) (by omega) hk (vup (vup A' 11 k (A' 4 k)) 12 k (vup A' 11 k (A' 4 k) 7 k) 8 k)
    simp only [e3, Option.bind_some, q3.g20, q3.g15, q3.l (j := 9) (i := k) (by omega) (by omega) hk]
    obtain ⟨w4, e4, q4, o4⟩ := q3.s (j := 14) (i := k) (by omega) (by omega) hk (vup (vup (vup A' 11 k (A' 4 k)) 12 k (vup A' 11 k (A' 4 k) 7 k)) 13 k (vup (vup A' 11 k (A' 4 k)) 12 k (vup A' 11 k (A' 4 k) 7 k) 8 k) 9 k)
    simp only [e4, Option.bind_some, q4.g21, q4.g16, q4.l (j := 10) (i := k) (by omega) (by omega) hk]
    obtain ⟨w5, e5, q5, o5⟩ := q4.s (j := 15) (i := k) (by omega) (by omega) hk (vup (vup (vup (vup A' 11 k (A' 4 k)) 12 k (vup A' 11 k (A' 4 k) 7 k)) 13 k (vup (vup A' 11 k (A' 4 k)) 12 k (vup A' 11 k (A' 4 k) 7 k) 8 k)) 14 k (vup (vup (vup A' 11 k (A' 4 k)) 12 k (vup A' 11 k (A' 4 k) 7 k)) 13 k (vup (vup A' 11 k (A' 4 k)) 12 k (vup A' 11 k (A' 4 k) 7 k) 8 k) 9 k) 10 k)
    simp only [e5, Option.bind_some, nI_1]
    have ho := (((o1.tr o2).tr o3).tr o4).tr o5
    have a4 := ha 4 (by omega)
    have a7 := ha 7 (by omega)
    have a8 := ha 8 (by omega)
    have a9 := ha 9 (by omega)
    have a10 := ha 10 (by omega)
    obtain ⟨w6, A6, e6, q6, r6, s6, o6⟩ := X7_begins_loop hg q (k + 1) fuel w5 _ (by omega) (by omega) q5 hS (fun j hj => by
      have h11 : j ≠ 11 := by omega
      have h12 : j ≠ 12 := by omega
      have h13 : j ≠ 13 := by omega
      have h14 : j ≠ 14 := by omega
      have h15 : j ≠ 15 := by omega
      simp only [vup, h11, h12, h13, h14, h15, if_false]
      exact ha j hj) (fun i hi => by
      by_cases hik : i = k
      · subst hik
        simp [vup, upd, a4, a7, a8, a9, a10]
      · obtain ⟨b1, b2, b3, b4, b5⟩ := hb i (by omega)
        simp [vup, upd, hik, b1, b2, b3, b4, b5])
    exact ⟨w6, A6, e6, q6, r6, s6, ho.tr o6⟩
theorem X7_begins_q (h : Mo w m S A) {G : List Fnd} {Φ : List Nat} (hS : S 5 = nI G.length) (hG : FG A G Φ) : ∃ w' A', fX7_begins w m = some w' ∧ Mo w' m (upd (upd S 0 (S 0 + 1)) 6 (S 5)) A' ∧ (∀ j, (j < 11 ∨ 15 < j) → A' j = A j) ∧ MH A' G ∧ Out w w' m (m + 23) := by
  rw [fX7_begins]
  simp only [h.g3, Option.bind_some]
  obtain ⟨w1, e1, q1, o1⟩ := h.p3 (S 0 + 1)
  simp only [e1, Option.bind_some, q1.g8]
  obtain ⟨w2, e2, q2, o2⟩ := q1.p9 (upd S 0 (S 0 + 1) 5)
  simp only [e2, Option.bind_some]
  have h5 : upd S 0 (S 0 + 1) 5 = S 5 := by simp [upd]
  rw [h5] at q2
  obtain ⟨w3, A3, e3, q3, r3, s3, o3⟩ := X7_begins_loop (A := A) hG.1 G.length 0 1000 w2 A (by omega) (by have := hG.1; omega) q2 (by simp [upd, hS]) (fun _ _ => rfl) (fun i hi => by omega)
  rw [nI_0] at e3
  refine ⟨w3, A3, e3, q3, r3, ⟨hG.1, fun i hi => ?_⟩, (o1.tr o2).tr o3⟩
  obtain ⟨b1, b2, b3, b4, b5⟩ := s3 i hi
  obtain ⟨c1, -, -, c2, c3, c4, c5⟩ := hG.2.2 i hi
  exact ⟨b1.trans c1, b2.trans c2, b3.trans c3, b4.trans c4, b5.trans c5⟩
-- the log
theorem X7_logs_put (h : Mo w m S A) {ℓ : List Lg} (hl : ℓ.length < 60) (hS : S 7 = nI ℓ.length) (hG : GL A ℓ) (r i s : Int32) : ∃ w' A' S', fX7_logs_b101 w m r i s = some w' ∧ Mo w' m S' A' ∧ (∀ j, (j < 16 ∨ 19 < j) → A' j = A j) ∧ (∀ t, t ≠ 7 → S' t = S t) ∧ S' 7 = nI (ℓ.length + 1) ∧ GL A' (ℓ ++ [(r, i, s, S 0)]) ∧ Out w w' m (m + 23) := by
  rw [fX7_logs_b101]
  simp only [h.g23, h.g22, hS, Option.bind_some]
  obtain ⟨w1, e1, q1, o1⟩ := h.s (j := 16) (i := ℓ.length) (by omega) (by omega) hl r
  simp only [e1, Option.bind_some, q1.g24, q1.g22, hS]
  obtain ⟨w2, e2, q2, o2⟩ := q1.s (j := 17) (i := ℓ.length) (by omega) (by omega) hl i
  simp only [e2, Option.bind_some, q2.g25, q2.g22, hS]
  obtain ⟨w3, e3, q3, o3⟩ := q2.s (j := 18) (i := ℓ.length) (by omega) (by omega) hl s
  simp only [e3, Option.bind_some, q3.g26, q3.g22, q3.g3, hS]
  obtain ⟨w4, e4, q4, o4⟩ := q3.s (j := 19) (i := ℓ.length) (by omega) (by omega) hl (S 0)
  simp only [e4, Option.bind_some, q4.g22, hS, nI_1]
  obtain ⟨w5, e5, q5, o5⟩ := q4.p22 (nI (ℓ.length + 1))
  simp only [e5, Option.bind_some]
  refine ⟨w5, _, _, rfl, q5, fun j hj => ?_, fun t ht => by simp [upd, ht], by simp [upd], ⟨by simp; omega, fun k hk => ?_⟩, (((o1.tr o2).tr o3).tr o4).tr o5⟩
  · have h16 : j ≠ 16 := by omega
    have h17 : j ≠ 17 := by omega
    have h18 : j ≠ 18 := by omega
    have h19 : j ≠ 19 := by omega
    simp only [vup, h16, h17, h18, h19, if_false]
  · by_cases hkl : k = ℓ.length
    · subst hkl
      rw [getD_app_len]
      simp [vup, upd]
    · have hk2 : k < ℓ.length := by simp at hk; omega
      rw [getD_app_lt hk2]
      obtain ⟨b1, b2, b3, b4⟩ := hG.2 k hk2
      simp [vup, upd, hkl, b1, b2, b3, b4]
theorem X7_logs_shift {ℓ : List Lg} (hl : ℓ.length = 60) (hG : GL A ℓ) (r i s : Int32) (h7 : S 7 = 60) : ∀ (q k fuel : Nat) (w : Fw) (A' : Nat → Nat → Int32), k + q = 59 → q < fuel → Mo w m S A' → (∀ j, (j < 16 ∨ 19 < j) → A' j = A j) → (∀ t, t < k → A' 16 t = A 16 (t + 1) ∧ A' 17 t = A 17 (t + 1) ∧ A' 18 t = A 18 (t + 1) ∧ A' 19 t = A 19 (t + 1)) → (∀ t, k ≤ t → A' 16 t = A 16 t ∧ A' 17 t = A 17 t ∧ A' 18 t = A 18 t ∧ A' 19 t = A 19 t) → ∃ w' A'' S', fX7_logs_L12 fuel w m r i s (nI k) = some w' ∧ Mo w' m S' A'' ∧ (∀ j, (j < 16 ∨ 19 < j) → A'' j = A j) ∧ (∀ t, t ≠ 7 → S' t = S t) ∧ S' 7 = nI 60 ∧ GL A'' (ℓ.tail ++ [(r, i, s, S 0)]) ∧ Out w w' m (m + 23)
  | q, k, 0, w, A', h1, h2, h, ha, hb, hc => by omega
  | 0, k, fuel + 1, w, A', h1, h2, h, ha, hb, hc => by
    have : k = 59 := by omega
    subst this
    rw [fX7_logs_L12, if_pos (by decide)]
    simp only [h.g22, h7, Option.bind_some]
    obtain ⟨w1, e1, q1, o1⟩ := h.p22 (60 - 1)
    simp only [e1, Option.bind_some]
    have htl : ℓ.tail.length = 59 := by simp; omega
    have hG1 : GL A' ℓ.tail := ⟨by omega, fun t ht => by
      obtain ⟨b1, b2, b3, b4⟩ := hb t (by omega)
      obtain ⟨c1, c2, c3, c4⟩ := hG.2 (t + 1) (by omega)
      have h4 : ℓ.tail.getD t l0 = ℓ.getD (t + 1) l0 := by simp [List.getD]
      rw [h4]
      exact ⟨b1.trans c1, b2.trans c2, b3.trans c3, b4.trans c4⟩⟩
    obtain ⟨w2, A2, S2, e2, q2, a2, s2, t2, g2, o2⟩ := X7_logs_put q1 (by omega) (by rw [htl]; simp [upd]; rfl) hG1 r i s
    refine ⟨w2, A2, S2, e2, q2, fun j hj => (a2 j hj).trans (ha j hj), fun t ht => (s2 t ht).trans (by simp [upd, ht]), by rw [t2, htl], ?_, o1.tr o2⟩
    have h0 : upd S 7 (60 - 1) 0 = S 0 := by simp [upd]
    rw [h0] at g2
    exact g2
  | q + 1, k, fuel + 1, w, A', h1, h2, h, ha, hb, hc => by
    have hk : k < 60 := by omega
    have hk1 : k + 1 < 60 := by omega
    have hle : ¬ (60 : Int32) ≤ nI (k + 1) := nI_ge (b := 60) (by omega) (by decide)
    rw [fX7_logs_L12]
    simp only [nI_1, hle, if_false, h.g23, Option.bind_some, h.l (j := 16) (i := k + 1) (by omega) (by omega) hk1]
    obtain ⟨w1, e1, q1, o1⟩ := h.s (j := 16) (i := k) (by omega) (by omega) hk (A' 16 (k + 1))
    simp only [e1, Option.bind_some, q1.g24, q1.l (j := 17) (i := k + 1) (by omega) (by omega) hk1]
    generalize hA1 : vup A' 16 k (A' 16 (k + 1)) = A1 at q1
    have f1 : A1 17 = A' 17 ∧ A1 18 = A' 18 ∧ A1 19 = A' 19 ∧ (∀ j, (j < 16 ∨ 19 < j) → A1 j = A' j) := by
      subst hA1
      refine ⟨by simp [vup], by simp [vup], by simp [vup], fun j hj => ?_⟩
      have : j ≠ 16 := by omega
      simp [vup, this]
    obtain ⟨w2, e2, q2, o2⟩ := q1.s (j := 17) (i := k) (by omega) (by omega) hk (A1 17 (k + 1))
    simp only [hA1, e2, Option.bind_some, q2.g25, q2.l (j := 18) (i := k + 1) (by omega) (by omega) hk1]
    generalize hA2 : vup A1 17 k (A1 17 (k + 1)) = A2 at q2
    have f2 : A2 16 = A1 16 ∧ A2 18 = A1 18 ∧ A2 19 = A1 19 ∧ (∀ j, (j < 16 ∨ 19 < j) → A2 j = A1 j) := by
      subst hA2
      refine ⟨by simp [vup], by simp [vup], by simp [vup], fun j hj => ?_⟩
      have : j ≠ 17 := by omega
      simp [vup, this]
    obtain ⟨w3, e3, q3, o3⟩ := q2.s (j := 18) (i := k) (by omega) (by omega) hk (A2 18 (k + 1))
    simp only [hA2, e3, Option.bind_some, q3.g26, q3.l (j := 19) (i := k + 1) (by omega) (by omega) hk1]
    generalize hA3 : vup A2 18 k (A2 18 (k + 1)) = A3 at q3
    have f3 : A3 16 = A2 16 ∧ A3 17 = A2 17 ∧ A3 19 = A2 19 ∧ (∀ j, (j < 16 ∨ 19 < j) → A3 j = A2 j) := by
      subst hA3
      refine ⟨by simp [vup], by simp [vup], by simp [vup], fun j hj => ?_⟩
      have : j ≠ 18 := by omega
      simp [vup, this]
    obtain ⟨w4, e4, q4, o4⟩ := q3.s (j := 19) (i := k) (by omega) (by omega) hk (A3 19 (k + 1))
    simp only [hA3, e4, Option.bind_some]
    generalize hA4 : vup A3 19 k (A3 19 (k + 1)) = A4 at q4
    have f4 : A4 16 = A3 16 ∧ A4 17 = A3 17 ∧ A4 18 = A3 18 ∧ (∀ j, (j < 16 ∨ 19 < j) → A4 j = A3 j) := by
      subst hA4
      refine ⟨by simp [vup], by simp [vup], by simp [vup], fun j hj => ?_⟩
      have : j ≠ 19 := by omega
      simp [vup, this]
    have v16 : A4 16 = upd (A' 16) k (A' 16 (k + 1)) := by rw [f4.1, f3.1, f2.1, ← hA1]; simp [vup]
    have v17 : A4 17 = upd (A' 17) k (A' 17 (k + 1)) := by rw [f4.2.1, f3.2.1, ← hA2]; simp [vup, f1.1]
    have v18 : A4 18 = upd (A' 18) k (A' 18 (k + 1)) := by rw [f4.2.2.1, ← hA3]; simp [vup, f2.2.1, f1.2.1]
    have v19 : A4 19 = upd (A' 19) k (A' 19 (k + 1)) := by rw [← hA4]; simp [vup, f3.2.2.1, f2.2.2.1, f1.2.2.1]
    obtain ⟨w6, A6, S6, e6, q6, r6, s6, t6, g6, o6⟩ := X7_logs_shift hl hG r i s h7 q (k + 1) fuel w4 A4 (by omega) (by omega) q4 (fun j hj => by rw [f4.2.2.2 j hj, f3.2.2.2 j hj, f2.2.2.2 j hj, f1.2.2.2 j hj]; exact ha j hj) (fun t ht => by
      rw [v16, v17, v18, v19]
      by_cases htk : t = k
      · subst htk
        obtain ⟨c1, c2, c3, c4⟩ := hc (t + 1) (by omega)
        simp [upd, c1, c2, c3, c4]
      · obtain ⟨b1, b2, b3, b4⟩ := hb t (by omega)
        simp [upd, htk, b1, b2, b3, b4]) (fun t ht => by
      rw [v16, v17, v18, v19]
      have htk : t ≠ k := by omega
      obtain ⟨b1, b2, b3, b4⟩ := hc t (by omega)
      simp [upd, htk, b1, b2, b3, b4])
    exact ⟨w6, A6, S6, e6, q6, r6, s6, t6, g6, (((o1.tr o2).tr o3).tr o4).tr o6⟩
theorem X7_logs_q (h : Mo w m S A) {ℓ : List Lg} (hS : S 7 = nI ℓ.length) (hG : GL A ℓ) (r i s : Int32) : ∃ w' A' S', fX7_logs w m r i s = some w' ∧ Mo w' m S' A' ∧ (∀ j, (j < 16 ∨ 19 < j) → A' j = A j) ∧ (∀ t, t ≠ 7 → S' t = S t) ∧ S' 7 = nI (push60 ℓ (r, i, s, S 0)).length ∧ GL A' (push60 ℓ (r, i, s, S 0)) ∧ Out w w' m (m + 23) := by
  have hle := hG.1
  rw [fX7_logs]
  simp only [h.g22, hS, Option.bind_some]
  by_cases h60 : ℓ.length = 60
  · have hS' : S 7 = 60 := by rw [hS, h60]; rfl
    obtain ⟨w6, A6, S6, e6, q6, r6, s6, t6, g6, o6⟩ := X7_logs_shift (A := A) h60 hG r i s hS' 59 0 1000 w A (by omega) (by omega) h (fun _ _ => rfl) (fun t ht => by omega) (fun t _ => ⟨rfl, rfl, rfl, rfl⟩)
    rw [nI_0] at e6
    have hp : push60 ℓ (r, i, s, S 0) = ℓ.tail ++ [(r, i, s, S 0)] := by unfold push60; rw [if_pos h60]
    refine ⟨w6, A6, S6, by rw [h60]; exact e6, q6, r6, s6, ?_, by rw [hp]; exact g6, o6⟩
    rw [t6, push60_len _ _ hle, h60]
    rfl
  · have hne : ¬ nI ℓ.length = 60 := fun e => h60 ((nI_eq (b := 60) (by omega) (by decide)).mp e)
    rw [if_neg hne]
    obtain ⟨w6, A6, S6, e6, q6, r6, s6, t6, g6, o6⟩ := X7_logs_put h (by omega) hS hG r i s
    have hp : push60 ℓ (r, i, s, S 0) = ℓ ++ [(r, i, s, S 0)] := by unfold push60; rw [if_neg h60]
    exact ⟨w6, A6, S6, e6, q6, r6, s6, by rw [t6, hp]; simp, by rw [hp]; exact g6, o6⟩
end MG
