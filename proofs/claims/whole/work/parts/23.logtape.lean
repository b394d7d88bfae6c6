/-! ===== the log (EndedLog): a ring; the list has the oldest first ===== -/
abbrev Lg : Type := Int32 × Int32 × Int32 × Int32
def l0 : Lg := (0, 0, 0, 0)
def lent (U : Nat → Nat → Int32) (j : Nat) : Lg := (U 0 j, U 1 j, U 2 j, U 3 j)
def Lr (w : Fw) (a n nx : Nat) (U : Nat → Nat → Int32) : Prop :=
  w a = some (.inr (.inr (1, [.int (nI n), .int (nI nx), .ref (a + 1), .ref (a + 2), .ref (a + 3), .ref (a + 4)]))) ∧ w (a + 1) = some (.inl (60, U 0)) ∧ w (a + 2) = some (.inl (60, U 1)) ∧ w (a + 3) = some (.inl (60, U 2)) ∧ w (a + 4) = some (.inl (60, U 3))
theorem Lr.frame {w w' : Fw} {a n nx : Nat} {U : Nat → Nat → Int32} (h : Lr w a n nx U) (he : ∀ q, a ≤ q → q < a + 5 → w' q = w q) : Lr w' a n nx U := by
  obtain ⟨h0, h1, h2, h3, h4⟩ := h
  exact ⟨by rw [he a (by omega) (by omega)]; exact h0, by rw [he _ (by omega) (by omega)]; exact h1, by rw [he _ (by omega) (by omega)]; exact h2, by rw [he _ (by omega) (by omega)]; exact h3, by rw [he _ (by omega) (by omega)]; exact h4⟩
/-- the log at a holds the list ℓ -/
def LgL (w : Fw) (a : Nat) (ℓ : List Lg) : Prop := ∃ nx U, Lr w a ℓ.length nx U ∧ nx < 60 ∧ ℓ.length ≤ 60 ∧ ∀ j, j < ℓ.length → lent U ((nx + 60 - ℓ.length + j) % 60) = ℓ.getD j l0
theorem LgL.frame {w w' : Fw} {a : Nat} {ℓ : List Lg} (h : LgL w a ℓ) (he : ∀ q, a ≤ q → q < a + 5 → w' q = w q) : LgL w' a ℓ := by
  obtain ⟨nx, U, h1, h2⟩ := h
  exact ⟨nx, U, h1.frame he, h2⟩
def push60 (ℓ : List Lg) (e : Lg) : List Lg := if ℓ.length = 60 then ℓ.tail ++ [e] else ℓ ++ [e]
section LOG
variable {w : Fw} {a n nx : Nat} {U : Nat → Nat → Int32}
theorem Lr.g0 (h : Lr w a n nx U) : gI w a 1 0 = some (nI n) := gI_ok h.1 rfl
theorem Lr.gx (h : Lr w a n nx U) : gI w a 1 1 = some (nI nx) := gI_ok h.1 rfl
theorem Lr.g1 (h : Lr w a n nx U) : gR w a 1 2 = some (a + 1) := gR_ok h.1 rfl
theorem Lr.g2 (h : Lr w a n nx U) : gR w a 1 3 = some (a + 2) := gR_ok h.1 rfl
theorem Lr.g3 (h : Lr w a n nx U) : gR w a 1 4 = some (a + 3) := gR_ok h.1 rfl
theorem Lr.g4 (h : Lr w a n nx U) : gR w a 1 5 = some (a + 4) := gR_ok h.1 rfl
theorem Lr.s1 (h : Lr w a n nx U) {i : Nat} (hi : i < 60) (x : Int32) : ∃ w', sI w (a + 1) (nI i) x = some w' ∧ Lr w' a n nx (vup U 0 i x) ∧ Out w w' a (a + 5) := by
  obtain ⟨h0, h1, h2, h3, h4⟩ := h
  exact ⟨_, sI_ok h1 hi (by decide), by simp [Lr, fup, vup, *], Out.fup (by omega) (by omega)⟩
theorem Lr.s2 (h : Lr w a n nx U) {i : Nat} (hi : i < 60) (x : Int32) : ∃ w', sI w (a + 2) (nI i) x = some w' ∧ Lr w' a n nx (vup U 1 i x) ∧ Out w w' a (a + 5) := by
  obtain ⟨h0, h1, h2, h3, h4⟩ := h
  exact ⟨_, sI_ok h2 hi (by decide), by simp [Lr, fup, vup, *], Out.fup (by omega) (by omega)⟩
theorem Lr.s3 (h : Lr w a n nx U) {i : Nat} (hi : i < 60) (x : Int32) : ∃ w', sI w (a + 3) (nI i) x = some w' ∧ Lr w' a n nx (vup U 2 i x) ∧ Out w w' a (a + 5) := by
  obtain ⟨h0, h1, h2, h3, h4⟩ := h
  exact ⟨_, sI_ok h3 hi (by decide), by simp [Lr, fup, vup, *], Out.fup (by omega) (by omega)⟩
theorem Lr.s4 (h : Lr w a n nx U) {i : Nat} (hi : i < 60) (x : Int32) : ∃ w', sI w (a + 4) (nI i) x = some w' ∧ Lr w' a n nx (vup U 3 i x) ∧ Out w w' a (a + 5) := by
  obtain ⟨h0, h1, h2, h3, h4⟩ := h
  exact ⟨_, sI_ok h4 hi (by decide), by simp [Lr, fup, vup, *], Out.fup (by omega) (by omega)⟩
theorem Lr.sx (h : Lr w a n nx U) (k : Nat) : ∃ w', pF w a 1 1 (.int (nI k)) = some w' ∧ Lr w' a n k U ∧ Out w w' a (a + 5) := by
  obtain ⟨h0, h1, h2, h3, h4⟩ := h
  exact ⟨_, pF_ok h0 (by simp), by simp [Lr, fup, *], Out.fup (by omega) (by omega)⟩
theorem Lr.sn (h : Lr w a n nx U) (k : Nat) : ∃ w', pF w a 1 0 (.int (nI k)) = some w' ∧ Lr w' a k nx U ∧ Out w w' a (a + 5) := by
  obtain ⟨h0, h1, h2, h3, h4⟩ := h
  exact ⟨_, pF_ok h0 (by simp), by simp [Lr, fup, *], Out.fup (by omega) (by omega)⟩
end LOG
theorem push60_len (ℓ : List Lg) (e : Lg) (h : ℓ.length ≤ 60) : (push60 ℓ e).length = min (ℓ.length + 1) 60 := by
  unfold push60
  split <;> simp <;> omega
theorem X1_add_l {w : Fw} {a : Nat} {ℓ : List Lg} (h : LgL w a ℓ) (r i s t : Int32) : ∃ w', fX1_add w a r i s t = some w' ∧ LgL w' a (push60 ℓ (r, i, s, t)) ∧ Out w w' a (a + 5) := by
  obtain ⟨nx, U, h1, hnx, hlen, hU⟩ := h
  rw [fX1_add]
  simp only [h1.g1, h1.gx, Option.bind_some]
  obtain ⟨w1, e1, q1, o1⟩ := h1.s1 hnx r
  simp only [e1, Option.bind_some, q1.g2, q1.gx]
  obtain ⟨w2, e2, q2, o2⟩ := q1.s2 hnx i
  simp only [e2, Option.bind_some, q2.g3, q2.gx]
  obtain ⟨w3, e3, q3, o3⟩ := q2.s3 hnx s
  simp only [e3, Option.bind_some, q3.g4, q3.gx]
  obtain ⟨w4, e4, q4, o4⟩ := q3.s4 hnx t
  simp only [e4, Option.bind_some, q4.gx]
  have hk : (if 60 ≤ nI nx + 1 then fX1_add_b63 w4 a a 0 else fX1_add_b63 w4 a a (nI nx + 1)) = fX1_add_b63 w4 a a (nI ((nx + 1) % 60)) := by
    rw [nI_1]
    by_cases h60 : nx + 1 = 60
    · rw [h60]; rfl
    · have h9 : ¬ (60 : Int32) ≤ nI (nx + 1) := nI_ge (b := 60) (by omega) (by decide)
      rw [if_neg h9, Nat.mod_eq_of_lt (by omega)]
  rw [hk, fX1_add_b63]
  obtain ⟨w5, e5, q5, o5⟩ := q4.sx ((nx + 1) % 60)
  simp only [e5, Option.bind_some, q5.g0]
  have hm : (if 60 < nI ℓ.length + 1 then (60 : Int32) else nI ℓ.length + 1) = nI (min (ℓ.length + 1) 60) := by
    rw [nI_1]
    by_cases h60 : ℓ.length = 60
    · rw [h60]; rfl
    · have h9 : ¬ (60 : Int32) < nI (ℓ.length + 1) := nI_nlt (a := 60) (by omega) (by decide)
      rw [if_neg h9, Nat.min_eq_left (by omega)]
  rw [hm]
  obtain ⟨w6, e6, q6, o6⟩ := q5.sn (min (ℓ.length + 1) 60)
  rw [e6, Option.bind_some]
  refine ⟨w6, rfl, ⟨(nx + 1) % 60, _, by rw [push60_len _ _ hlen]; exact q6, Nat.mod_lt _ (by decide), by rw [push60_len _ _ hlen]; omega, fun j hj => ?_⟩, (((((o1.tr o2).tr o3).tr o4).tr o5).tr o6)⟩
  rw [push60_len _ _ hlen] at hj ⊢
  unfold push60
  by_cases h60 : ℓ.length = 60
  · rw [if_pos h60]
    have htl : ℓ.tail.length = 59 := by simp; omega
    have hm6 : min (ℓ.length + 1) 60 = 60 := by omega
    rw [hm6] at hj ⊢
    by_cases hj9 : j = 59
    · subst hj9
      have h1 : ((nx + 1) % 60 + 60 - 60 + 59) % 60 = nx := by omega
      rw [h1, ← htl, getD_app_len]
      simp [lent, vup, upd]
    · have hne : ¬ ((nx + 1) % 60 + 60 - 60 + j) % 60 = nx := by omega
      rw [getD_app_lt (by omega)]
      have h2 := hU (j + 1) (by omega)
      have h3 : (nx + 60 - ℓ.length + (j + 1)) % 60 = ((nx + 1) % 60 + 60 - 60 + j) % 60 := by omega
      rw [h3] at h2
      have h4 : ℓ.tail.getD j l0 = ℓ.getD (j + 1) l0 := by simp [List.getD]
      rw [h4, ← h2]
      generalize ((nx + 1) % 60 + 60 - 60 + j) % 60 = p at hne ⊢
      simp [lent, vup, upd, hne]
  · rw [if_neg h60]
    have hm6 : min (ℓ.length + 1) 60 = ℓ.length + 1 := by omega
    rw [hm6] at hj ⊢
    by_cases hj9 : j = ℓ.length
    · subst hj9
      have h1 : ((nx + 1) % 60 + 60 - (ℓ.length + 1) + ℓ.length) % 60 = nx := by omega
      rw [h1, getD_app_len]
      simp [lent, vup, upd]
    · have hne : ¬ ((nx + 1) % 60 + 60 - (ℓ.length + 1) + j) % 60 = nx := by omega
      rw [getD_app_lt (by omega)]
      have h2 := hU j (by omega)
      have h3 : (nx + 60 - ℓ.length + j) % 60 = ((nx + 1) % 60 + 60 - (ℓ.length + 1) + j) % 60 := by omega
      rw [h3] at h2
      rw [← h2]
      generalize ((nx + 1) % 60 + 60 - (ℓ.length + 1) + j) % 60 = p at hne ⊢
      simp [lent, vup, upd, hne]
theorem i32_sub1 (x y : Int32) : x - 1 - y = x - (y + 1) := by grind
theorem i32_sub2 (x y : Int32) : x - y + 60 = x + 60 - y := by grind
/-- the i-th latest -/
theorem X1_at_l {w : Fw} {a : Nat} {ℓ : List Lg} (h : LgL w a ℓ) {i : Nat} (hi : i < ℓ.length) : ∃ p : Nat, fX1_placeOf w a (nI i) = some (nI p) ∧ fX1_ruleAt w a (nI p) = some (ℓ.getD (ℓ.length - 1 - i) l0).1 ∧ fX1_idAt w a (nI p) = some (ℓ.getD (ℓ.length - 1 - i) l0).2.1 ∧ fX1_sinceAt w a (nI p) = some (ℓ.getD (ℓ.length - 1 - i) l0).2.2.1 ∧ fX1_endAt w a (nI p) = some (ℓ.getD (ℓ.length - 1 - i) l0).2.2.2 := by
  obtain ⟨nx, U, h1, hnx, hlen, hU⟩ := h
  have hp : (nx + 59 - i) % 60 < 60 := Nat.mod_lt _ (by decide)
  have h2 := hU (ℓ.length - 1 - i) (by omega)
  have h3 : (nx + 60 - ℓ.length + (ℓ.length - 1 - i)) % 60 = (nx + 59 - i) % 60 := by omega
  rw [h3] at h2
  refine ⟨(nx + 59 - i) % 60, ?_, ?_, ?_, ?_, ?_⟩
  · rw [fX1_placeOf]
    simp only [h1.gx, Option.bind_some, fX1_placeOf_b21, i32_sub1, i32_sub2, nI_1]
    by_cases hc : i + 1 ≤ nx
    · rw [if_neg (by rw [pk_sub hc]; exact nI_pos (by omega)), pk_sub hc]
      congr 2
      omega
    · rw [if_pos (pk_sneg (by omega) (by omega))]
      rw [show nI nx + 60 = nI (nx + 60) from nI_add nx 60, pk_sub (by omega)]
      congr 2
      omega
  · simp only [fX1_ruleAt, h1.g1, Option.bind_some, lI_ok h1.2.1 hp (by decide), ← h2, lent]
  · simp only [fX1_idAt, h1.g2, Option.bind_some, lI_ok h1.2.2.1 hp (by decide), ← h2, lent]
  · simp only [fX1_sinceAt, h1.g3, Option.bind_some, lI_ok h1.2.2.2.1 hp (by decide), ← h2, lent]
  · simp only [fX1_endAt, h1.g4, Option.bind_some, lI_ok h1.2.2.2.2 hp (by decide), ← h2, lent]
theorem X1_size_l {w : Fw} {a : Nat} {ℓ : List Lg} (h : LgL w a ℓ) : fX1_size w a = some (nI ℓ.length) := by
  obtain ⟨nx, U, h1, -⟩ := h
  simp [fX1_size, h1.g0]
theorem X1_isO {w : Fw} {a : Nat} {ℓ : List Lg} (h : LgL w a ℓ) : isO w a 1 = some () := by
  obtain ⟨nx, U, h1, -⟩ := h
  exact isO_ok h1.1
/-- which of the row's findings have ended goes to the log -/
def ends1 (M : List Fnd) (ch : Int32) (ℓ : List Lg) (e : Fnd) : List Lg := if (srch (pL M e.1 e.2.2.1) M.length 0).isNone then push60 ℓ (e.1, e.2.2.1, e.2.2.2.1, ch) else ℓ
theorem X2_logEnded_loop {a b g : Nat} {L M : List Fnd} (ch : Int32) (hab : b + 7 ≤ g ∨ g + 5 ≤ b) (hag : a + 7 ≤ g ∨ g + 5 ≤ a) : ∀ (m k fuel : Nat) (w : Fw) (ℓ : List Lg), k + m = L.length → m < fuel → RwL w a L → RwL w b M → LgL w g ℓ → ∃ w', fX2_logEnded_L3 fuel w a b ch g (nI k) = some w' ∧ LgL w' g ((L.drop k).foldl (ends1 M ch) ℓ) ∧ Out w w' g (g + 5)
  | m, k, 0, w, ℓ, hk, hf, _, _, _ => by omega
  | 0, k, fuel + 1, w, ℓ, hk, hf, hL, hM, hl => by
    obtain ⟨h1, V, h2, h3⟩ := hL
    have hle : nI L.length ≤ nI k := nI_le (by omega) (by omega)
    rw [fX2_logEnded_L3]
    refine ⟨w, by simp [h2.g0, hle], ?_, Out.rf⟩
    rw [List.drop_eq_nil_of_le (by omega)]
    exact hl
  | m + 1, k, fuel + 1, w, ℓ, hk, hf, hL, hM, hl => by
    have hL0 := hL
    obtain ⟨h1, V, h2, h3⟩ := hL
    have hle : ¬ nI L.length ≤ nI k := nI_ge (by omega) (by omega)
    have hk32 : k < 32 := by omega
    have he := h3 k (by omega)
    have hd : L.drop k = L.getD k d0 :: L.drop (k + 1) := by
      rw [List.drop_eq_getElem_cons (by omega)]
      congr 1
      simp [List.getD, show k < L.length by omega]
    have hr : V 0 k = (L.getD k d0).1 := congrArg (fun q : Fnd => q.1) he
    have hi : V 2 k = (L.getD k d0).2.2.1 := congrArg (fun q : Fnd => q.2.2.1) he
    have hs : V 3 k = (L.getD k d0).2.2.2.1 := congrArg (fun q : Fnd => q.2.2.2.1) he
    rw [fX2_logEnded_L3, hd, List.foldl_cons]
    simp only [h2.g0, h2.g1, h2.g3, h2.g4, Option.bind_some, hle, if_false, lI_ok h2.2.1 hk32 (by decide), lI_ok h2.2.2.2.1 hk32 (by decide), lI_ok h2.2.2.2.2.1 hk32 (by decide), hr, hi, hs, X2_placeOf_l hM, fX2_logEnded_b60, nI_1]
    obtain ⟨mlen, U, m2, m3⟩ := id hM
    rw [isO_ok m2.1, Option.bind_some, X1_isO hl, Option.bind_some]
    cases hq : srch (pL M (L.getD k d0).1 (L.getD k d0).2.2.1) M.length 0 with
    | none =>
      obtain ⟨w1, e1, q1, o1⟩ := X1_add_l hl (L.getD k d0).1 (L.getD k d0).2.2.1 (L.getD k d0).2.2.2.1 ch
      simp only [plI, if_true, e1, Option.bind_some]
      obtain ⟨w2, e2, q2, o2⟩ := X2_logEnded_loop ch hab hag m (k + 1) fuel w1 _ (by omega) (by omega) (hL0.frame (fun q q1 q2 => o1 q (by omega))) (hM.frame (fun q q1 q2 => o1 q (by omega))) q1
      have hends : ends1 M ch ℓ (L.getD k d0) = push60 ℓ ((L.getD k d0).1, (L.getD k d0).2.2.1, (L.getD k d0).2.2.2.1, ch) := by unfold ends1; rw [hq]; rfl
      exact ⟨w2, e2, by rw [hends]; exact q2, o1.tr o2⟩
    | some j =>
      obtain ⟨-, j2, -, -⟩ := srch_some hq
      rw [if_neg (plI_ne (show j < 2 ^ 31 by omega))]
      obtain ⟨w2, e2, q2, o2⟩ := X2_logEnded_loop ch hab hag m (k + 1) fuel w ℓ (by omega) (by omega) hL0 hM hl
      have hends : ends1 M ch ℓ (L.getD k d0) = ℓ := by unfold ends1; rw [hq]; rfl
      exact ⟨w2, e2, by rw [hends]; exact q2, o2⟩
theorem X2_logEnded_l {w : Fw} {a b g : Nat} {L M : List Fnd} {ℓ : List Lg} (ch : Int32) (hab : b + 7 ≤ g ∨ g + 5 ≤ b) (hag : a + 7 ≤ g ∨ g + 5 ≤ a) (hL : RwL w a L) (hM : RwL w b M) (hl : LgL w g ℓ) : ∃ w', fX2_logEnded w a b ch g = some w' ∧ LgL w' g (L.foldl (ends1 M ch) ℓ) ∧ Out w w' g (g + 5) := by
  rw [fX2_logEnded]
  have h32 := hL.1
  have h := X2_logEnded_loop ch hab hag L.length 0 1000 w ℓ (by omega) (by omega) hL hM hl
  rw [List.drop_zero, nI_0] at h
  exact h
