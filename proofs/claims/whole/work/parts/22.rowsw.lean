/-! ===== rows as lists of findings; writes ===== -/
abbrev Fnd : Type := Int32 × Int32 × Int32 × Int32 × Int32 × Int32
def d0 : Fnd := (0, 0, 0, 0, 0, 0)
def ent (V : Nat → Nat → Int32) (j : Nat) : Fnd := (V 0 j, V 1 j, V 2 j, V 3 j, V 4 j, V 5 j)
def vup (V : Nat → Nat → Int32) (t i : Nat) (x : Int32) : Nat → Nat → Int32 := fun t' => if t' = t then upd (V t) i x else V t'
section ROWS2
variable {w : Fw} {a c : Nat} {V : Nat → Nat → Int32}
theorem Rw.g0 (h : Rw w a c V) : gI w a 2 0 = some (nI c) := gI_ok h.1 rfl
theorem Rw.g1 (h : Rw w a c V) : gR w a 2 1 = some (a + 1) := gR_ok h.1 rfl
theorem Rw.g2 (h : Rw w a c V) : gR w a 2 2 = some (a + 2) := gR_ok h.1 rfl
theorem Rw.g3 (h : Rw w a c V) : gR w a 2 3 = some (a + 3) := gR_ok h.1 rfl
theorem Rw.g4 (h : Rw w a c V) : gR w a 2 4 = some (a + 4) := gR_ok h.1 rfl
theorem Rw.g5 (h : Rw w a c V) : gR w a 2 5 = some (a + 5) := gR_ok h.1 rfl
theorem Rw.g6 (h : Rw w a c V) : gR w a 2 6 = some (a + 6) := gR_ok h.1 rfl
theorem Rw.s1 (h : Rw w a c V) {i : Nat} (hi : i < 32) (x : Int32) : ∃ w', sI w (a + 1) (nI i) x = some w' ∧ Rw w' a c (vup V 0 i x) ∧ Out w w' a (a + 7) := by
  obtain ⟨h0, h1, h2, h3, h4, h5, h6⟩ := h
  exact ⟨_, sI_ok h1 hi (by decide), by simp [Rw, fup, vup, *], Out.fup (by omega) (by omega)⟩
theorem Rw.s2 (h : Rw w a c V) {i : Nat} (hi : i < 32) (x : Int32) : ∃ w', sI w (a + 2) (nI i) x = some w' ∧ Rw w' a c (vup V 1 i x) ∧ Out w w' a (a + 7) := by
  obtain ⟨h0, h1, h2, h3, h4, h5, h6⟩ := h
  exact ⟨_, sI_ok h2 hi (by decide), by simp [Rw, fup, vup, *], Out.fup (by omega) (by omega)⟩
theorem Rw.s3 (h : Rw w a c V) {i : Nat} (hi : i < 32) (x : Int32) : ∃ w', sI w (a + 3) (nI i) x = some w' ∧ Rw w' a c (vup V 2 i x) ∧ Out w w' a (a + 7) := by
  obtain ⟨h0, h1, h2, h3, h4, h5, h6⟩ := h
  exact ⟨_, sI_ok h3 hi (by decide), by simp [Rw, fup, vup, *], Out.fup (by omega) (by omega)⟩
theorem Rw.s4 (h : Rw w a c V) {i : Nat} (hi : i < 32) (x : Int32) : ∃ w', sI w (a + 4) (nI i) x = some w' ∧ Rw w' a c (vup V 3 i x) ∧ Out w w' a (a + 7) := by
  obtain ⟨h0, h1, h2, h3, h4, h5, h6⟩ := h
  exact ⟨_, sI_ok h4 hi (by decide), by simp [Rw, fup, vup, *], Out.fup (by omega) (by omega)⟩
theorem Rw.s5 (h : Rw w a c V) {i : Nat} (hi : i < 32) (x : Int32) : ∃ w', sI w (a + 5) (nI i) x = some w' ∧ Rw w' a c (vup V 4 i x) ∧ Out w w' a (a + 7) := by
  obtain ⟨h0, h1, h2, h3, h4, h5, h6⟩ := h
  exact ⟨_, sI_ok h5 hi (by decide), by simp [Rw, fup, vup, *], Out.fup (by omega) (by omega)⟩
theorem Rw.s6 (h : Rw w a c V) {i : Nat} (hi : i < 32) (x : Int32) : ∃ w', sI w (a + 6) (nI i) x = some w' ∧ Rw w' a c (vup V 5 i x) ∧ Out w w' a (a + 7) := by
  obtain ⟨h0, h1, h2, h3, h4, h5, h6⟩ := h
  exact ⟨_, sI_ok h6 hi (by decide), by simp [Rw, fup, vup, *], Out.fup (by omega) (by omega)⟩
theorem Rw.sc (h : Rw w a c V) (c' : Nat) : ∃ w', pF w a 2 0 (.int (nI c')) = some w' ∧ Rw w' a c' V ∧ Out w w' a (a + 7) := by
  obtain ⟨h0, h1, h2, h3, h4, h5, h6⟩ := h
  exact ⟨_, pF_ok h0 (by simp), by simp [Rw, fup, *], Out.fup (by omega) (by omega)⟩
end ROWS2
/-- the row at a holds the list L -/
def RwL (w : Fw) (a : Nat) (L : List Fnd) : Prop := L.length ≤ 32 ∧ ∃ V, Rw w a L.length V ∧ ∀ j, j < L.length → ent V j = L.getD j d0
theorem RwL.frame {w w' : Fw} {a : Nat} {L : List Fnd} (h : RwL w a L) (he : ∀ q, a ≤ q → q < a + 7 → w' q = w q) : RwL w' a L := by
  obtain ⟨h1, V, h2, h3⟩ := h
  exact ⟨h1, V, h2.frame he, h3⟩
theorem getD_app_lt {α : Type} {L M : List α} {j : Nat} {d : α} (h : j < L.length) : (L ++ M).getD j d = L.getD j d := by
  simp [List.getD, List.getElem?_append_left h]
theorem getD_app_len {α : Type} {L : List α} {x d : α} : (L ++ [x]).getD L.length d = x := by
  simp [List.getD]
/-- rule and id, at place k of a list -/
def pL (M : List Fnd) (r i : Int32) : Nat → Bool := fun k => decide ((M.getD k d0).1 = r) && decide ((M.getD k d0).2.2.1 = i)
theorem RwL.pl {M : List Fnd} {V : Nat → Nat → Int32} (hV : ∀ j, j < M.length → ent V j = M.getD j d0) (r i : Int32) : srch (pRI V r i) M.length 0 = srch (pL M r i) M.length 0 := by
  refine srch_congr (fun k _ hk => ?_)
  have h := hV k (by omega)
  simp only [pRI, pL, ← h, ent]
theorem X2_placeOf_l {w : Fw} {a : Nat} {M : List Fnd} (h : RwL w a M) (r i : Int32) : fX2_placeOf w a r i = some (plI (srch (pL M r i) M.length 0)) := by
  obtain ⟨h1, V, h2, h3⟩ := h
  rw [X2_placeOf_q h2 h1, RwL.pl h3]
theorem X2_clear_l {w : Fw} {a : Nat} {M : List Fnd} (h : RwL w a M) : ∃ w', fX2_clear w a = some w' ∧ RwL w' a [] ∧ Out w w' a (a + 7) := by
  obtain ⟨h1, V, h2, h3⟩ := h
  obtain ⟨w', e, h4, o⟩ := h2.sc 0
  have e' : pF w a 2 0 (.int 0) = some w' := e
  exact ⟨w', by simp [fX2_clear, e'], ⟨by simp, V, h4, fun j hj => by simp at hj⟩, o⟩
theorem X2_add_l {w : Fw} {a : Nat} {L : List Fnd} (h : RwL w a L) (hl : L.length < 32) (r l i s : Int32) : ∃ w', fX2_add w a r l i s = some w' ∧ RwL w' a (L ++ [(r, l, i, s, 0, -1)]) ∧ Out w w' a (a + 7) := by
  obtain ⟨h1, V, h2, h3⟩ := h
  have hlt : nI L.length < 32 := nI_lt (b := 32) hl (by decide)
  rw [fX2_add]
  simp only [h2.g0, h2.g1, Option.bind_some, if_pos hlt]
  obtain ⟨w1, e1, q1, o1⟩ := h2.s1 hl r
  simp only [e1, Option.bind_some, q1.g0, q1.g2]
  obtain ⟨w2, e2, q2, o2⟩ := q1.s2 hl l
  simp only [e2, Option.bind_some, q2.g0, q2.g3]
  obtain ⟨w3, e3, q3, o3⟩ := q2.s3 hl i
  simp only [e3, Option.bind_some, q3.g0, q3.g4]
  obtain ⟨w4, e4, q4, o4⟩ := q3.s4 hl s
  simp only [e4, Option.bind_some, q4.g0, q4.g5]
  obtain ⟨w5, e5, q5, o5⟩ := q4.s5 hl 0
  simp only [e5, Option.bind_some, q5.g0, q5.g6]
  obtain ⟨w6, e6, q6, o6⟩ := q5.s6 hl (-1)
  simp only [e6, Option.bind_some, q6.g0]
  obtain ⟨w7, e7, q7, o7⟩ := q6.sc (L.length + 1)
  rw [nI_1, e7, Option.bind_some]
  refine ⟨w7, rfl, ⟨by simp; omega, _, by simpa using q7, fun j hj => ?_⟩, ((((((o1.tr o2).tr o3).tr o4).tr o5).tr o6).tr o7)⟩
  by_cases hjl : j = L.length
  · subst hjl
    rw [getD_app_len]
    simp [ent, vup, upd]
  · have hj2 : j < L.length := by simp at hj; omega
    rw [getD_app_lt hj2, ← h3 j hj2]
    simp [ent, vup, upd, hjl]
/-- what a finding that was there already takes over -/
def tk (M : List Fnd) (e : Fnd) : Fnd := match srch (pL M e.1 e.2.2.1) M.length 0 with
  | some j => (e.1, e.2.1, e.2.2.1, (M.getD j d0).2.2.2)
  | none => e
theorem X2_takeOver_l {w : Fw} {a b : Nat} {L M : List Fnd} {e : Fnd} (h : RwL w a (L ++ [e])) (hb : RwL w b M) (hab : a + 7 ≤ b ∨ b + 7 ≤ a) : ∃ w', fX2_takeOver w a b = some w' ∧ RwL w' a (L ++ [tk M e]) ∧ Out w w' a (a + 7) := by
  obtain ⟨h1, V, h2, h3⟩ := h
  obtain ⟨b1, U, b2, b3⟩ := hb
  have hlen : (L ++ [e]).length = L.length + 1 := by simp
  rw [hlen] at h1 h2 h3
  have hlt : L.length < 32 := by omega
  have h32 : 0 ≤ nI L.length := nI_pos' (by omega)
  have he := h3 L.length (by omega)
  rw [getD_app_len] at he
  have hr : V 0 L.length = e.1 := congrArg (fun q : Fnd => q.1) he
  have hi : V 2 L.length = e.2.2.1 := congrArg (fun q : Fnd => q.2.2.1) he
  rw [fX2_takeOver]
  simp only [h2.g0, h2.g1, h2.g3, Option.bind_some, nI_pred, if_pos h32, lI_ok h2.2.1 hlt (by decide), lI_ok h2.2.2.2.1 hlt (by decide), isO_ok b2.1, hr, hi, X2_placeOf_q b2 b1, RwL.pl b3]
  cases hs : srch (pL M e.1 e.2.2.1) M.length 0 with
  | none =>
    refine ⟨w, by simp [plI, fX2_takeOver_b70], ⟨by simp; omega, V, by simpa using h2, fun j hj => ?_⟩, Out.rf⟩
    rw [show tk M e = e by simp [tk, hs]]
    exact h3 j (by simpa using hj)
  | some j =>
    obtain ⟨-, j2, -, -⟩ := srch_some hs
    have hj32 : j < 32 := by omega
    have hj := b3 j (by omega)
    have keepB : ∀ {w' : Fw}, Out w w' a (a + 7) → Rw w' b M.length U := fun o => b2.frame (fun q q1 q2 => o q (by omega))
    simp only [if_neg (plI_ne (show j < 2 ^ 31 by omega))]
    simp only [plI, h2.g4, b2.g4, Option.bind_some, lI_ok b2.2.2.2.2.1 hj32 (by decide)]
    obtain ⟨w1, e1, q1, o1⟩ := h2.s4 hlt (U 3 j)
    have c1 := keepB o1
    simp only [e1, Option.bind_some, q1.g5, c1.g5, lI_ok c1.2.2.2.2.2.1 hj32 (by decide)]
    obtain ⟨w2, e2, q2, o2⟩ := q1.s5 hlt (U 4 j)
    have c2 := keepB (o1.tr o2)
    simp only [e2, Option.bind_some, q2.g6, c2.g6, lI_ok c2.2.2.2.2.2.2 hj32 (by decide)]
    obtain ⟨w3, e3, q3, o3⟩ := q2.s6 hlt (U 5 j)
    simp only [e3, Option.bind_some, fX2_takeOver_b70]
    refine ⟨w3, rfl, ⟨by simp; omega, _, by simpa using q3, fun k hk => ?_⟩, (o1.tr o2).tr o3⟩
    by_cases hkl : k = L.length
    · subst hkl
      rw [getD_app_len]
      have ht : tk M e = (e.1, e.2.1, e.2.2.1, (M.getD j d0).2.2.2) := by simp [tk, hs]
      rw [ht, ← hj, ← he]
      simp [ent, vup, upd]
    · have hk2 : k < L.length := by simp at hk; omega
      rw [getD_app_lt hk2, ← getD_app_lt (M := [e]) hk2, ← h3 k (by omega)]
      simp [ent, vup, upd, hkl]
theorem X2_hush_l {w : Fw} {a i : Nat} {L : List Fnd} (h : RwL w a L) (hi : i < L.length) (u r : Int32) : ∃ w', fX2_hush w a (nI i) u r = some w' ∧ RwL w' a (L.set i ((L.getD i d0).1, (L.getD i d0).2.1, (L.getD i d0).2.2.1, (L.getD i d0).2.2.2.1, u, r)) ∧ Out w w' a (a + 7) := by
  obtain ⟨h1, V, h2, h3⟩ := h
  have hlt : i < 32 := by omega
  rw [fX2_hush]
  simp only [h2.g5, Option.bind_some]
  obtain ⟨w1, e1, q1, o1⟩ := h2.s5 hlt u
  simp only [e1, Option.bind_some, q1.g6]
  obtain ⟨w2, e2, q2, o2⟩ := q1.s6 hlt r
  simp only [e2, Option.bind_some]
  refine ⟨w2, rfl, ⟨by simpa using h1, _, by simpa using q2, fun k hk => ?_⟩, o1.tr o2⟩
  simp only [List.length_set] at hk
  by_cases hki : k = i
  · subst hki
    rw [← h3 k hk]
    simp [ent, vup, upd, List.getD, hk]
  · rw [show (L.set i ((L.getD i d0).1, (L.getD i d0).2.1, (L.getD i d0).2.2.1, (L.getD i d0).2.2.2.1, u, r)).getD k d0 = L.getD k d0 by simp [List.getD, List.getElem?_set_ne (Ne.symm hki)], ← h3 k hk]
    simp [ent, vup, upd, hki]
theorem X2_unhush_l {w : Fw} {a i : Nat} {L : List Fnd} (h : RwL w a L) (hi : i < L.length) : ∃ w', fX2_unhush w a (nI i) = some w' ∧ RwL w' a (L.set i ((L.getD i d0).1, (L.getD i d0).2.1, (L.getD i d0).2.2.1, (L.getD i d0).2.2.2.1, 0, (L.getD i d0).2.2.2.2.2)) ∧ Out w w' a (a + 7) := by
  obtain ⟨h1, V, h2, h3⟩ := h
  have hlt : i < 32 := by omega
  rw [fX2_unhush]
  simp only [h2.g5, Option.bind_some]
  obtain ⟨w1, e1, q1, o1⟩ := h2.s5 hlt 0
  simp only [e1, Option.bind_some]
  refine ⟨w1, rfl, ⟨by simpa using h1, _, by simpa using q1, fun k hk => ?_⟩, o1⟩
  simp only [List.length_set] at hk
  by_cases hki : k = i
  · subst hki
    rw [← h3 k hk]
    simp [ent, vup, upd, List.getD, hk]
  · rw [show (L.set i ((L.getD i d0).1, (L.getD i d0).2.1, (L.getD i d0).2.2.1, (L.getD i d0).2.2.2.1, 0, (L.getD i d0).2.2.2.2.2)).getD k d0 = L.getD k d0 by simp [List.getD, List.getElem?_set_ne (Ne.symm hki)], ← h3 k hk]
    simp [ent, vup, upd, hki]
-- counts
theorem X2_countAfter_loop {w : Fw} {a c : Nat} {V : Nat → Nat → Int32} (h : Rw w a c V) (hc : c ≤ 32) (ch : Int32) (b : Bool) (d : Int32) : ∀ (m k fuel : Nat), k + m = c → m < fuel → fX2_countAfter_L6 w fuel a ch (bz b) d (nI (cntB (fun j => decide (ch < V 3 j) && (!b || !decide (d < V 4 j))) k)) (nI k) = some (nI (cntB (fun j => decide (ch < V 3 j) && (!b || !decide (d < V 4 j))) c))
  | m, k, 0, hk, hf => by omega
  | 0, k, fuel + 1, hk, hf => by
    have hle : nI c ≤ nI k := nI_le (by omega) (by omega)
    rw [fX2_countAfter_L6]
    have : k = c := by omega
    subst this
    simp [h.g0, hle]
  | m + 1, k, fuel + 1, hk, hf => by
    have hle : ¬ nI c ≤ nI k := nI_ge (by omega) (by omega)
    have ih := X2_countAfter_loop h hc ch b d m (k + 1) fuel (by omega) (by omega)
    have hs := X2_isSilenced_q h (show k < 32 by omega) d
    rw [fX2_countAfter_L6]
    simp only [h.g0, h.g4, lI_ok h.2.2.2.2.1 (show k < 32 by omega) (by decide), Option.bind_some, hle, if_false, isO_ok h.1, hs, fX2_countAfter_b29, fX2_countAfter_b34, fX2_countAfter_b55]
    rw [← ih, cntB, nI_bz, ← nI_1]
    by_cases h1 : ch < V 3 k
    · have h1' : ¬ V 3 k ≤ ch := Int32.not_le.mpr h1
      cases b <;> by_cases h2 : d < V 4 k <;> simp [h1, h1', h2, bz]
    · have h1' : V 3 k ≤ ch := Int32.not_lt.mp h1
      cases b <;> by_cases h2 : d < V 4 k <;> simp [h1, h1', h2, bz]
theorem X2_countAfter_q {w : Fw} {a c : Nat} {V : Nat → Nat → Int32} (h : Rw w a c V) (hc : c ≤ 32) (ch : Int32) (b : Bool) (d : Int32) : fX2_countAfter w a ch (bz b) d = some (nI (cntB (fun j => decide (ch < V 3 j) && (!b || !decide (d < V 4 j))) c)) := by
  rw [fX2_countAfter]
  exact X2_countAfter_loop h hc ch b d c 0 1000 (by omega) (by omega)
