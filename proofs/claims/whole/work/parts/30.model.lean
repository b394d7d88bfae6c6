/-! ===== the reference: S 0 changes, 1 day, 2 ids, 3 bad, 4 worked, 5 findings, 6 hadMany, 7 logged, 8 taped; A j the array at m + j ===== -/
def szM (j : Nat) : Nat := if j = 1 then 6 else if j ≤ 15 then 192 else if j ≤ 19 then 60 else if j = 20 then 40 else if j = 21 then 1089 else 32
theorem szM_lt (j : Nat) : szM j < 2 ^ 31 := by unfold szM; split <;> (try split) <;> (try split) <;> (try split) <;> (try split) <;> omega
def Mo (w : Fw) (m : Nat) (S : Nat → Int32) (A : Nat → Nat → Int32) : Prop := w m = some (.inr (.inr (7, [.ref (m + 1), .ref (m + 2), .ref (m + 3), .int (S 0), .int (S 1), .int (S 2), .int (S 3), .int (S 4), .int (S 5), .int (S 6), .ref (m + 4), .ref (m + 5), .ref (m + 6), .ref (m + 7), .ref (m + 8), .ref (m + 9), .ref (m + 10), .ref (m + 11), .ref (m + 12), .ref (m + 13), .ref (m + 14), .ref (m + 15), .int (S 7), .ref (m + 16), .ref (m + 17), .ref (m + 18), .ref (m + 19), .ref (m + 20), .ref (m + 21), .ref (m + 22), .int (S 8)]))) ∧ ∀ j, 1 ≤ j → j ≤ 22 → w (m + j) = some (.inl (szM j, A j))
theorem Mo.frame {w w' : Fw} {m : Nat} {S : Nat → Int32} {A : Nat → Nat → Int32} (h : Mo w m S A) (he : ∀ q, m ≤ q → q < m + 23 → w' q = w q) : Mo w' m S A := ⟨by rw [he m (by omega) (by omega)]; exact h.1, fun j h1 h2 => by rw [he _ (by omega) (by omega)]; exact h.2 j h1 h2⟩
section MOD
variable {w : Fw} {m : Nat} {S : Nat → Int32} {A : Nat → Nat → Int32}
theorem Mo.o (h : Mo w m S A) : isO w m 7 = some () := isO_ok h.1
theorem Mo.g0 (h : Mo w m S A) : gR w m 7 0 = some (m + 1) := gR_ok h.1 rfl
theorem Mo.g1 (h : Mo w m S A) : gR w m 7 1 = some (m + 2) := gR_ok h.1 rfl
theorem Mo.g2 (h : Mo w m S A) : gR w m 7 2 = some (m + 3) := gR_ok h.1 rfl
theorem Mo.g3 (h : Mo w m S A) : gI w m 7 3 = some (S 0) := gI_ok h.1 rfl
theorem Mo.p3 (h : Mo w m S A) (x : Int32) : ∃ w', pF w m 7 3 (.int x) = some w' ∧ Mo w' m (upd S 0 x) A ∧ Out w w' m (m + 23) := ⟨_, pF_ok h.1 (by simp), ⟨by simp [fup, upd], fun j h1 h2 => by rw [fup_ne (by omega)]; exact h.2 j h1 h2⟩, Out.fup (by omega) (by omega)⟩
theorem Mo.g4 (h : Mo w m S A) : gI w m 7 4 = some (S 1) := gI_ok h.1 rfl
theorem Mo.p4 (h : Mo w m S A) (x : Int32) : ∃ w', pF w m 7 4 (.int x) = some w' ∧ Mo w' m (upd S 1 x) A ∧ Out w w' m (m + 23) := ⟨_, pF_ok h.1 (by simp), ⟨by simp [fup, upd], fun j h1 h2 => by rw [fup_ne (by omega)]; exact h.2 j h1 h2⟩, Out.fup (by omega) (by omega)⟩
theorem Mo.g5 (h : Mo w m S A) : gI w m 7 5 = some (S 2) := gI_ok h.1 rfl
theorem Mo.p5 (h : Mo w m S A) (x : Int32) : ∃ w', pF w m 7 5 (.int x) = some w' ∧ Mo w' m (upd S 2 x) A ∧ Out w w' m (m + 23) := ⟨_, pF_ok h.1 (by simp), ⟨by simp [fup, upd], fun j h1 h2 => by rw [fup_ne (by omega)]; exact h.2 j h1 h2⟩, Out.fup (by omega) (by omega)⟩
theorem Mo.g6 (h : Mo w m S A) : gI w m 7 6 = some (S 3) := gI_ok h.1 rfl
theorem Mo.p6 (h : Mo w m S A) (x : Int32) : ∃ w', pF w m 7 6 (.int x) = some w' ∧ Mo w' m (upd S 3 x) A ∧ Out w w' m (m + 23) := ⟨_, pF_ok h.1 (by simp), ⟨by simp [fup, upd], fun j h1 h2 => by rw [fup_ne (by omega)]; exact h.2 j h1 h2⟩, Out.fup (by omega) (by omega)⟩
theorem Mo.g7 (h : Mo w m S A) : gI w m 7 7 = some (S 4) := gI_ok h.1 rfl
theorem Mo.p7 (h : Mo w m S A) (x : Int32) : ∃ w', pF w m 7 7 (.int x) = some w' ∧ Mo w' m (upd S 4 x) A ∧ Out w w' m (m + 23) := ⟨_, pF_ok h.1 (by simp), ⟨by simp [fup, upd], fun j h1 h2 => by rw [fup_ne (by omega)]; exact h.2 j h1 h2⟩, Out.fup (by omega) (by omega)⟩
theorem Mo.g8 (h : Mo w m S A) : gI w m 7 8 = some (S 5) := gI_ok h.1 rfl
theorem Mo.p8 (h : Mo w m S A) (x : Int32) : ∃ w', pF w m 7 8 (.int x) = some w' ∧ Mo w' m (upd S 5 x) A ∧ Out w w' m (m + 23) := ⟨_, pF_ok h.1 (by simp), ⟨by simp [fup, upd], fun j h1 h2 => by rw [fup_ne (by omega)]; exact h.2 j h1 h2⟩, Out.fup (by omega) (by omega)⟩
theorem Mo.g9 (h : Mo w m S A) : gI w m 7 9 = some (S 6) := gI_ok h.1 rfl
theorem Mo.p9 (h : Mo w m S A) (x : Int32) : ∃ w', pF w m 7 9 (.int x) = some w' ∧ Mo w' m (upd S 6 x) A ∧ Out w w' m (m + 23) := ⟨_, pF_ok h.1 (by simp), ⟨by simp [fup, upd], fun j h1 h2 => by rw [fup_ne (by omega)]; exact h.2 j h1 h2⟩, Out.fup (by omega) (by omega)⟩
theorem Mo.g10 (h : Mo w m S A) : gR w m 7 10 = some (m + 4) := gR_ok h.1 rfl
theorem Mo.g11 (h : Mo w m S A) : gR w m 7 11 = some (m + 5) := gR_ok h.1 rfl
theorem Mo.g12 (h : Mo w m S A) : gR w m 7 12 = some (m + 6) := gR_ok h.1 rfl
theorem Mo.g13 (h : Mo w m S A) : gR w m 7 13 = some (m + 7) := gR_ok h.1 rfl
theorem Mo.g14 (h : Mo w m S A) : gR w m 7 14 = some (m + 8) := gR_ok h.1 rfl
theorem Mo.g15 (h : Mo w m S A) : gR w m 7 15 = some (m + 9) := gR_ok h.1 rfl
theorem Mo.g16 (h : Mo w m S A) : gR w m 7 16 = some (m + 10) := gR_ok h.1 rfl
theorem Mo.g17 (h : Mo w m S A) : gR w m 7 17 = some (m + 11) := gR_ok h.1 rfl
theorem Mo.g18 (h : Mo w m S A) : gR w m 7 18 = some (m + 12) := gR_ok h.1 rfl
theorem Mo.g19 (h : Mo w m S A) : gR w m 7 19 = some (m + 13) := gR_ok h.1 rfl
theorem Mo.g20 (h : Mo w m S A) : gR w m 7 20 = some (m + 14) := gR_ok h.1 rfl
theorem Mo.g21 (h : Mo w m S A) : gR w m 7 21 = some (m + 15) := gR_ok h.1 rfl
theorem Mo.g22 (h : Mo w m S A) : gI w m 7 22 = some (S 7) := gI_ok h.1 rfl
theorem Mo.p22 (h : Mo w m S A) (x : Int32) : ∃ w', pF w m 7 22 (.int x) = some w' ∧ Mo w' m (upd S 7 x) A ∧ Out w w' m (m + 23) := ⟨_, pF_ok h.1 (by simp), ⟨by simp [fup, upd], fun j h1 h2 => by rw [fup_ne (by omega)]; exact h.2 j h1 h2⟩, Out.fup (by omega) (by omega)⟩
theorem Mo.g23 (h : Mo w m S A) : gR w m 7 23 = some (m + 16) := gR_ok h.1 rfl
theorem Mo.g24 (h : Mo w m S A) : gR w m 7 24 = some (m + 17) := gR_ok h.1 rfl
theorem Mo.g25 (h : Mo w m S A) : gR w m 7 25 = some (m + 18) := gR_ok h.1 rfl
theorem Mo.g26 (h : Mo w m S A) : gR w m 7 26 = some (m + 19) := gR_ok h.1 rfl
theorem Mo.g27 (h : Mo w m S A) : gR w m 7 27 = some (m + 20) := gR_ok h.1 rfl
theorem Mo.g28 (h : Mo w m S A) : gR w m 7 28 = some (m + 21) := gR_ok h.1 rfl
theorem Mo.g29 (h : Mo w m S A) : gR w m 7 29 = some (m + 22) := gR_ok h.1 rfl
theorem Mo.g30 (h : Mo w m S A) : gI w m 7 30 = some (S 8) := gI_ok h.1 rfl
theorem Mo.p30 (h : Mo w m S A) (x : Int32) : ∃ w', pF w m 7 30 (.int x) = some w' ∧ Mo w' m (upd S 8 x) A ∧ Out w w' m (m + 23) := ⟨_, pF_ok h.1 (by simp), ⟨by simp [fup, upd], fun j h1 h2 => by rw [fup_ne (by omega)]; exact h.2 j h1 h2⟩, Out.fup (by omega) (by omega)⟩
theorem Mo.l (h : Mo w m S A) {j i : Nat} (h1 : 1 ≤ j) (h2 : j ≤ 22) (hi : i < szM j) : lI w (m + j) (nI i) = some (A j i) := lI_ok (h.2 j h1 h2) hi (szM_lt j)
theorem Mo.s (h : Mo w m S A) {j i : Nat} (h1 : 1 ≤ j) (h2 : j ≤ 22) (hi : i < szM j) (x : Int32) : ∃ w', sI w (m + j) (nI i) x = some w' ∧ Mo w' m S (vup A j i x) ∧ Out w w' m (m + 23) := by
  refine ⟨_, sI_ok (h.2 j h1 h2) hi (szM_lt j), ⟨by rw [fup_ne (by omega)]; exact h.1, fun j' q1 q2 => ?_⟩, Out.fup (by omega) (by omega)⟩
  unfold vup
  by_cases e : j' = j
  · subst e; rw [fup_eq]; simp
  · rw [fup_ne (by omega), if_neg e]; exact h.2 j' q1 q2
end MOD
