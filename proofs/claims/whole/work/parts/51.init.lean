/-! ===== the beginning ===== -/
theorem np {w : Fw} {a z ci k : Nat} {fs : List Value} {v : Value} {e : Ent} (h : w a = some (.inr (.inr (ci, fs)))) (hz : a ≠ z) (hk : k < fs.length) : ∃ w' : Fw, (∀ {α : Type} (K : Fw → Option α), ((nO w z e).bind fun w1 => ((pF w1 a ci k v).bind fun w2 => K w2)) = K w') ∧ w' a = some (.inr (.inr (ci, fs.set k v))) ∧ w' z = some e ∧ ∀ q, q ≠ a → q ≠ z → w' q = w q := by
  refine ⟨fup (fup w z e) a (.inr (.inr (ci, fs.set k v))), fun K => ?_, fup_eq _ _ _, ?_, fun q h1 h2 => ?_⟩
  · rw [nO, Option.bind_some, pF_ok (show fup w z e a = some (.inr (.inr (ci, fs))) by rw [fup_ne hz]; exact h) hk, Option.bind_some]
  · rw [fup_ne (Ne.symm hz), fup_eq]
  · rw [fup_ne h1, fup_ne h2]
theorem nip {w : Fw} {a t t1 t2 ci k : Nat} {e : Ent} {fs : List Value} {F : Fw → Nat → Nat → Option (Fw × Nat)} {P : Fw → Prop} (h : w a = some (.inr (.inr (ci, fs)))) (hk : k < fs.length) (hat : a < t) (ht1 : t1 = t + 1) (htt : t < t2) (hF : ∀ w : Fw, w t = some e → ∃ w' n, F w (t + 1) t = some (w', n) ∧ P w' ∧ Out w w' t t2) (hP : ∀ w w' : Fw, (∀ q, t ≤ q → q < t2 → w' q = w q) → P w → P w') : ∃ w' : Fw, (∀ {α : Type} (K : Fw → Option α), ((nO w t e).bind fun w1 => ((F w1 t1 t).bind fun t6 => ((pF t6.1 a ci k (.ref t)).bind fun w2 => K w2))) = K w') ∧ w' a = some (.inr (.inr (ci, fs.set k (.ref t)))) ∧ P w' ∧ ∀ q, q ≠ a → (q < t ∨ t2 ≤ q) → w' q = w q := by
  subst ht1
  obtain ⟨w1, n1, e1, p1, o1⟩ := hF (fup w t e) (fup_eq _ _ _)
  have ha : w1 a = some (.inr (.inr (ci, fs))) := by rw [o1 a (Or.inl hat), fup_ne (by omega)]; exact h
  refine ⟨fup w1 a (.inr (.inr (ci, fs.set k (.ref t)))), fun K => ?_, fup_eq _ _ _, hP w1 _ (fun q q1 q2 => fup_ne (by omega)) p1, fun q h1 h2 => ?_⟩
  · rw [nO, Option.bind_some, e1, Option.bind_some]
    dsimp only
    rw [pF_ok ha hk, Option.bind_some]
  · rw [fup_ne h1, o1 q h2, fup_ne (by omega)]
theorem X0_init_q {w : Fw} {a : Nat} (h : w a = some (.inr (.inr (0, [.null, .null])))) : ∃ w', fX0_init w (a + 1) a = some (w', a + 1 + 2) ∧ Ck w' a (fun _ => 0) (fun _ => 0) ∧ Out w w' a (a + 3) := by
  obtain ⟨w1, E1, a1, z1, f1⟩ := np (z := a + 1) (k := 0) (v := .ref (a + 1)) (e := .inl (5, fun _ => 0)) h (by omega) (by simp)
  obtain ⟨w2, E2, a2, z2, f2⟩ := np (z := a + 1 + 1) (k := 1) (v := .ref (a + 1 + 1)) (e := .inl (32, fun _ => 0)) a1 (by omega) (by simp)
  have y1 : w2 (a + 1) = some (.inl (5, fun _ => 0)) := by rw [f2 _ (by omega) (by omega)]; exact z1
  have y2 : w2 (a + 1 + 1) = some (.inl (32, fun _ => 0)) := by exact z2
  refine ⟨w2, ?_, ?_, fun q hq => by rw [f2 q (by omega) (by omega), f1 q (by omega) (by omega)]⟩
  · rw [fX0_init, E1, E2]
  · exact ⟨a2, y1, y2⟩
theorem X1_init_q {w : Fw} {a : Nat} (h : w a = some (.inr (.inr (1, [.int 0, .int 0, .null, .null, .null, .null])))) : ∃ w', fX1_init w (a + 1) a = some (w', a + 1 + 4) ∧ LgL w' a [] ∧ Out w w' a (a + 5) := by
  obtain ⟨w1, E1, a1, z1, f1⟩ := np (z := a + 1) (k := 2) (v := .ref (a + 1)) (e := .inl (60, fun _ => 0)) h (by omega) (by simp)
  obtain ⟨w2, E2, a2, z2, f2⟩ := np (z := a + 1 + 1) (k := 3) (v := .ref (a + 1 + 1)) (e := .inl (60, fun _ => 0)) a1 (by omega) (by simp)
  obtain ⟨w3, E3, a3, z3, f3⟩ := np (z := a + 1 + 2) (k := 4) (v := .ref (a + 1 + 2)) (e := .inl (60, fun _ => 0)) a2 (by omega) (by simp)
  obtain ⟨w4, E4, a4, z4, f4⟩ := np (z := a + 1 + 3) (k := 5) (v := .ref (a + 1 + 3)) (e := .inl (60, fun _ => 0)) a3 (by omega) (by simp)
  have y1 : w4 (a + 1) = some (.inl (60, fun _ => 0)) := by rw [f4 _ (by omega) (by omega), f3 _ (by omega) (by omega), f2 _ (by omega) (by omega)]; exact z1
  have y2 : w4 (a + 1 + 1) = some (.inl (60, fun _ => 0)) := by rw [f4 _ (by omega) (by omega), f3 _ (by omega) (by omega)]; exact z2
  have y3 : w4 (a + 1 + 2) = some (.inl (60, fun _ => 0)) := by rw [f4 _ (by omega) (by omega)]; exact z3
  have y4 : w4 (a + 1 + 3) = some (.inl (60, fun _ => 0)) := by exact z4
  refine ⟨w4, ?_, ?_, fun q hq => by rw [f4 q (by omega) (by omega), f3 q (by omega) (by omega), f2 q (by omega) (by omega), f1 q (by omega) (by omega)]⟩
  · rw [fX1_init, E1, E2, E3, E4]
  · exact ⟨0, fun _ _ => 0, ⟨a4, y1, y2, y3, y4⟩, by omega, by simp, fun j hj => by simp at hj⟩
theorem X2_init_q {w : Fw} {a : Nat} (h : w a = some (.inr (.inr (2, [.int 0, .null, .null, .null, .null, .null, .null])))) : ∃ w', fX2_init w (a + 1) a = some (w', a + 1 + 6) ∧ RwL w' a [] ∧ Out w w' a (a + 7) := by
  obtain ⟨w1, E1, a1, z1, f1⟩ := np (z := a + 1) (k := 1) (v := .ref (a + 1)) (e := .inl (32, fun _ => 0)) h (by omega) (by simp)
  obtain ⟨w2, E2, a2, z2, f2⟩ := np (z := a + 1 + 1) (k := 2) (v := .ref (a + 1 + 1)) (e := .inl (32, fun _ => 0)) a1 (by omega) (by simp)
  obtain ⟨w3, E3, a3, z3, f3⟩ := np (z := a + 1 + 2) (k := 3) (v := .ref (a + 1 + 2)) (e := .inl (32, fun _ => 0)) a2 (by omega) (by simp)
  obtain ⟨w4, E4, a4, z4, f4⟩ := np (z := a + 1 + 3) (k := 4) (v := .ref (a + 1 + 3)) (e := .inl (32, fun _ => 0)) a3 (by omega) (by simp)
  obtain ⟨w5, E5, a5, z5, f5⟩ := np (z := a + 1 + 4) (k := 5) (v := .ref (a + 1 + 4)) (e := .inl (32, fun _ => 0)) a4 (by omega) (by simp)
  obtain ⟨w6, E6, a6, z6, f6⟩ := np (z := a + 1 + 5) (k := 6) (v := .ref (a + 1 + 5)) (e := .inl (32, fun _ => 0)) a5 (by omega) (by simp)
  have y1 : w6 (a + 1) = some (.inl (32, fun _ => 0)) := by rw [f6 _ (by omega) (by omega), f5 _ (by omega) (by omega), f4 _ (by omega) (by omega), f3 _ (by omega) (by omega), f2 _ (by omega) (by omega)]; exact z1
  have y2 : w6 (a + 1 + 1) = some (.inl (32, fun _ => 0)) := by rw [f6 _ (by omega) (by omega), f5 _ (by omega) (by omega), f4 _ (by omega) (by omega), f3 _ (by omega) (by omega)]; exact z2
  have y3 : w6 (a + 1 + 2) = some (.inl (32, fun _ => 0)) := by rw [f6 _ (by omega) (by omega), f5 _ (by omega) (by omega), f4 _ (by omega) (by omega)]; exact z3
  have y4 : w6 (a + 1 + 3) = some (.inl (32, fun _ => 0)) := by rw [f6 _ (by omega) (by omega), f5 _ (by omega) (by omega)]; exact z4
  have y5 : w6 (a + 1 + 4) = some (.inl (32, fun _ => 0)) := by rw [f6 _ (by omega) (by omega)]; exact z5
  have y6 : w6 (a + 1 + 5) = some (.inl (32, fun _ => 0)) := by exact z6
  refine ⟨w6, ?_, ?_, fun q hq => by rw [f6 q (by omega) (by omega), f5 q (by omega) (by omega), f4 q (by omega) (by omega), f3 q (by omega) (by omega), f2 q (by omega) (by omega), f1 q (by omega) (by omega)]⟩
  · rw [fX2_init, E1, E2, E3, E4, E5, E6]
  · exact ⟨by simp, fun _ _ => 0, ⟨a6, y1, y2, y3, y4, y5, y6⟩, fun j hj => by simp at hj⟩
theorem X5_init_q {w : Fw} {a : Nat} (h : w a = some (.inr (.inr (5, [.int 0, .null])))) : ∃ w', fX5_init w (a + 1) a = some (w', a + 1 + 1) ∧ Tp w' a 0 (fun _ => 0) ∧ Out w w' a (a + 2) := by
  obtain ⟨w1, E1, a1, z1, f1⟩ := np (z := a + 1) (k := 1) (v := .ref (a + 1)) (e := .inl (40, fun _ => 0)) h (by omega) (by simp)
  have y1 : w1 (a + 1) = some (.inl (40, fun _ => 0)) := by exact z1
  refine ⟨w1, ?_, ?_, fun q hq => by rw [f1 q (by omega) (by omega)]⟩
  · rw [fX5_init, E1]
  · exact ⟨by omega, fun _ => 0, a1, y1, fun k hk => by omega⟩
theorem X7_init_q {w : Fw} {a : Nat} (h : w a = some (.inr (.inr (7, [.null, .null, .null, .int 0, .int 0, .int 0, .int 0, .int 0, .int 0, .int 0, .null, .null, .null, .null, .null, .null, .null, .null, .null, .null, .null, .null, .int 0, .null, .null, .null, .null, .null, .null, .null, .int 0])))) : ∃ w', fX7_init w (a + 1) a = some (w', a + 1 + 22) ∧ Mo w' a (fun _ => 0) (fun _ _ => 0) ∧ Out w w' a (a + 23) := by
  obtain ⟨w1, E1, a1, z1, f1⟩ := np (z := a + 1) (k := 0) (v := .ref (a + 1)) (e := .inl (6, fun _ => 0)) h (by omega) (by simp)
  obtain ⟨w2, E2, a2, z2, f2⟩ := np (z := a + 1 + 1) (k := 1) (v := .ref (a + 1 + 1)) (e := .inl (192, fun _ => 0)) a1 (by omega) (by simp)
  obtain ⟨w3, E3, a3, z3, f3⟩ := np (z := a + 1 + 2) (k := 2) (v := .ref (a + 1 + 2)) (e := .inl (192, fun _ => 0)) a2 (by omega) (by simp)
  obtain ⟨w4, E4, a4, z4, f4⟩ := np (z := a + 1 + 3) (k := 10) (v := .ref (a + 1 + 3)) (e := .inl (192, fun _ => 0)) a3 (by omega) (by simp)
  obtain ⟨w5, E5, a5, z5, f5⟩ := np (z := a + 1 + 4) (k := 11) (v := .ref (a + 1 + 4)) (e := .inl (192, fun _ => 0)) a4 (by omega) (by simp)
  obtain ⟨w6, E6, a6, z6, f6⟩ := np (z := a + 1 + 5) (k := 12) (v := .ref (a + 1 + 5)) (e := .inl (192, fun _ => 0)) a5 (by omega) (by simp)
  obtain ⟨w7, E7, a7, z7, f7⟩ := np (z := a + 1 + 6) (k := 13) (v := .ref (a + 1 + 6)) (e := .inl (192, fun _ => 0)) a6 (by omega) (by simp)
  obtain ⟨w8, E8, a8, z8, f8⟩ := np (z := a + 1 + 7) (k := 14) (v := .ref (a + 1 + 7)) (e := .inl (192, fun _ => 0)) a7 (by omega) (by simp)
  obtain ⟨w9, E9, a9, z9, f9⟩ := np (z := a + 1 + 8) (k := 15) (v := .ref (a + 1 + 8)) (e := .inl (192, fun _ => 0)) a8 (by omega) (by simp)
  obtain ⟨w10, E10, a10, z10, f10⟩ := np (z := a + 1 + 9) (k := 16) (v := .ref (a + 1 + 9)) (e := .inl (192, fun _ => 0)) a9 (by omega) (by simp)
  obtain ⟨w11, E11, a11, z11, f11⟩ := np (z := a + 1 + 10) (k := 17) (v := .ref (a + 1 + 10)) (e := .inl (192, fun _ => 0)) a10 (by omega) (by simp)
  obtain ⟨w12, E12, a12, z12, f12⟩ := np (z := a + 1 + 11) (k := 18) (v := .ref (a + 1 + 11)) (e := .inl (192, fun _ => 0)) a11 (by omega) (by simp)
  obtain ⟨w13, E13, a13, z13, f13⟩ := np (z := a + 1 + 12) (k := 19) (v := .ref (a + 1 + 12)) (e := .inl (192, fun _ => 0)) a12 (by omega) (by simp)
  obtain ⟨w14, E14, a14, z14, f14⟩ := np (z := a + 1 + 13) (k := 20) (v := .ref (a + 1 + 13)) (e := .inl (192, fun _ => 0)) a13 (by omega) (by simp)
  obtain ⟨w15, E15, a15, z15, f15⟩ := np (z := a + 1 + 14) (k := 21) (v := .ref (a + 1 + 14)) (e := .inl (192, fun _ => 0)) a14 (by omega) (by simp)
  obtain ⟨w16, E16, a16, z16, f16⟩ := np (z := a + 1 + 15) (k := 23) (v := .ref (a + 1 + 15)) (e := .inl (60, fun _ => 0)) a15 (by omega) (by simp)
  obtain ⟨w17, E17, a17, z17, f17⟩ := np (z := a + 1 + 16) (k := 24) (v := .ref (a + 1 + 16)) (e := .inl (60, fun _ => 0)) a16 (by omega) (by simp)
  obtain ⟨w18, E18, a18, z18, f18⟩ := np (z := a + 1 + 17) (k := 25) (v := .ref (a + 1 + 17)) (e := .inl (60, fun _ => 0)) a17 (by omega) (by simp)
  obtain ⟨w19, E19, a19, z19, f19⟩ := np (z := a + 1 + 18) (k := 26) (v := .ref (a + 1 + 18)) (e := .inl (60, fun _ => 0)) a18 (by omega) (by simp)
  obtain ⟨w20, E20, a20, z20, f20⟩ := np (z := a + 1 + 19) (k := 27) (v := .ref (a + 1 + 19)) (e := .inl (40, fun _ => 0)) a19 (by omega) (by simp)
  obtain ⟨w21, E21, a21, z21, f21⟩ := np (z := a + 1 + 20) (k := 28) (v := .ref (a + 1 + 20)) (e := .inl (1089, fun _ => 0)) a20 (by omega) (by simp)
  obtain ⟨w22, E22, a22, z22, f22⟩ := np (z := a + 1 + 21) (k := 29) (v := .ref (a + 1 + 21)) (e := .inl (32, fun _ => 0)) a21 (by omega) (by simp)
  have y1 : w22 (a + 1) = some (.inl (6, fun _ => 0)) := by rw [f22 _ (by omega) (by omega), f21 _ (by omega) (by omega), f20 _ (by omega) (by omega), f19 _ (by omega) (by omega), f18 _ (by omega) (by omega), f17 _ (by omega) (by omega), f16 _ (by omega) (by omega), f15 _ (by omega) (by omega), f14 _ (by omega) (by omega), f13 _ (by omega) (by omega), f12 _ (by omega) (by omega), f11 _ (by omega) (by omega), f10 _ (by omega) (by omega), f9 _ (by omega) (by omega), f8 _ (by omega) (by omega), f7 _ (by omega) (by omega), f6 _ (by omega) (by omega), f5 _ (by omega) (by omega), f4 _ (by omega) (by omega), f3 _ (by omega) (by omega), f2 _ (by omega) (by omega)]; exact z1
  have y2 : w22 (a + 1 + 1) = some (.inl (192, fun _ => 0)) := by rw [f22 _ (by omega) (by omega), f21 _ (by omega) (by omega), f20 _ (by omega) (by omega), f19 _ (by omega) (by omega), f18 _ (by omega) (by omega), f17 _ (by omega) (by omega), f16 _ (by omega) (by omega), f15 _ (by omega) (by omega), f14 _ (by omega) (by omega), f13 _ (by omega) (by omega), f12 _ (by omega) (by omega), f11 _ (by omega) (by omega), f10 _ (by omega) (by omega), f9 _ (by omega) (by omega), f8 _ (by omega) (by omega), f7 _ (by omega) (by omega), f6 _ (by omega) (by omega), f5 _ (by omega) (by omega), f4 _ (by omega) (by omega), f3 _ (by omega) (by omega)]; exact z2
  have y3 : w22 (a + 1 + 2) = some (.inl (192, fun _ => 0)) := by rw [f22 _ (by omega) (by omega), f21 _ (by omega) (by omega), f20 _ (by omega) (by omega), f19 _ (by omega) (by omega), f18 _ (by omega) (by omega), f17 _ (by omega) (by omega), f16 _ (by omega) (by omega), f15 _ (by omega) (by omega), f14 _ (by omega) (by omega), f13 _ (by omega) (by omega), f12 _ (by omega) (by omega), f11 _ (by omega) (by omega), f10 _ (by omega) (by omega), f9 _ (by omega) (by omega), f8 _ (by omega) (by omega), f7 _ (by omega) (by omega), f6 _ (by omega) (by omega), f5 _ (by omega) (by omega), f4 _ (by omega) (by omega)]; exact z3
  have y4 : w22 (a + 1 + 3) = some (.inl (192, fun _ => 0)) := by rw [f22 _ (by omega) (by omega), f21 _ (by omega) (by omega), f20 _ (by omega) (by omega), f19 _ (by omega) (by omega), f18 _ (by omega) (by omega), f17 _ (by omega) (by omega), f16 _ (by omega) (by omega), f15 _ (by omega) (by omega), f14 _ (by omega) (by omega), f13 _ (by omega) (by omega), f12 _ (by omega) (by omega), f11 _ (by omega) (by omega), f10 _ (by omega) (by omega), f9 _ (by omega) (by omega), f8 _ (by omega) (by omega), f7 _ (by omega) (by omega), f6 _ (by omega) (by omega), f5 _ (by omega) (by omega)]; exact z4
  have y5 : w22 (a + 1 + 4) = some (.inl (192, fun _ => 0)) := by rw [f22 _ (by omega) (by omega), f21 _ (by omega) (by omega), f20 _ (by omega) (by omega), f19 _ (by omega) (by omega), f18 _ (by omega) (by omega), f17 _ (by omega) (by omega), f16 _ (by omega) (by omega), f15 _ (by omega) (by omega), f14 _ (by omega) (by omega), f13 _ (by omega) (by omega), f12 _ (by omega) (by omega), f11 _ (by omega) (by omega), f10 _ (by omega) (by omega), f9 _ (by omega) (by omega), f8 _ (by omega) (by omega), f7 _ (by omega) (by omega), f6 _ (by omega) (by omega)]; exact z5
  have y6 : w22 (a + 1 + 5) = some (.inl (192, fun _ => 0)) := by rw [f22 _ (by omega) (by omega), f21 _ (by omega) (by omega), f20 _ (by omega) (by omega), f19 _ (by omega) (by omega), f18 _ (by omega) (by omega), f17 _ (by omega) (by omega), f16 _ (by omega) (by omega), f15 _ (by omega) (by omega), f14 _ (by omega) (by omega), f13 _ (by omega) (by omega), f12 _ (by omega) (by omega), f11 _ (by omega) (by omega), f10 _ (by omega) (by omega), f9 _ (by omega) (by omega), f8 _ (by omega) (by omega), f7 _ (by omega) (by omega)]; exact z6
  have y7 : w22 (a + 1 + 6) = some (.inl (192, fun _ => 0)) := by rw [f22 _ (by omega) (by omega), f21 _ (by omega) (by omega), f20 _ (by omega) (by omega), f19 _ (by omega) (by omega), f18 _ (by omega) (by omega), f17 _ (by omega) (by omega), f16 _ (by omega) (by omega), f15 _ (by omega) (by omega), f14 _ (by omega) (by omega), f13 _ (by omega) (by omega), f12 _ (by omega) (by omega), f11 _ (by omega) (by omega), f10 _ (by omega) (by omega), f9 _ (by omega) (by omega), f8 _ (by omega) (by omega)]; exact z7
  have y8 : w22 (a + 1 + 7) = some (.inl (192, fun _ => 0)) := by rw [f22 _ (by omega) (by omega), f21 _ (by omega) (by omega), f20 _ (by omega) (by omega), f19 _ (by omega) (by omega), f18 _ (by omega) (by omega), f17 _ (by omega) (by omega), f16 _ (by omega) (by omega), f15 _ (by omega) (by omega), f14 _ (by omega) (by omega), f13 _ (by omega) (by omega), f12 _ (by omega) (by omega), f11 _ (by omega) (by omega), f10 _ (by omega) (by omega), f9 _ (by omega) (by omega)]; exact z8
  have y9 : w22 (a + 1 + 8) = some (.inl (192, fun _ => 0)) := by rw [f22 _ (by omega) (by omega), f21 _ (by omega) (by omega), f20 _ (by omega) (by omega), f19 _ (by omega) (by omega), f18 _ (by omega) (by omega), f17 _ (by omega) (by omega), f16 _ (by omega) (by omega), f15 _ (by omega) (by omega), f14 _ (by omega) (by omega), f13 _ (by omega) (by omega), f12 _ (by omega) (by omega), f11 _ (by omega) (by omega), f10 _ (by omega) (by omega)]; exact z9
  have y10 : w22 (a + 1 + 9) = some (.inl (192, fun _ => 0)) := by rw [f22 _ (by omega) (by omega), f21 _ (by omega) (by omega), f20 _ (by omega) (by omega), f19 _ (by omega) (by omega), f18 _ (by omega) (by omega), f17 _ (by omega) (by omega), f16 _ (by omega) (by omega), f15 _ (by omega) (by omega), f14 _ (by omega) (by omega), f13 _ (by omega) (by omega), f12 _ (by omega) (by omega), f11 _ (by omega) (by omega)]; exact z10
  have y11 : w22 (a + 1 + 10) = some (.inl (192, fun _ => 0)) := by rw [f22 _ (by omega) (by omega), f21 _ (by omega) (by omega), f20 _ (by omega) (by omega), f19 _ (by omega) (by omega), f18 _ (by omega) (by omega), f17 _ (by omega) (by omega), f16 _ (by omega) (by omega), f15 _ (by omega) (by omega), f14 _ (by omega) (by omega), f13 _ (by omega) (by omega), f12 _ (by omega) (by omega)]; exact z11
  have y12 : w22 (a + 1 + 11) = some (.inl (192, fun _ => 0)) := by rw [f22 _ (by omega) (by omega), f21 _ (by omega) (by omega), f20 _ (by omega) (by omega), f19 _ (by omega) (by omega), f18 _ (by omega) (by omega), f17 _ (by omega) (by omega), f16 _ (by omega) (by omega), f15 _ (by omega) (by omega), f14 _ (by omega) (by omega), f13 _ (by omega) (by omega)]; exact z12
  have y13 : w22 (a + 1 + 12) = some (.inl (192, fun _ => 0)) := by rw [f22 _ (by omega) (by omega), f21 _ (by omega) (by omega), f20 _ (by omega) (by omega), f19 _ (by omega) (by omega), f18 _ (by omega) (by omega), f17 _ (by omega) (by omega), f16 _ (by omega) (by omega), f15 _ (by omega) (by omega), f14 _ (by omega) (by omega)]; exact z13
  have y14 : w22 (a + 1 + 13) = some (.inl (192, fun _ => 0)) := by rw [f22 _ (by omega) (by omega), f21 _ (by omega) (by omega), f20 _ (by omega) (by omega), f19 _ (by omega) (by omega), f18 _ (by omega) (by omega), f17 _ (by omega) (by omega), f16 _ (by omega) (by omega), f15 _ (by omega) (by omega)]; exact z14
  have y15 : w22 (a + 1 + 14) = some (.inl (192, fun _ => 0)) := by rw [f22 _ (by omega) (by omega), f21 _ (by omega) (by omega), f20 _ (by omega) (by omega), f19 _ (by omega) (by omega), f18 _ (by omega) (by omega), f17 _ (by omega) (by omega), f16 _ (by omega) (by omega)]; exact z15
  have y16 : w22 (a + 1 + 15) = some (.inl (60, fun _ => 0)) := by rw [f22 _ (by omega) (by omega), f21 _ (by omega) (by omega), f20 _ (by omega) (by omega), f19 _ (by omega) (by omega), f18 _ (by omega) (by omega), f17 _ (by omega) (by omega)]; exact z16
  have y17 : w22 (a + 1 + 16) = some (.inl (60, fun _ => 0)) := by rw [f22 _ (by omega) (by omega), f21 _ (by omega) (by omega), f20 _ (by omega) (by omega), f19 _ (by omega) (by omega), f18 _ (by omega) (by omega)]; exact z17
  have y18 : w22 (a + 1 + 17) = some (.inl (60, fun _ => 0)) := by rw [f22 _ (by omega) (by omega), f21 _ (by omega) (by omega), f20 _ (by omega) (by omega), f19 _ (by omega) (by omega)]; exact z18
  have y19 : w22 (a + 1 + 18) = some (.inl (60, fun _ => 0)) := by rw [f22 _ (by omega) (by omega), f21 _ (by omega) (by omega), f20 _ (by omega) (by omega)]; exact z19
  have y20 : w22 (a + 1 + 19) = some (.inl (40, fun _ => 0)) := by rw [f22 _ (by omega) (by omega), f21 _ (by omega) (by omega)]; exact z20
  have y21 : w22 (a + 1 + 20) = some (.inl (1089, fun _ => 0)) := by rw [f22 _ (by omega) (by omega)]; exact z21
  have y22 : w22 (a + 1 + 21) = some (.inl (32, fun _ => 0)) := by exact z22
  refine ⟨w22, ?_, ?_, fun q hq => by rw [f22 q (by omega) (by omega), f21 q (by omega) (by omega), f20 q (by omega) (by omega), f19 q (by omega) (by omega), f18 q (by omega) (by omega), f17 q (by omega) (by omega), f16 q (by omega) (by omega), f15 q (by omega) (by omega), f14 q (by omega) (by omega), f13 q (by omega) (by omega), f12 q (by omega) (by omega), f11 q (by omega) (by omega), f10 q (by omega) (by omega), f9 q (by omega) (by omega), f8 q (by omega) (by omega), f7 q (by omega) (by omega), f6 q (by omega) (by omega), f5 q (by omega) (by omega), f4 q (by omega) (by omega), f3 q (by omega) (by omega), f2 q (by omega) (by omega), f1 q (by omega) (by omega)]⟩
  · rw [fX7_init, E1, E2, E3, E4, E5, E6, E7, E8, E9, E10, E11, E12, E13, E14, E15, E16, E17, E18, E19, E20, E21, E22]
  · refine ⟨?_, fun j h1 h2 => ?_⟩
    · rw [a22]; simp only [List.set_cons_zero, List.set_cons_succ, Nat.add_assoc, Nat.reduceAdd]
    · have hj : j = 1 ∨ j = 2 ∨ j = 3 ∨ j = 4 ∨ j = 5 ∨ j = 6 ∨ j = 7 ∨ j = 8 ∨ j = 9 ∨ j = 10 ∨ j = 11 ∨ j = 12 ∨ j = 13 ∨ j = 14 ∨ j = 15 ∨ j = 16 ∨ j = 17 ∨ j = 18 ∨ j = 19 ∨ j = 20 ∨ j = 21 ∨ j = 22 := by omega
      rcases hj with rfl | rfl | rfl | rfl | rfl | rfl | rfl | rfl | rfl | rfl | rfl | rfl | rfl | rfl | rfl | rfl | rfl | rfl | rfl | rfl | rfl | rfl
      · exact y1
      · exact y2
      · exact y3
      · exact y4
      · exact y5
      · exact y6
      · exact y7
      · exact y8
      · exact y9
      · exact y10
      · exact y11
      · exact y12
      · exact y13
      · exact y14
      · exact y15
      · exact y16
      · exact y17
      · exact y18
      · exact y19
      · exact y20
      · exact y21
      · exact y22
theorem X3_init_q {w : Fw} {a : Nat} (h : w a = some (.inr (.inr (3, [.null, .null])))) : ∃ w', fX3_init w (a + 1) a = some (w', a + 1 + 35) ∧ Rt w' a ∧ Out w w' a (a + 36) := by
  obtain ⟨w1, hw1⟩ : ∃ w1, nM w (a + 1) = some w1 := ⟨_, rfl⟩
  have g : ∀ q, w1 q = if q = a + 1 then some (.inr (.inl (1, 33, fun i => if i < 33 then some (a + 1 + 1 + i) else none))) else if a + 1 + 1 ≤ q ∧ q < a + 1 + 1 + 33 then some (.inl (33, fun _ => 0)) else w q := by
    intro q
    unfold nM at hw1
    injection hw1 with hw1
    rw [← hw1]
  have h1 : w1 a = some (.inr (.inr (3, [.null, .null]))) := by rw [g, if_neg (by omega), if_neg (by omega)]; exact h
  have e1 := pF_ok (v := .ref (a + 1)) h1 (show 0 < 2 by decide)
  obtain ⟨w3, E3, a3, z3, f3⟩ := np (w := fup w1 a (.inr (.inr (3, [Value.null, Value.null].set 0 (.ref (a + 1)))))) (z := a + 1 + 34) (k := 1) (v := .ref (a + 1 + 34)) (e := .inl (32, fun _ => 0)) (fup_eq _ _ _) (by omega) (by simp)
  refine ⟨w3, ?_, ⟨fun i => if i < 33 then some (a + 1 + 1 + i) else none, fun _ _ => 0, fun _ => 0, a3, ?_, fun i hi => if_pos hi, fun i hi => ?_, z3⟩, fun q hq => ?_⟩
  · rw [fX3_init, hw1, Option.bind_some, e1, Option.bind_some, E3]
  · rw [f3 _ (by omega) (by omega), fup_ne (by omega), g, if_pos rfl]
  · rw [f3 _ (by omega) (by omega), fup_ne (by omega), g, if_neg (by omega), if_pos (by omega)]
  · rw [f3 q (by omega) (by omega), fup_ne (by omega), g, if_neg (by omega), if_neg (by omega)]
theorem X4_init_q {w : Fw} {a : Nat} (h : w a = some (.inr (.inr (4, [.int 0, .null, .null, .null, .null])))) : ∃ w', fX4_init w (a + 1) a = some (w', a + 1 + 16) ∧ SG w' a 0 (fun _ => 0) (fun _ => 0) [] ∧ Out w w' a (a + 17) := by
  obtain ⟨w1, E1, a1, z1, f1⟩ := np (z := a + 1) (k := 1) (v := .ref (a + 1)) (e := .inl (32, fun _ => 0)) h (by omega) (by simp)
  obtain ⟨w2, E2, a2, z2, f2⟩ := np (z := a + 1 + 1) (k := 2) (v := .ref (a + 1 + 1)) (e := .inl (32, fun _ => 0)) a1 (by omega) (by simp)
  obtain ⟨w3, E3, a3, z3, f3⟩ := nip (t := a + 1 + 2) (t1 := a + 1 + 3) (t2 := a + 10) (k := 3) (F := fX2_init) (P := fun w => RwL w (a + 1 + 2) []) a2 (by simp) (by omega) rfl (by omega) (fun w hw => by
    obtain ⟨w', e, r, o⟩ := X2_init_q hw
    exact ⟨w', _, e, r, o⟩) (fun w w' he hr => hr.frame (fun q q1 q2 => he q q1 (by omega)))
  obtain ⟨w4, E4, a4, z4, f4⟩ := nip (t := a + 1 + 9) (t1 := a + 1 + 10) (t2 := a + 17) (k := 4) (F := fX2_init) (P := fun w => RwL w (a + 1 + 9) []) a3 (by simp) (by omega) rfl (by omega) (fun w hw => by
    obtain ⟨w', e, r, o⟩ := X2_init_q hw
    exact ⟨w', _, e, r, o⟩) (fun w w' he hr => hr.frame (fun q q1 q2 => he q q1 (by omega)))
  refine ⟨w4, ?_, ⟨by omega, fun _ => 0, fun _ => 0, a + 3, a + 10, [], Or.inl ⟨rfl, rfl⟩, ⟨a4, ?_, ?_⟩, fun k hk => by omega, fun k hk => by omega, ?_, z4⟩, fun q hq => ?_⟩
  · rw [fX4_init, E1, E2, E3, E4]
  · rw [f4 _ (by omega) (by omega), f3 _ (by omega) (by omega), f2 _ (by omega) (by omega)]; exact z1
  · rw [f4 _ (by omega) (by omega), f3 _ (by omega) (by omega)]; exact z2
  · exact RwL.frame (w := w3) z3 (fun q q1 q2 => f4 q (by omega) (by omega))
  · rw [f4 q (by omega) (by omega), f3 q (by omega) (by omega), f2 q (by omega) (by omega), f1 q (by omega) (by omega)]
def Bld (w : Fw) (a f : Nat) : Prop := w a = some (.inr (.inr (6, [.ref (a + 1), .null, .null, .null, .null, .int 0, .int 0, .int 0, .int 0, .int 0]))) ∧ (∃ φ : Nat → Option Nat, w (a + 1) = some (.inr (.inl (0, 6, φ))) ∧ ∀ g, g < f → φ g = some (sh a g)) ∧ ∀ g, g < f → SG w (sh a g) 0 (fun _ => 0) (fun _ => 0) []
theorem bld_step {w : Fw} {a f s s1 : Nat} {i : Int32} (h : Bld w a f) (hf : f < 6) (hs : s = sh a f) (hs1 : s1 = s + 1) (hi : i = nI f) : ∃ w' : Fw, (∀ {α : Type} (K : Fw → Option α), ((gR w a 6 0).bind fun r3 => ((nO w s (.inr (.inr (4, [.int 0, .null, .null, .null, .null])))).bind fun w4 => ((fX4_init w4 s1 s).bind fun t5 => ((isO t5.1 s 4).bind fun _ => (aS t5.1 0 r3 i s).bind fun w6 => K w6)))) = K w') ∧ Bld w' a (f + 1) ∧ ∀ q, (q < a ∨ s + 17 ≤ q) → w' q = w q := by
  obtain ⟨h1, ⟨φ, h2, h3⟩, h4⟩ := h
  subst hs1
  subst hi
  have hsd : s = a + 2 + 17 * f := hs
  obtain ⟨w1, e1, r1, o1⟩ := X4_init_q (w := fup w s (.inr (.inr (4, [.int 0, .null, .null, .null, .null])))) (a := s) (fup_eq _ _ _)
  have g1 : w1 a = some (.inr (.inr (6, [.ref (a + 1), .null, .null, .null, .null, .int 0, .int 0, .int 0, .int 0, .int 0]))) := by rw [o1 _ (by omega), fup_ne (by omega)]; exact h1
  have g2 : w1 (a + 1) = some (.inr (.inl (0, 6, φ))) := by rw [o1 _ (by omega), fup_ne (by omega)]; exact h2
  have hin : ¬ (nI f < 0 ∨ 6 ≤ (nI f).toNatClampNeg) := nI_in hf (by decide)
  have ho : isO w1 s 4 = some () := by
    obtain ⟨-, B, I, ra, rb, M', -, hsh, -⟩ := id r1
    exact hsh.o
  have ha : aS w1 0 (a + 1) (nI f) s = some (fup w1 (a + 1) (.inr (.inl (0, 6, va_up φ f (some s))))) := by
    simp only [aS, g2, if_true]
    rw [if_neg hin, nI_clamp (by omega)]
  refine ⟨fup w1 (a + 1) (.inr (.inl (0, 6, va_up φ f (some s)))), fun K => ?_, ⟨by rw [fup_ne (by omega)]; exact g1, ⟨_, fup_eq _ _ _, fun g hg => ?_⟩, fun g hg => ?_⟩, fun q hq => ?_⟩
  · rw [gR_ok h1 rfl, Option.bind_some, nO, Option.bind_some, e1, Option.bind_some]
    dsimp only
    rw [ho, Option.bind_some, ha, Option.bind_some]
  · by_cases hgf : g = f
    · subst hgf; simp [va_up, hs]
    · have := h3 g (by omega)
      simp [va_up, hgf, this]
  · by_cases hgf : g = f
    · subst hgf
      rw [← hs]
      exact r1.frame (fun q q1 q2 => fup_ne (by omega))
    · have hsg : sh a g = a + 2 + 17 * g := rfl
      exact (h4 g (by omega)).frame (fun q q1 q2 => by rw [fup_ne (by omega), o1 q (by omega), fup_ne (by omega)])
  · rw [fup_ne (by omega), o1 q (by omega), fup_ne (by omega)]
set_option maxRecDepth 100000 in
theorem X6_init_q {w : Fw} {a : Nat} (h : w a = some (.inr (.inr (6, [.null, .null, .null, .null, .null, .int 0, .int 0, .int 0, .int 0, .int 0])))) : ∃ w', fX6_init w (a + 1) a = some (w', a + 150) ∧ CW w' a (fun _ => 0) (fun _ _ => 0) (fun _ _ => 0) (fun _ => []) [] 0 (fun _ => 0) 0 0 0 0 0 ∧ Out w w' a (a + 150) := by
  obtain ⟨w1, E1, a1, z1, f1⟩ := np (z := a + 1) (k := 0) (v := .ref (a + 1)) (e := .inr (.inl (0, 6, fun _ => none))) h (by omega) (by simp)
  have b1 : Bld w1 a 0 := ⟨a1, ⟨_, z1, fun g hg => by omega⟩, fun g hg => by omega⟩
  obtain ⟨w2, E2, b2, f2⟩ := bld_step (s := a + 1 + 1) (s1 := a + 1 + 2) (i := 0) b1 (by omega) (by unfold sh; omega) rfl rfl
  obtain ⟨w3, E3, b3, f3⟩ := bld_step (s := a + 1 + 18) (s1 := a + 1 + 19) (i := 1) b2 (by omega) (by unfold sh; omega) rfl rfl
  obtain ⟨w4, E4, b4, f4⟩ := bld_step (s := a + 1 + 35) (s1 := a + 1 + 36) (i := 2) b3 (by omega) (by unfold sh; omega) rfl rfl
  obtain ⟨w5, E5, b5, f5⟩ := bld_step (s := a + 1 + 52) (s1 := a + 1 + 53) (i := 3) b4 (by omega) (by unfold sh; omega) rfl rfl
  obtain ⟨w6, E6, b6, f6⟩ := bld_step (s := a + 1 + 69) (s1 := a + 1 + 70) (i := 4) b5 (by omega) (by unfold sh; omega) rfl rfl
  obtain ⟨w7, E7, b7, f7⟩ := bld_step (s := a + 1 + 86) (s1 := a + 1 + 87) (i := 5) b6 (by omega) (by unfold sh; omega) rfl rfl
  obtain ⟨c1, ⟨φ, c2, c3⟩, c4⟩ := id b7
  obtain ⟨w8, E8, a8, z8, f8⟩ := nip (t := a + 1 + 103) (t1 := a + 1 + 104) (t2 := a + 106) (k := 1) (F := fX5_init) (P := fun w => Tp w (a + 1 + 103) 0 (fun _ => 0)) c1 (by simp) (by omega) rfl (by omega) (fun w hw => by
    obtain ⟨w', e, r, o⟩ := X5_init_q hw
    exact ⟨w', _, e, r, o⟩) (fun w w' he hr => hr.frame (fun q q1 q2 => he q q1 (by omega)))
  obtain ⟨w9, E9, a9, z9, f9⟩ := nip (t := a + 1 + 105) (t1 := a + 1 + 106) (t2 := a + 142) (k := 2) (F := fX3_init) (P := fun w => Rt w (a + 1 + 105)) a8 (by simp) (by omega) rfl (by omega) (fun w hw => by
    obtain ⟨w', e, r, o⟩ := X3_init_q hw
    exact ⟨w', _, e, r, o⟩) (fun w w' he hr => hr.frame (fun q q1 q2 => he q q1 (by omega)))
  obtain ⟨w10, E10, a10, z10, f10⟩ := nip (t := a + 1 + 141) (t1 := a + 1 + 142) (t2 := a + 145) (k := 3) (F := fX0_init) (P := fun w => Ck w (a + 1 + 141) (fun _ => 0) (fun _ => 0)) a9 (by simp) (by omega) rfl (by omega) (fun w hw => by
    obtain ⟨w', e, r, o⟩ := X0_init_q hw
    exact ⟨w', _, e, r, o⟩) (fun w w' he hr => hr.frame (fun q q1 q2 => he q q1 (by omega)))
  obtain ⟨w11, E11, a11, z11, f11⟩ := nip (t := a + 1 + 144) (t1 := a + 1 + 145) (t2 := a + 150) (k := 4) (F := fX1_init) (P := fun w => LgL w (a + 1 + 144) []) a10 (by simp) (by omega) rfl (by omega) (fun w hw => by
    obtain ⟨w', e, r, o⟩ := X1_init_q hw
    exact ⟨w', _, e, r, o⟩) (fun w w' he hr => hr.frame (fun q q1 q2 => he q q1 (by omega)))
  have fx : ∀ q, q ≠ a → q < a + 104 → w11 q = w7 q := fun q q1 q2 => by rw [f11 q q1 (by omega), f10 q q1 (by omega), f9 q q1 (by omega), f8 q q1 (by omega)]
  refine ⟨w11, ?_, ⟨a11, ⟨φ, ?_, c3⟩, fun f hf => ?_, ?_, ?_, ⟨fun _ => 0, fun _ => 0, ?_⟩, z11⟩, fun q hq => ?_⟩
  · rw [fX6_init, E1, E2, E3, E4, E5, E6, E7, E8, E9, E10, E11]
  · rw [fx _ (by omega) (by omega)]; exact c2
  · have hsf : sh a f = a + 2 + 17 * f := rfl
    exact (c4 f hf).frame (fun q q1 q2 => fx q (by omega) (by omega))
  · exact Tp.frame (w := w8) z8 (fun q q1 q2 => by rw [f11 q (by omega) (by omega), f10 q (by omega) (by omega), f9 q (by omega) (by omega)])
  · exact Rt.frame (w := w9) z9 (fun q q1 q2 => by rw [f11 q (by omega) (by omega), f10 q (by omega) (by omega)])
  · exact Ck.frame (w := w10) z10 (fun q q1 q2 => f11 q (by omega) (by omega))
  · rw [f11 q (by omega) (by omega), f10 q (by omega) (by omega), f9 q (by omega) (by omega), f8 q (by omega) (by omega), f7 q (by omega), f6 q (by omega), f5 q (by omega), f4 q (by omega), f3 q (by omega), f2 q (by omega), f1 q (by omega) (by omega)]
theorem start_ok (z : Nat) : StartOK z (Inv z 0) := by
  obtain ⟨w2, e2, c2, o2⟩ := X6_init_q (w := fup (fun _ => none) z (.inr (.inr (6, [.null, .null, .null, .null, .null, .int 0, .int 0, .int 0, .int 0, .int 0])))) (a := z) (fup_eq _ _ _)
  obtain ⟨w4, e4, q4, o4⟩ := X7_init_q (w := fup w2 (z + 150) (.inr (.inr (7, [.null, .null, .null, .int 0, .int 0, .int 0, .int 0, .int 0, .int 0, .int 0, .null, .null, .null, .null, .null, .null, .null, .null, .null, .null, .null, .null, .int 0, .null, .null, .null, .null, .null, .null, .null, .int 0])))) (a := z + 150) (fup_eq _ _ _)
  refine ⟨_, w2, _, w4, rfl, e2, rfl, e4, fun _ => 0, fun _ _ => 0, fun _ _ => 0, fun _ => [], [], 0, fun _ => 0, 0, 0, 0, 0, 0, ?_, ?_, ?_, ?_, by omega, by omega, by omega⟩
  · exact c2.frame (fun q q1 q2 => by rw [o4 q (by omega), fup_ne (by omega)])
  · refine ⟨_, _, q4, rfl, rfl, rfl, rfl, rfl, rfl, rfl, rfl, fun f hf => ⟨Nat.zero_le _, rfl, fun k hk => absurd hk (Nat.not_lt_zero _)⟩, ⟨by simp [flF], by simp [flF, flP], fun i hi => by simp [flF] at hi⟩, ⟨by simp, fun i hi => by simp at hi⟩, by omega, fun k hk => by omega⟩
  · intro f hf
    rfl
  · exact ⟨fun f g k l _ _ hk _ _ => absurd hk (Nat.not_lt_zero _), fun f k _ hk => absurd hk (Nat.not_lt_zero _)⟩
