/-! ===== the reference: all findings anew ===== -/
theorem inn5 {P : Nat → Nat → Bool} {ι : Nat → Nat} {M : List Fnd} {ch : Int32} {k : Nat} (h1 : ∀ r r', r < 5 → r' < 5 → P r k = true → P r' k = true → r = r') : inn P ι M ch k 5 = match srch (fun r => P r k) 5 0 with | some r => [tk M (nI r, nI k, nI (ι k), ch, 0, -1)] | none => [] := by
  cases hs : srch (fun r => P r k) 5 0 with
  | none =>
    have h9 := srch_none hs
    exact inn_none (fun r hr => h9 r (Nat.zero_le _) (by omega))
  | some r =>
    obtain ⟨-, a2, a3, a4⟩ := srch_some hs
    have key : ∀ r', r' ≤ 5 → r < r' → inn P ι M ch k r' = [tk M (nI r, nI k, nI (ι k), ch, 0, -1)] := by
      intro r'
      induction r' with
      | zero => intro _ h; omega
      | succ r' ih =>
        intro h5 hlt
        rw [inn_succ]
        by_cases e : r' = r
        · subst e
          rw [inn_none (fun r'' h'' => a4 r'' (Nat.zero_le _) h''), if_pos a3]
          rfl
        · rw [ih (by omega) (by omega), if_neg (fun hp => e (h1 r' r (by omega) (by omega) hp a3))]
          rfl
    exact key 5 (Nat.le_refl _) (by omega)
section MX
variable {m : Nat} {n : Nat → Nat} {β ι : Nat → Nat → Nat} {H : List Fnd} {ch bad : Int32}
/-- what stays while the findings are made -/
def Kp2 (S S0 : Nat → Int32) (A A0 : Nat → Nat → Int32) : Prop := (∀ t, t ≠ 5 → S t = S0 t) ∧ ∀ j, (j < 4 ∨ 10 < j) → A j = A0 j
theorem Kp2.ML {S S0 : Nat → Int32} {A A0 : Nat → Nat → Int32} (h : Kp2 S S0 A A0) (hL : ML A0 n β ι) : ML A n β ι := by
  intro f hf
  rw [h.2 1 (by omega), h.2 2 (by omega), h.2 3 (by omega)]
  exact hL f hf
theorem Kp2.MH {S S0 : Nat → Int32} {A A0 : Nat → Nat → Int32} (h : Kp2 S S0 A A0) (hH : MH A0 H) : MH A H := by
  unfold _root_.Jvm.Pilot.CFindingHouseLaw_law_r9958_dcbc84.MH
  rw [h.2 11 (by omega), h.2 12 (by omega), h.2 13 (by omega), h.2 14 (by omega), h.2 15 (by omega)]
  exact hH
/-- one finding is laid down -/
theorem X7_lay {w : Fw} {S S0 : Nat → Int32} {A A0 : Nat → Nat → Int32} (h : Mo w m S A) (hk : Kp2 S S0 A A0) (hL : ML A0 n β ι) (hH : MH A0 H) (h6 : S0 6 = nI H.length) {G : List Fnd} {Φ : List Nat} (hS : S 5 = nI G.length) (hg : G.length < 192) (hG : FG A G Φ) {f k r : Nat} (hf : f < 6) (hkn : k < n f) (hr : r < 5) (hb : brk n β (S0 3) f k = some r) (K7 : Fw → Nat → Int32 → Option Fw) (fuel : Nat) : ∃ w' S' A', fX7_finds_L15 K7 (fuel + 1) w m (nI f) (nI k) = fX7_finds_L15 K7 fuel w' m (nI f) (nI (k + 1)) ∧ Mo w' m S' A' ∧ Kp2 S' S0 A' A0 ∧ S' 5 = nI (G.length + 1) ∧ FG A' (G ++ [tk H (nI r, nI k, nI (ι f k), S0 0, 0, -1)]) (Φ ++ [f]) ∧ Out w w' m (m + 23) := by
  have hL' := hk.ML hL
  have hH' := hk.MH hH
  have h3 : S 3 = S0 3 := hk.1 3 (by omega)
  have h0 : S 0 = S0 0 := hk.1 0 (by omega)
  have h6' : S 6 = nI H.length := (hk.1 6 (by omega)).trans h6
  have h32 := (hL f hf).1
  have hle : ¬ nI (n f) ≤ nI k := nI_ge (by omega) (by omega)
  have hi : 32 * f + k < 192 := by omega
  rw [fX7_finds_L15]
  simp only [h.g0, Option.bind_some, X7_many h hL' hf, hle, if_false, h.o, X7_breaks_q h hL' hf hkn, h3, hb, if_neg (plI_ne (show r < 2 ^ 31 by omega)), h.g2, ix32, X7_idAt h hL' hf hkn, h.g10, h.g8, hS]
  simp only [plI, X7_had_q h h6' hH', Option.bind_some]
  obtain ⟨w1, e1, q1, o1⟩ := h.s (j := 4) (i := G.length) (by omega) (by omega) hg (nI r)
  simp only [e1, Option.bind_some, q1.g11, q1.g8, hS]
  obtain ⟨w2, e2, q2, o2⟩ := q1.s (j := 5) (i := G.length) (by omega) (by omega) hg (nI f)
  simp only [e2, Option.bind_some, q2.g12, q2.g8, hS]
  obtain ⟨w3, e3, q3, o3⟩ := q2.s (j := 6) (i := G.length) (by omega) (by omega) hg (nI k)
  have hid : vup (vup (vup A 4 G.length (nI r)) 5 G.length (nI f)) 6 G.length (nI k) 3 (32 * f + k) = nI (ι f k) := by
    simp only [vup]
    exact ((hL' f hf).2.2 k hkn).2.2.1
  simp only [e3, Option.bind_some, q3.g13, q3.g8, q3.g2, hS, q3.l (j := 3) (i := 32 * f + k) (by omega) (by omega) hi, hid]
  obtain ⟨w4, e4, q4, o4⟩ := q3.s (j := 7) (i := G.length) (by omega) (by omega) hg (nI (ι f k))
  simp only [e4, Option.bind_some, q4.g14, q4.g8, hS]
  have o14 := ((o1.tr o2).tr o3).tr o4
  generalize hA4 : vup (vup (vup (vup A 4 G.length (nI r)) 5 G.length (nI f)) 6 G.length (nI k)) 7 G.length (nI (ι f k)) = A4 at q4
  have fin : ∀ (x y z : Int32), tk H (nI r, nI k, nI (ι f k), S0 0, 0, -1) = (nI r, nI k, nI (ι f k), x, y, z) → FG (vup (vup (vup A4 8 G.length x) 9 G.length y) 10 G.length z) (G ++ [tk H (nI r, nI k, nI (ι f k), S0 0, 0, -1)]) (Φ ++ [f]) := by
    intro x y z ht
    refine ⟨by simp; omega, by simp [hG.2.1], fun i hi => ?_⟩
    by_cases hil : i = G.length
    · subst hil
      rw [getD_app_len, ht]
      have hΦ : (Φ ++ [f]).getD G.length 0 = f := by rw [← hG.2.1, getD_app_len]
      rw [hΦ, ← hA4]
      simp [vup, upd]
    · have hi2 : i < G.length := by simp at hi; omega
      rw [getD_app_lt hi2, getD_app_lt (by rw [hG.2.1]; exact hi2), ← hA4]
      obtain ⟨b1, b2, b3, b4, b5, b6, b7⟩ := hG.2.2 i hi2
      simp [vup, upd, hil, b1, b2, b3, b4, b5, b6, b7]
  have kp : ∀ (x y z : Int32), Kp2 (upd S 5 (nI (G.length + 1))) S0 (vup (vup (vup A4 8 G.length x) 9 G.length y) 10 G.length z) A0 := by
    intro x y z
    refine ⟨fun t ht => by simp [upd, ht, hk.1 t ht], fun j hj => ?_⟩
    have n4 : j ≠ 4 := by omega
    have n5 : j ≠ 5 := by omega
    have n6 : j ≠ 6 := by omega
    have n7 : j ≠ 7 := by omega
    have n8 : j ≠ 8 := by omega
    have n9 : j ≠ 9 := by omega
    have n10 : j ≠ 10 := by omega
    rw [← hA4]
    simp only [vup, n4, n5, n6, n7, n8, n9, n10, if_false]
    exact hk.2 j hj
  cases hs : srch (pL H (nI r) (nI (ι f k))) H.length 0 with
  | none =>
    simp only [plI, if_true, q4.g3, h0, Option.bind_some, fX7_finds_b136, fX7_finds_b162, fX7_finds_b188, fX7_finds_b199]
    obtain ⟨w5, e5, q5, o5⟩ := q4.s (j := 8) (i := G.length) (by omega) (by omega) hg (S0 0)
    simp only [e5, Option.bind_some, q5.g15, q5.g8, hS]
    obtain ⟨w6, e6, q6, o6⟩ := q5.s (j := 9) (i := G.length) (by omega) (by omega) hg 0
    simp only [e6, Option.bind_some, q6.g16, q6.g8, hS]
    obtain ⟨w7, e7, q7, o7⟩ := q6.s (j := 10) (i := G.length) (by omega) (by omega) hg (-1)
    simp only [e7, Option.bind_some, q7.g8, hS, nI_1]
    obtain ⟨w8, e8, q8, o8⟩ := q7.p8 (nI (G.length + 1))
    simp only [e8, Option.bind_some]
    exact ⟨w8, _, _, rfl, q8, kp _ _ _, by simp [upd], fin _ _ _ (by simp [tk, hs]), (((o14.tr o5).tr o6).tr o7).tr o8⟩
  | some j =>
    obtain ⟨-, j2, -, -⟩ := srch_some hs
    have hlen := hH.1
    have hj : j < 192 := by omega
    obtain ⟨-, -, c1, c2, c3⟩ := hH'.2 j (by omega)
    simp only [if_neg (plI_ne (show j < 2 ^ 31 by omega)), plI, q4.g19, Option.bind_some, fX7_finds_b136, fX7_finds_b162, fX7_finds_b188, fX7_finds_b199]
    have v13 : A4 13 = A 13 := by rw [← hA4]; simp [vup]
    have v14 : A4 14 = A 14 := by rw [← hA4]; simp [vup]
    have v15 : A4 15 = A 15 := by rw [← hA4]; simp [vup]
    simp only [q4.l (j := 13) (i := j) (by omega) (by omega) hj, v13, c1, Option.bind_some]
    obtain ⟨w5, e5, q5, o5⟩ := q4.s (j := 8) (i := G.length) (by omega) (by omega) hg (H.getD j d0).2.2.2.1
    have u14 : vup A4 8 G.length (H.getD j d0).2.2.2.1 14 j = (H.getD j d0).2.2.2.2.1 := by simp only [vup]; rw [if_neg (by decide), v14]; exact c2
    simp only [e5, Option.bind_some, q5.g15, q5.g8, hS, if_neg (nI_m1 (show j < 2 ^ 31 by omega)), q5.g20, q5.l (j := 14) (i := j) (by omega) (by omega) hj, u14]
    obtain ⟨w6, e6, q6, o6⟩ := q5.s (j := 9) (i := G.length) (by omega) (by omega) hg (H.getD j d0).2.2.2.2.1
    have u15 : vup (vup A4 8 G.length (H.getD j d0).2.2.2.1) 9 G.length (H.getD j d0).2.2.2.2.1 15 j = (H.getD j d0).2.2.2.2.2 := by simp only [vup]; rw [if_neg (by decide), if_neg (by decide), v15]; exact c3
    simp only [e6, Option.bind_some, q6.g16, q6.g8, hS, if_neg (nI_m1 (show j < 2 ^ 31 by omega)), q6.g21, q6.l (j := 15) (i := j) (by omega) (by omega) hj, u15]
    obtain ⟨w7, e7, q7, o7⟩ := q6.s (j := 10) (i := G.length) (by omega) (by omega) hg (H.getD j d0).2.2.2.2.2
    simp only [e7, Option.bind_some, q7.g8, hS, nI_1]
    obtain ⟨w8, e8, q8, o8⟩ := q7.p8 (nI (G.length + 1))
    simp only [e8, Option.bind_some]
    exact ⟨w8, _, _, rfl, q8, kp _ _ _, by simp [upd], fin _ _ _ (by simp [tk, hs]), (((o14.tr o5).tr o6).tr o7).tr o8⟩
theorem X7_line_loop {S0 : Nat → Int32} {A0 : Nat → Nat → Int32} (hL : ML A0 n β ι) (hH : MH A0 H) (h6 : S0 6 = nI H.length) {f : Nat} (hf : f < 6) (K7 : Fw → Nat → Int32 → Option Fw) {G0 : List Fnd} {Φ0 : List Nat} (hG0 : G0.length ≤ 32 * f) : ∀ (q k fuel : Nat) (w : Fw) (S : Nat → Int32) (A : Nat → Nat → Int32), k + q = n f → q < fuel → Mo w m S A → Kp2 S S0 A A0 → S 5 = nI (G0 ++ fre (fun r k => ruB n β f (S0 3) r k) (ι f) H (S0 0) k).length → FG A (G0 ++ fre (fun r k => ruB n β f (S0 3) r k) (ι f) H (S0 0) k) (Φ0 ++ List.replicate (fre (fun r k => ruB n β f (S0 3) r k) (ι f) H (S0 0) k).length f) → ∃ w' S' A', fX7_finds_L15 K7 fuel w m (nI f) (nI k) = K7 w' m (nI (f + 1)) ∧ Mo w' m S' A' ∧ Kp2 S' S0 A' A0 ∧ S' 5 = nI (G0 ++ fre (fun r k => ruB n β f (S0 3) r k) (ι f) H (S0 0) (n f)).length ∧ FG A' (G0 ++ fre (fun r k => ruB n β f (S0 3) r k) (ι f) H (S0 0) (n f)) (Φ0 ++ List.replicate (fre (fun r k => ruB n β f (S0 3) r k) (ι f) H (S0 0) (n f)).length f) ∧ Out w w' m (m + 23)
  | q, k, 0, w, S, A, h1, h2, h, hk, hS, hG => by omega
  | 0, k, fuel + 1, w, S, A, h1, h2, h, hk, hS, hG => by
    have h32 := (hL f hf).1
    have hkn : k = n f := by omega
    rw [hkn] at hS hG ⊢
    have hle : nI (n f) ≤ nI (n f) := nI_le (by omega) (by omega)
    rw [fX7_finds_L15]
    simp only [h.g0, Option.bind_some, X7_many h (hk.ML hL) hf, hle, if_true, nI_1]
    exact ⟨w, S, A, rfl, h, hk, hS, hG, Out.rf⟩
  | q + 1, k, fuel + 1, w, S, A, h1, h2, h, hk, hS, hG => by
    have h32 := (hL f hf).1
    have hfl := fre_le (P := fun r k => ruB n β f (S0 3) r k) (ι := ι f) (M := H) (ch := S0 0) (n := k) (fun k' _ => ruB_one)
    have hi5 := inn5 (P := fun r k => ruB n β f (S0 3) r k) (ι := ι f) (M := H) (ch := S0 0) (k := k) ruB_one
    have hsucc := fre_succ (P := fun r k => ruB n β f (S0 3) r k) (ι := ι f) (M := H) (ch := S0 0) k
    cases hb : brk n β (S0 3) f k with
    | none =>
      have hle : ¬ nI (n f) ≤ nI k := nI_ge (by omega) (by omega)
      have hb' : srch (fun r => ruB n β f (S0 3) r k) 5 0 = none := hb
      rw [hb'] at hi5
      dsimp only at hi5
      rw [hi5, List.append_nil] at hsucc
      have h3 : S 3 = S0 3 := hk.1 3 (by omega)
      have := X7_line_loop hL hH h6 hf K7 hG0 q (k + 1) fuel w S A (by omega) (by omega) h hk (by rw [hsucc]; exact hS) (by rw [hsucc]; exact hG)
      rw [fX7_finds_L15]
      simp only [h.g0, Option.bind_some, X7_many h (hk.ML hL) hf, hle, if_false, h.o, X7_breaks_q h (hk.ML hL) hf (show k < n f by omega), h3, hb, plI, if_true, fX7_finds_b199, nI_1]
      exact this
    | some r =>
      have hb' : srch (fun r => ruB n β f (S0 3) r k) 5 0 = some r := hb
      obtain ⟨-, hr, -, -⟩ := srch_some hb'
      rw [hb'] at hi5
      dsimp only at hi5
      rw [hi5] at hsucc
      obtain ⟨w1, S1, A1, e1, q1, k1, s1, g1, o1⟩ := X7_lay h hk hL hH h6 hS (by rw [List.length_append]; omega) hG hf (show k < n f by omega) (by omega) hb K7 fuel
      rw [e1]
      obtain ⟨w2, S2, A2, e2, q2, k2, s2, g2, o2⟩ := X7_line_loop hL hH h6 hf K7 hG0 (Φ0 := Φ0) q (k + 1) fuel w1 S1 A1 (by omega) (by omega) q1 k1 (by rw [hsucc, s1]; congr 1; simp [List.length_append]; omega) (by
        rw [hsucc, ← List.append_assoc]
        have hrep : Φ0 ++ List.replicate (fre (fun r k => ruB n β f (S0 3) r k) (ι f) H (S0 0) k ++ [tk H (nI r, nI k, nI (ι f k), S0 0, 0, -1)]).length f = Φ0 ++ List.replicate (fre (fun r k => ruB n β f (S0 3) r k) (ι f) H (S0 0) k).length f ++ [f] := by
          rw [List.length_append, List.length_singleton, List.replicate_succ', List.append_assoc]
        rw [hrep]
        exact g1)
      exact ⟨w2, S2, A2, e2, q2, k2, s2, g2, o1.tr o2⟩
end MX
