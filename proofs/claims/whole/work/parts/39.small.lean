/-! ===== day, end, feed, bad ===== -/
theorem Tp.g0 {w : Fw} {a tn : Nat} {τ : Nat → Nat} (h : Tp w a tn τ) : gI w a 5 0 = some (nI tn) := by
  obtain ⟨-, T, h1, -⟩ := h
  exact gI_ok h1 rfl
theorem Tp.o {w : Fw} {a tn : Nat} {τ : Nat → Nat} (h : Tp w a tn τ) : isO w a 5 = some () := by
  obtain ⟨-, T, h1, -⟩ := h
  exact isO_ok h1
theorem X5_size_q {w : Fw} {a tn : Nat} {τ : Nat → Nat} (h : Tp w a tn τ) : fX5_size w a = some (nI tn) := by
  simp [fX5_size, h.g0]
theorem X5_shorten_q {w : Fw} {a tn k : Nat} {τ : Nat → Nat} (h : Tp w a tn τ) (hk : k ≤ tn) : ∃ w', fX5_shorten w a (nI k) = some w' ∧ Tp w' a k τ ∧ Out w w' a (a + 2) := by
  obtain ⟨h0, T, h1, h2, h3⟩ := h
  rw [fX5_shorten, pF_ok h1 (by simp), Option.bind_some]
  refine ⟨_, rfl, ⟨by omega, T, fup_eq _ _ _, by rw [fup_ne (by omega)]; exact h2, fun i hi => h3 i (by omega)⟩, Out.fup (by omega) (by omega)⟩
theorem CW.tape {w w' : Fw} {z : Nat} {n : Nat → Nat} {β ι : Nat → Nat → Nat} {M : Nat → List Fnd} {ℓ : List Lg} {tn tn' : Nat} {τ τ' : Nat → Nat} {chg day ids : Nat} {bad wrk : Int32} (h : CW w z n β ι M ℓ tn τ chg day ids bad wrk) (o : Out w w' (z + 104) (z + 104 + 2)) (hT : Tp w' (z + 104) tn' τ') : CW w' z n β ι M ℓ tn' τ' chg day ids bad wrk := by
  obtain ⟨h1, h2, h3, h4, h5, ⟨F, O, h6⟩, h7⟩ := h
  exact ⟨h1.frame (o z (by omega)), h2.frame (o _ (by omega)), fun f hf => (h3 f hf).frame (fun q q1 q2 => o q (by unfold sh at q1 q2; omega)), hT, h5.frame (fun q q1 q2 => o q (by omega)), ⟨F, O, h6.frame (fun q q1 q2 => o q (by omega))⟩, h7.frame (fun q q1 q2 => o q (by omega))⟩
theorem step_day {z : Nat} : ∀ (j : Nat) (w : Fw), j < 512 → Inv z j w → ∃ (r : Int32) (w1 w2 : Fw), fX6_day w z = some (r, w1) ∧ isO w1 (z + 150) 7 = some () ∧ fX7_day w1 (z + 150) = some (r, w2) ∧ Inv z (j + 1) w2 := by
  intro j w hj hI
  obtain ⟨n, β, ι, M, ℓ, tn, τ, chg, day, ids, bad, wrk, hC, hM, hCo, hU, hc, hid, hday⟩ := id hI
  obtain ⟨hF, hW⟩ := hC.split
  by_cases hd : day = 10000
  · have h1 : ¬ nI day < (10000 : Int32) := by rw [hd]; decide
    have h2 : nI day = (10000 : Int32) := by rw [hd]; rfl
    obtain ⟨S, A, q, s0, s1, -⟩ := id hM
    exact ⟨-1, w, w, by simp [fX6_day, hF.g6, h1], hM.o, by simp [fX7_day, q.g4, s1, h2], hI.mono⟩
  · have h1 : nI day < (10000 : Int32) := nI_lt (b := 10000) (by omega) (by decide)
    have h2 : ¬ nI day = (10000 : Int32) := fun e => hd ((nI_eq (b := 10000) (by omega) (by decide)).mp e)
    obtain ⟨wa, ea, fa, oa⟩ := hF.s6 (day + 1)
    have hMa := hM.frame (w' := wa) (fun q q1 q2 => oa q (by omega))
    obtain ⟨S, A, q, s0, s1, s2, s3, s4, s5, s7, s8, hL, hG, hl, ht, hT⟩ := id hMa
    obtain ⟨wb, eb, qb, ob⟩ := q.p4 (nI (day + 1))
    refine ⟨nI (day + 1), wa, wb, ?_, hMa.o, ?_, n, β, ι, M, ℓ, tn, τ, chg, day + 1, ids, bad, wrk, ?_, ?_, hCo, hU, by omega, by omega, by omega⟩
    · simp only [fX6_day, hF.g6, Option.bind_some, if_pos h1, nI_1, ea, fa.g6]
    · have h4 : upd S 1 (nI (day + 1)) 1 = nI (day + 1) := by simp [upd]
      simp only [fX7_day, q.g4, s1, Option.bind_some, if_neg h2, nI_1, eb, qb.g4, h4]
    · exact CW.frame ⟨fa, hW.frame (fun q q1 q2 => oa q (by omega))⟩ (fun q q1 q2 => ob q (by omega))
    · exact ⟨_, A, qb, by simp [upd, s0], by simp [upd], by simp [upd, s2], by simp [upd, s3], by simp [upd, s4], by simp [upd, s5], by simp [upd, s7], by simp [upd, s8], hL, hG, hl, ht, hT⟩
theorem step_end {z : Nat} : ∀ (j : Nat) (w : Fw) (x1 : Int32), j < 512 → Inv z j w → ∃ (r : Int32) (w1 w2 : Fw), fX6_end w z x1 = some (r, w1) ∧ isO w1 (z + 150) 7 = some () ∧ fX7_end w1 (z + 150) x1 = some (r, w2) ∧ Inv z (j + 1) w2 := by
  intro j w x1 hj hI
  obtain ⟨n, β, ι, M, ℓ, tn, τ, chg, day, ids, bad, wrk, hC, hM, hCo, hU, hc, hid, hday⟩ := id hI
  obtain ⟨hF, hW⟩ := hC.split
  have hT6 := hW.2.2.1
  obtain ⟨S, A, q, s0, s1, s2, s3, s4, s5, s7, s8, hL, hG, hl, ht, hT⟩ := id hM
  by_cases hin : (0 : Int32) ≤ x1 ∧ x1 ≤ nI tn
  · obtain ⟨k, hk, rfl⟩ := nI_of2 (M := nI tn) (n := tn) (nI_toInt (by omega)) (Int32.not_lt.mpr hin.1) hin.2
    obtain ⟨wa, ea, ta, oa⟩ := X5_shorten_q hT6 hk
    have hCa := hC.tape oa ta
    have hMa := hM.frame (w' := wa) (fun q q1 q2 => oa q (by omega))
    obtain ⟨S', A', q', s0', s1', s2', s3', s4', s5', s7', s8', hL', hG', hl', ht', hT'⟩ := id hMa
    obtain ⟨wb, eb, qb, ob⟩ := q'.p30 (nI k)
    refine ⟨1, wa, wb, ?_, hMa.o, ?_, n, β, ι, M, ℓ, k, τ, chg, day, ids, bad, wrk, ?_, ?_, hCo, hU, by omega, by omega, hday⟩
    · rw [fX6_end, if_neg (Int32.not_lt.mpr hin.1)]
      simp only [hF.g1, Option.bind_some, hT6.o, X5_size_q hT6, if_pos hin.2, ea]
      simp [zb]
    · have h9 : fX7_isIn wa (nI k) 0 (nI tn) = some 1 := by rw [X7_isIn_q, decide_eq_true hin]; rfl
      simp only [fX7_end, q'.g30, s8', Option.bind_some, h9, eb]
      simp [zb]
    · exact CW.frame hCa (fun q q1 q2 => ob q (by omega))
    · exact ⟨_, A', qb, by simp [upd, s0'], by simp [upd, s1'], by simp [upd, s2'], by simp [upd, s3'], by simp [upd, s4'], by simp [upd, s5'], by simp [upd, s7'], by simp [upd], hL', hG', hl', by omega, fun i hi => hT' i (by omega)⟩
  · refine ⟨0, w, w, ?_, hM.o, ?_, hI.mono⟩
    · rw [fX6_end]
      by_cases h0 : x1 < 0
      · simp [h0, fX6_end_b15, zb]
      · have h1 : ¬ x1 ≤ nI tn := fun e => hin ⟨Int32.not_lt.mp h0, e⟩
        simp [h0, hF.g1, hT6.o, X5_size_q hT6, h1, fX6_end_b15, zb]
    · have h9 : fX7_isIn w x1 0 (nI tn) = some 0 := by rw [X7_isIn_q, decide_eq_false hin]; rfl
      simp [fX7_end, q.g30, s8, h9, zb]
-- feed
def byt (x : Int32) (k : Nat) : Nat := x.toBitVec.toNat / 2 ^ k % 256
theorem byt_lt (x : Int32) (k : Nat) : byt x k < 256 := Nat.mod_lt _ (by decide)
theorem byU (x : Int32) {k : Nat} (hk : k < 32) : ((Int32.toUInt32 x >>> (Int32.toUInt32 (nI k) &&& Int32.toUInt32 31)).toInt32 &&& 255) = nI (byt x k) := by
  rw [pk_and _ 8 (by decide), pk_ushr x (nI k) k (s_u k hk)]
  rfl
theorem byS (x : Int32) {k : Nat} (hk : k ≤ 24) : ((x >>> (nI k &&& 31)) &&& 255) = nI (byt x k) := by
  rw [← byU x (show k < 32 by omega)]
  apply b_ext
  intro i hi
  rw [b_and, b_and, b_sshr k (by omega) x hi, b_ushr k (by omega), b_255]
  by_cases h8 : i < 8
  · rw [if_pos (by omega)]
  · simp [h8]
def fdN (τ : Nat → Nat) (tn : Nat) (g : Nat → Nat) (q : Nat) : Nat → Nat := fun i => if tn ≤ i ∧ i < tn + q then g (i - tn) else τ i
theorem fdN_step (τ : Nat → Nat) (tn : Nat) (g : Nat → Nat) (q : Nat) : setN (fdN τ tn g q) (tn + q) (g q) = fdN τ tn g (q + 1) := by
  funext i
  unfold setN fdN
  by_cases h : i = tn + q
  · subst h
    rw [if_pos rfl, if_pos (by omega)]
    congr 1
    omega
  · rw [if_neg h]
    by_cases h2 : tn ≤ i ∧ i < tn + q
    · rw [if_pos h2, if_pos (by omega)]
    · rw [if_neg h2, if_neg (by omega)]
theorem fdN_0 (τ : Nat → Nat) (tn : Nat) (g : Nat → Nat) : fdN τ tn g 0 = τ := by
  funext i
  unfold fdN
  rw [if_neg (by omega)]
theorem X5_one {w : Fw} {a tn : Nat} {τ : Nat → Nat} (h : Tp w a tn τ) (ht : tn < 40) (x : Int32) {k : Nat} (hk : k < 32) (fuel : Nat) : ∃ w', fX5_append_L3 (fuel + 1) w a x (nI k) = fX5_append_L3 fuel w' a x (nI k + (-8)) ∧ Tp w' a (tn + 1) (setN τ tn (byt x k)) ∧ Out w w' a (a + 2) := by
  have hg := h.g0
  obtain ⟨h0, T, h1, h2, h3⟩ := h
  have hn : ¬ nI k < 0 := nI_pos (by omega)
  have h40 : ¬ (40 : Int32) ≤ nI tn := nI_ge (b := 40) ht (by decide)
  rw [fX5_append_L3, if_neg hn]
  simp only [hg, Option.bind_some, if_neg h40, gR_ok (k := 1) h1 rfl, byU x hk, sI_ok h2 ht (by decide)]
  have e1 : gI (fup w (a + 1) (.inl (40, upd T tn (nI (byt x k))))) a 5 0 = some (nI tn) := gI_ok (by rw [fup_ne (by omega)]; exact h1) rfl
  have e2 : (fup w (a + 1) (.inl (40, upd T tn (nI (byt x k))))) a = some (.inr (.inr (5, [.int (nI tn), .ref (a + 1)]))) := by rw [fup_ne (by omega)]; exact h1
  simp only [e1, Option.bind_some, pF_ok e2 (show 0 < [Value.int (nI tn), Value.ref (a + 1)].length by simp), nI_1]
  refine ⟨_, rfl, ⟨by omega, upd T tn (nI (byt x k)), fup_eq _ _ _, by rw [fup_ne (by omega), fup_eq], ?_⟩, (Out.fup (by omega) (by omega)).tr (Out.fup (by omega) (by omega))⟩
  intro i hi
  unfold upd setN
  by_cases e : i = tn
  · simp [e, byt_lt]
  · rw [if_neg e, if_neg e]
    exact h3 i (by omega)
theorem X5_append_q {w : Fw} {a tn q : Nat} {τ g : Nat → Nat} (h : Tp w a (tn + q) (fdN τ tn g q)) (ht : tn + q + 4 ≤ 40) (x : Int32) (hg : ∀ r, r < 4 → g (q + r) = byt x (24 - 8 * r)) : ∃ w', fX5_append w a x = some w' ∧ Tp w' a (tn + (q + 4)) (fdN τ tn g (q + 4)) ∧ Out w w' a (a + 2) := by
  rw [fX5_append]
  obtain ⟨w1, e1, t1, o1⟩ := X5_one h (by omega) x (k := 24) (by decide) 999
  have g00 : byt x 24 = g q := (hg 0 (by decide)).symm
  rw [g00, fdN_step] at t1
  obtain ⟨w2, e2, t2, o2⟩ := X5_one t1 (by omega) x (k := 16) (by decide) 998
  rw [← hg 1 (by decide), Nat.add_assoc tn q 1, fdN_step] at t2
  obtain ⟨w3, e3, t3, o3⟩ := X5_one t2 (by omega) x (k := 8) (by decide) 997
  rw [← hg 2 (by decide), Nat.add_assoc tn (q + 1) 1, fdN_step] at t3
  obtain ⟨w4, e4, t4, o4⟩ := X5_one t3 (by omega) x (k := 0) (by decide) 996
  rw [← hg 3 (by decide), Nat.add_assoc tn (q + 1 + 1) 1, fdN_step] at t4
  refine ⟨w4, ?_, t4, ((o1.tr o2).tr o3).tr o4⟩
  have a1 : nI 24 + (-8) = nI 16 := by decide
  have a2 : nI 16 + (-8) = nI 8 := by decide
  have a3 : nI 8 + (-8) = nI 0 := by decide
  rw [a1] at e1
  rw [a2] at e2
  rw [a3] at e3
  have e0 : fX5_append_L3 1000 w a x 24 = fX5_append_L3 1000 w a x (nI 24) := rfl
  rw [e0, e1, e2, e3, e4]
  rw [fX5_append_L3, if_pos (by decide)]
  rfl
def pick5 (x1 x2 x3 x4 x5 : Int32) (p : Nat) : Int32 := if p < 1 then x1 else if p < 2 then x2 else if p < 3 then x3 else if p < 4 then x4 else x5
def gby (x1 x2 x3 x4 x5 : Int32) (k : Nat) : Nat := byt (pick5 x1 x2 x3 x4 x5 (k / 4)) (24 - 8 * (k % 4))
theorem X7_feed_loop {m tn : Nat} {τ : Nat → Nat} {S : Nat → Int32} {A : Nat → Nat → Int32} (ht : tn + 20 ≤ 40) (x1 x2 x3 x4 x5 : Int32) : ∀ (q k fuel : Nat) (w : Fw) (S' : Nat → Int32) (A' : Nat → Nat → Int32), k + q = 20 → q < fuel → Mo w m S' A' → (∀ t, t ≠ 8 → S' t = S t) → S' 8 = nI (tn + k) → (∀ j, j ≠ 20 → A' j = A j) → Nn (tn + k) (A' 20) (fdN τ tn (gby x1 x2 x3 x4 x5) k) 256 → ∃ w1 S1 A1, fX7_feed_L17 fuel w m x1 x2 x3 x4 x5 (nI k) = some (nI (tn + 20), w1) ∧ Mo w1 m S1 A1 ∧ (∀ t, t ≠ 8 → S1 t = S t) ∧ S1 8 = nI (tn + 20) ∧ (∀ j, j ≠ 20 → A1 j = A j) ∧ Nn (tn + 20) (A1 20) (fdN τ tn (gby x1 x2 x3 x4 x5) 20) 256 ∧ Out w w1 m (m + 23)
  | q, k, 0, w, S', A', h1, h2, h, hs, h8, ha, hT => by omega
  | 0, k, fuel + 1, w, S', A', h1, h2, h, hs, h8, ha, hT => by
    have : k = 20 := by omega
    subst this
    rw [fX7_feed_L17, if_pos (by decide)]
    exact ⟨w, S', A', by simp [h.g30, h8], h, hs, h8, ha, hT, Out.rf⟩
  | q + 1, k, fuel + 1, w, S', A', h1, h2, h, hs, h8, ha, hT => by
    have hle : ¬ (20 : Int32) ≤ nI k := nI_ge (b := 20) (by omega) (by decide)
    have c4 : (4 : Int32) ≤ nI k ↔ 4 ≤ k := nI_leI (a := 4) (by decide) (by omega)
    have c8 : (8 : Int32) ≤ nI k ↔ 8 ≤ k := nI_leI (a := 8) (by decide) (by omega)
    have c12 : (12 : Int32) ≤ nI k ↔ 12 ≤ k := nI_leI (a := 12) (by decide) (by omega)
    have c16 : (16 : Int32) ≤ nI k ↔ 16 ≤ k := nI_leI (a := 16) (by decide) (by omega)
    have hsel : fX7_feed_L17 (fuel + 1) w m x1 x2 x3 x4 x5 (nI k) = fX7_feed_b70 (fX7_feed_L17 fuel) w m x1 x2 x3 x4 x5 (nI k) (pick5 x1 x2 x3 x4 x5 (k / 4)) := by
      rw [fX7_feed_L17, if_neg hle]
      simp only [c4, c8, c12, c16, pick5]
      by_cases d1 : 4 ≤ k
      · rw [if_pos d1, if_neg (show ¬ k / 4 < 1 by omega)]
        by_cases d2 : 8 ≤ k
        · rw [if_pos d2, if_neg (show ¬ k / 4 < 2 by omega)]
          by_cases d3 : 12 ≤ k
          · rw [if_pos d3, if_neg (show ¬ k / 4 < 3 by omega)]
            by_cases d4 : 16 ≤ k
            · rw [if_pos d4, if_neg (show ¬ k / 4 < 4 by omega)]
            · rw [if_neg d4, if_pos (show k / 4 < 4 by omega)]
          · rw [if_neg d3, if_pos (show k / 4 < 3 by omega)]
        · rw [if_neg d2, if_pos (show k / 4 < 2 by omega)]
      · rw [if_neg d1, if_pos (show k / 4 < 1 by omega)]
    rw [hsel, fX7_feed_b70]
    have r4 : nI k - nI k / 4 * 4 = nI (k % 4) := pk_rem (by omega) (by decide) (by decide)
    have m8 : (8 : Int32) * nI (k % 4) = nI (8 * (k % 4)) := pk_mul 8 (k % 4)
    have s24 : (24 : Int32) - nI (8 * (k % 4)) = nI (24 - 8 * (k % 4)) := pk_sub (a := 24) (by omega)
    simp only [h.g27, h.g30, h8, Option.bind_some, r4, m8, s24, byS _ (show 24 - 8 * (k % 4) ≤ 24 by omega)]
    obtain ⟨w1, e1, q1, o1⟩ := h.s (j := 20) (i := tn + k) (by omega) (by omega) (show tn + k < 40 by omega) (nI (byt (pick5 x1 x2 x3 x4 x5 (k / 4)) (24 - 8 * (k % 4))))
    simp only [e1, Option.bind_some, q1.g30, h8, nI_1]
    obtain ⟨w2, e2, q2, o2⟩ := q1.p30 (nI (tn + k + 1))
    simp only [e2, Option.bind_some]
    obtain ⟨w3, S3, A3, e3, q3, r1, r2, r3, r5, o3⟩ := X7_feed_loop (S := S) (A := A) (τ := τ) ht x1 x2 x3 x4 x5 q (k + 1) fuel w2 _ _ (by omega) (by omega) q2 (fun t ht => by simp [upd, ht, hs t ht]) (by simp [upd, Nat.add_assoc]) (fun j hj => by rw [vup_ne hj]; exact ha j hj) (by
      rw [vup_eq, ← fdN_step]
      exact fun i hi => by
        unfold upd setN
        by_cases e : i = tn + k
        · rw [if_pos e, if_pos e]; exact ⟨rfl, byt_lt _ _⟩
        · rw [if_neg e, if_neg e]; exact hT i (by omega))
    exact ⟨w3, S3, A3, e3, q3, r1, r2, r3, r5, (o1.tr o2).tr o3⟩
theorem step_feed {z : Nat} : ∀ (j : Nat) (w : Fw) (x1 x2 x3 x4 x5 : Int32), j < 512 → Inv z j w → ∃ (r : Int32) (w1 w2 : Fw), fX6_feed w z x1 x2 x3 x4 x5 = some (r, w1) ∧ isO w1 (z + 150) 7 = some () ∧ fX7_feed w1 (z + 150) x1 x2 x3 x4 x5 = some (r, w2) ∧ Inv z (j + 1) w2 := by
  intro j w x1 x2 x3 x4 x5 hj hI
  obtain ⟨n, β, ι, M, ℓ, tn, τ, chg, day, ids, bad, wrk, hC, hM, hCo, hU, hc, hid, hday⟩ := id hI
  obtain ⟨hF, hW⟩ := hC.split
  have hT6 := hW.2.2.1
  have ht40 := hT6.1
  have hadd : nI tn + 20 = nI (tn + 20) := nI_add tn 20
  have hcmp : nI (tn + 20) ≤ (40 : Int32) ↔ tn + 20 ≤ 40 := nI_leI (b := 40) (by omega) (by decide)
  by_cases hfit : tn + 20 ≤ 40
  · have g0 : Tp w (z + 104) (tn + 0) (fdN τ tn (gby x1 x2 x3 x4 x5) 0) := by rw [fdN_0]; exact hT6
    have hgb : ∀ p r, p < 5 → r < 4 → gby x1 x2 x3 x4 x5 (4 * p + r) = byt (pick5 x1 x2 x3 x4 x5 p) (24 - 8 * r) := fun p r hp hr => by
      unfold gby
      rw [show (4 * p + r) / 4 = p by omega, show (4 * p + r) % 4 = r by omega]
    obtain ⟨wa, ea, ta, oa⟩ := X5_append_q g0 (by omega) x1 (fun r hr => by have := hgb 0 r (by decide) hr; simpa [pick5] using this)
    have fa := hF.out oa (by omega)
    obtain ⟨wb, eb, tb, ob⟩ := X5_append_q ta (by omega) x2 (fun r hr => by have := hgb 1 r (by decide) hr; simpa [pick5] using this)
    have fb := fa.out ob (by omega)
    obtain ⟨wc, ec, tc, oc⟩ := X5_append_q tb (by omega) x3 (fun r hr => by have := hgb 2 r (by decide) hr; simpa [pick5] using this)
    have fc := fb.out oc (by omega)
    obtain ⟨wd, ed, td, od⟩ := X5_append_q tc (by omega) x4 (fun r hr => by have := hgb 3 r (by decide) hr; simpa [pick5] using this)
    have fd := fc.out od (by omega)
    obtain ⟨we, ee, te, oe⟩ := X5_append_q td (by omega) x5 (fun r hr => by have := hgb 4 r (by decide) hr; simpa [pick5] using this)
    have fe := fd.out oe (by omega)
    have te' : Tp we (z + 104) (tn + 20) (fdN τ tn (gby x1 x2 x3 x4 x5) 20) := te
    have hO := (((oa.tr ob).tr oc).tr od).tr oe
    have hCe := hC.tape hO te'
    have hMe := hM.frame (w' := we) (fun q q1 q2 => hO q (by omega))
    obtain ⟨S, A, q, s0, s1, s2, s3, s4, s5, s7, s8, hL, hG, hl, ht, hT⟩ := id hMe
    obtain ⟨wf, Sf, Af, ef, qf, r1, r2, r3, r5, of⟩ := X7_feed_loop (S := S) (A := A) (τ := τ) hfit x1 x2 x3 x4 x5 20 0 1000 we S A (by omega) (by omega) q (fun _ _ => rfl) s8 (fun _ _ => rfl) (by rw [fdN_0]; exact hT)
    rw [nI_0] at ef
    refine ⟨nI (tn + 20), we, wf, ?_, hMe.o, ?_, n, β, ι, M, ℓ, tn + 20, fdN τ tn (gby x1 x2 x3 x4 x5) 20, chg, day, ids, bad, wrk, ?_, ?_, hCo, hU, by omega, by omega, hday⟩
    · simp only [fX6_feed, hF.g1, Option.bind_some, hT6.o, X5_size_q hT6, hadd, if_pos (hcmp.mpr hfit), ea, fa.g1, ta.o, eb, fb.g1, tb.o, ec, fc.g1, tc.o, ed, fd.g1, td.o, ee, fe.g1, te.o, X5_size_q te']
    · simp only [fX7_feed, q.g30, s8, Option.bind_some, hadd, if_pos (hcmp.mpr hfit), ef]
    · exact CW.frame hCe (fun q q1 q2 => of q (by omega))
    · refine ⟨Sf, Af, qf, (r1 0 (by omega)).trans s0, (r1 1 (by omega)).trans s1, (r1 2 (by omega)).trans s2, (r1 3 (by omega)).trans s3, (r1 4 (by omega)).trans s4, (r1 5 (by omega)).trans s5, (r1 7 (by omega)).trans s7, r2, ?_, ?_, ?_, hfit, r5⟩
      · intro g hg
        rw [r3 1 (by omega), r3 2 (by omega), r3 3 (by omega)]
        exact hL g hg
      · refine ⟨hG.1, hG.2.1, fun i hi => ?_⟩
        rw [r3 4 (by omega), r3 5 (by omega), r3 6 (by omega), r3 7 (by omega), r3 8 (by omega), r3 9 (by omega), r3 10 (by omega)]
        exact hG.2.2 i hi
      · refine ⟨hl.1, fun i hi => ?_⟩
        rw [r3 16 (by omega), r3 17 (by omega), r3 18 (by omega), r3 19 (by omega)]
        exact hl.2 i hi
  · obtain ⟨S, A, q, s0, s1, s2, s3, s4, s5, s7, s8, -⟩ := id hM
    have hno : ¬ nI (tn + 20) ≤ (40 : Int32) := fun e => hfit (hcmp.mp e)
    exact ⟨-1, w, w, by simp [fX6_feed, hF.g1, hT6.o, X5_size_q hT6, hadd, hno], hM.o, by simp [fX7_feed, q.g30, s8, hadd, hno], hI.mono⟩
