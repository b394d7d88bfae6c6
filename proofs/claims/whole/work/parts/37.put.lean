/-! ===== put, cut, change ===== -/
theorem vup_eq {A : Nat → Nat → Int32} {j i : Nat} {x : Int32} : vup A j i x j = upd (A j) i x := if_pos rfl
theorem vup_ne {A : Nat → Nat → Int32} {j j' i : Nat} {x : Int32} (h : j' ≠ j) : vup A j i x j' = A j' := if_neg h
theorem X6_isFile_in (w : Fw) {f : Nat} (hf : f < 6) : fX6_isFile w (nI f) = some 1 := by
  have h1 : ¬ nI f < 0 := nI_pos (by omega)
  have h2 : ¬ (6 : Int32) ≤ nI f := nI_ge (b := 6) hf (by decide)
  simp [fX6_isFile, h1, h2, fX6_isFile_b15, zb]
theorem X7_isFile_in (w : Fw) {f : Nat} (hf : f < 6) : fX7_isFile w (nI f) = some 1 := by
  have h1 : (0 : Int32) ≤ nI f := nI_pos' (by omega)
  have h2 : nI f ≤ (5 : Int32) := nI_le (b := 5) (by omega) (by decide)
  rw [X7_isFile_q, decide_eq_true ⟨h1, h2⟩]; rfl
theorem isFile_out (w : Fw) {x : Int32} (h : x < 0 ∨ nI 6 ≤ x) : fX6_isFile w x = some 0 ∧ fX7_isFile w x = some 0 := by
  rcases h with h | h
  · have h' : ¬ (0 : Int32) ≤ x := Int32.not_le.mpr h
    exact ⟨by simp [fX6_isFile, h, fX6_isFile_b14, fX6_isFile_b15, zb], by rw [X7_isFile_q, decide_eq_false (fun e => h' e.1)]; rfl⟩
  · have h2 : (6 : Int32) ≤ x := h
    have h1 : ¬ x < 0 := fun e => by
      have := Int32.lt_of_lt_of_le e (Int32.le_trans (by decide : (0 : Int32) ≤ 6) h2)
      exact absurd this (Int32.lt_irrefl)
    have h3 : ¬ x ≤ (5 : Int32) := fun e => absurd (Int32.le_trans h2 e) (by decide)
    exact ⟨by simp [fX6_isFile, h1, h2, fX6_isFile_b14, fX6_isFile_b15, zb], by rw [X7_isFile_q, decide_eq_false (fun e => h3 e.2)]; rfl⟩
theorem isByte_in (w : Fw) {v : Nat} (hv : v < 256) : fX6_isByte w (nI v) = some 1 ∧ fX7_isByte w (nI v) = some 1 := by
  have h1 : ¬ nI v < 0 := nI_pos (by omega)
  have h2 : ¬ (255 : Int32) < nI v := nI_nlt (a := 255) (by omega) (by decide)
  have h3 : (0 : Int32) ≤ nI v := nI_pos' (by omega)
  have h4 : nI v ≤ (255 : Int32) := nI_le (b := 255) (by omega) (by decide)
  exact ⟨by simp [fX6_isByte, h1, h2, fX6_isByte_b16, zb], by rw [X7_isByte_q, decide_eq_true ⟨h3, h4⟩]; rfl⟩
theorem isByte_out (w : Fw) {x : Int32} (h : x < 0 ∨ nI 256 ≤ x) : fX6_isByte w x = some 0 ∧ fX7_isByte w x = some 0 := by
  rcases h with h | h
  · have h' : ¬ (0 : Int32) ≤ x := Int32.not_le.mpr h
    exact ⟨by simp [fX6_isByte, h, fX6_isByte_b15, fX6_isByte_b16, zb], by rw [X7_isByte_q, decide_eq_false (fun e => h' e.1)]; rfl⟩
  · have h2 : (256 : Int32) ≤ x := h
    have h1 : ¬ x < 0 := fun e => absurd (Int32.lt_of_lt_of_le e (Int32.le_trans (by decide : (0 : Int32) ≤ 256) h2)) (Int32.lt_irrefl)
    have h4 : ¬ x ≤ (255 : Int32) := fun e => absurd (Int32.le_trans h2 e) (by decide)
    have h3 : (255 : Int32) < x := Int32.not_le.mp h4
    exact ⟨by simp [fX6_isByte, h1, h3, fX6_isByte_b15, fX6_isByte_b16, zb], by rw [X7_isByte_q, decide_eq_false (fun e => h4 e.2)]; rfl⟩
theorem CW.split {w : Fw} {z : Nat} {n : Nat → Nat} {β ι : Nat → Nat → Nat} {M : Nat → List Fnd} {ℓ : List Lg} {tn : Nat} {τ : Nat → Nat} {chg day ids : Nat} {bad wrk : Int32} (h : CW w z n β ι M ℓ tn τ chg day ids bad wrk) : FHo w z chg day ids bad wrk ∧ CW0 w z n β ι M ℓ tn τ := h
theorem CW0.file {w w' : Fw} {z : Nat} {n : Nat → Nat} {β ι : Nat → Nat → Nat} {M : Nat → List Fnd} {ℓ : List Lg} {tn : Nat} {τ : Nat → Nat} {f n1 : Nat} {b1 i1 : Nat → Nat} (h : CW0 w z n β ι M ℓ tn τ) (hf : f < 6) (hS : SG w' (sh z f) n1 b1 i1 (M f)) (o : Out w w' (sh z f) (sh z f + 17)) : CW0 w' z (setF n f n1) (setF β f b1) (setF ι f i1) M ℓ tn τ := by
  obtain ⟨h2, h3, h4, h5, ⟨F, O, h6⟩, h7⟩ := h
  refine ⟨h2.frame (o _ (by unfold sh; omega)), fun g hg => ?_, h4.frame (fun q q1 q2 => o q (by unfold sh; omega)), h5.frame (fun q q1 q2 => o q (by unfold sh; omega)), ⟨F, O, h6.frame (fun q q1 q2 => o q (by unfold sh; omega))⟩, h7.frame (fun q q1 q2 => o q (by unfold sh; omega))⟩
  by_cases hgf : g = f
  · subst hgf
    rw [setF_eq, setF_eq, setF_eq]
    exact hS
  · rw [setF_ne hgf, setF_ne hgf, setF_ne hgf]
    exact (h3 g hg).frame (fun q q1 q2 => o q (by unfold sh at q1 q2 ⊢; omega))
theorem FHo.out {w w' : Fw} {z chg day ids : Nat} {bad wrk : Int32} {lo hi : Nat} (h : FHo w z chg day ids bad wrk) (o : Out w w' lo hi) (hz : z < lo) : FHo w' z chg day ids bad wrk := h.frame (o z (Or.inl hz))
theorem setF_other {n : Nat → Nat} {β ι : Nat → Nat → Nat} {f n1 : Nat} {b1 i1 : Nat → Nat} : ∀ g, g ≠ f → setF n f n1 g = n g ∧ setF β f b1 g = β g ∧ setF ι f i1 g = ι g := fun g hg => ⟨setF_ne hg, setF_ne hg, setF_ne hg⟩
theorem Inv.mono {z j : Nat} {w : Fw} (h : Inv z j w) : Inv z (j + 1) w := by
  obtain ⟨n, β, ι, M, ℓ, tn, τ, chg, day, ids, bad, wrk, h1, h2, h3, h4, h5, h6, h7⟩ := h
  exact ⟨n, β, ι, M, ℓ, tn, τ, chg, day, ids, bad, wrk, h1, h2, h3, h4, by omega, by omega, h7⟩
theorem MW.o {w : Fw} {m : Nat} {n : Nat → Nat} {β ι : Nat → Nat → Nat} {M : Nat → List Fnd} {ℓ : List Lg} {tn : Nat} {τ : Nat → Nat} {chg day ids : Nat} {bad wrk : Int32} (h : MW w m n β ι M ℓ tn τ chg day ids bad wrk) : isO w m 7 = some () := by
  obtain ⟨S, A, q, -⟩ := h
  exact q.o
theorem MW.many {w : Fw} {m : Nat} {n : Nat → Nat} {β ι : Nat → Nat → Nat} {M : Nat → List Fnd} {ℓ : List Lg} {tn : Nat} {τ : Nat → Nat} {chg day ids : Nat} {bad wrk : Int32} (h : MW w m n β ι M ℓ tn τ chg day ids bad wrk) {f : Nat} (hf : f < 6) : gR w m 7 0 = some (m + 1) ∧ lI w (m + 1) (nI f) = some (nI (n f)) := by
  obtain ⟨S, A, q, -, -, -, -, -, -, -, -, hL, -⟩ := h
  exact ⟨q.g0, X7_many q hL hf⟩
-- put, the reference
theorem X7_put_loop {m f nf t : Nat} {S : Nat → Int32} {A : Nat → Nat → Int32} (hf : f < 6) (ht : t ≤ nf) (hn : nf < 32) (hm : A 1 f = nI nf) (v before : Int32) : ∀ (q k fuel : Nat) (w : Fw) (A' : Nat → Nat → Int32), t + q = k → k ≤ nf → q < fuel → Mo w m S A' → (∀ j, j ≠ 2 → j ≠ 3 → A' j = A j) → A' 2 = insF (A 2) 0 (32 * f + k) (32 * f + nf) → A' 3 = insF (A 3) 0 (32 * f + k) (32 * f + nf) → ∃ w1 A1 S1, fX7_put_L60 fuel w m (nI f) (nI t) v before (nI k) = ((fX7_ends w1 m (nI f) before).bind fun w11 => ((gI w11 m 7 5).bind fun v12 => some ((v12 - 1), w11))) ∧ Mo w1 m S1 A1 ∧ (∀ s, s ≠ 2 → S1 s = S s) ∧ S1 2 = S 2 + 1 ∧ (∀ j, j ≠ 1 → j ≠ 2 → j ≠ 3 → A1 j = A j) ∧ A1 1 = upd (A 1) f (nI (nf + 1)) ∧ A1 2 = upd (insF (A 2) 0 (32 * f + t) (32 * f + nf)) (32 * f + t) v ∧ A1 3 = upd (insF (A 3) 0 (32 * f + t) (32 * f + nf)) (32 * f + t) (S 2) ∧ Out w w1 m (m + 23)
  | q, k, 0, w, A', h1, h2, h3, h, ha, h2', h3' => by omega
  | 0, k, fuel + 1, w, A', h1, h2, h3, h, ha, h2', h3' => by
    have : k = t := by omega
    subst this
    have hi : 32 * f + k < 192 := by omega
    rw [fX7_put_L60, if_pos (nI_le (Nat.le_refl _) (by omega))]
    simp only [h.g1, Option.bind_some, ix32]
    obtain ⟨w1, e1, q1, o1⟩ := h.s (j := 2) (i := 32 * f + k) (by omega) (by omega) hi v
    simp only [e1, Option.bind_some, q1.g2, q1.g5]
    obtain ⟨w2, e2, q2, o2⟩ := q1.s (j := 3) (i := 32 * f + k) (by omega) (by omega) hi (S 2)
    simp only [e2, Option.bind_some, q2.g5]
    obtain ⟨w3, e3, q3, o3⟩ := q2.p5 (S 2 + 1)
    have hm3 : vup (vup A' 2 (32 * f + k) v) 3 (32 * f + k) (S 2) 1 f = nI nf := by
      simp only [vup]
      rw [if_neg (by decide), if_neg (by decide), ha 1 (by decide) (by decide)]
      exact hm
    simp only [e3, Option.bind_some, q3.g0, q3.l (j := 1) (i := f) (by omega) (by omega) hf, hm3, nI_1]
    obtain ⟨w4, e4, q4, o4⟩ := q3.s (j := 1) (i := f) (by omega) (by omega) hf (nI (nf + 1))
    simp only [e4, Option.bind_some, q4.o]
    refine ⟨w4, _, _, rfl, q4, fun s hs => by simp [upd, hs], by simp [upd], fun j j1 j2 j3 => ?_, ?_, ?_, ?_, ((o1.tr o2).tr o3).tr o4⟩
    · simp only [vup, j1, j2, j3, if_false]; exact ha j j2 j3
    · simp only [vup, if_true]; rw [if_neg (by decide), if_neg (by decide), ha 1 (by decide) (by decide)]
    · rw [vup_ne (by decide), vup_ne (by decide), vup_eq, h2']
    · rw [vup_ne (by decide), vup_eq, vup_ne (by decide), h3']
  | q + 1, k, fuel + 1, w, A', h1, h2, h3, h, ha, h2', h3' => by
    obtain ⟨k', rfl⟩ : ∃ k', k = k' + 1 := ⟨k - 1, by omega⟩
    have hle : ¬ nI (k' + 1) ≤ nI t := nI_ge (by omega) (by omega)
    have hi : 32 * f + k' < 192 := by omega
    have hi1 : 32 * f + (k' + 1) < 192 := by omega
    have hp : nI (32 * f + (k' + 1)) - 1 = nI (32 * f + k') := nI_pred (32 * f + k')
    rw [fX7_put_L60, if_neg hle]
    simp only [h.g1, Option.bind_some, ix32, hp, h.l (j := 2) (i := 32 * f + k') (by omega) (by omega) hi]
    obtain ⟨w1, e1, q1, o1⟩ := h.s (j := 2) (i := 32 * f + (k' + 1)) (by omega) (by omega) hi1 (A' 2 (32 * f + k'))
    have v3 : vup A' 2 (32 * f + (k' + 1)) (A' 2 (32 * f + k')) 3 = A' 3 := by simp [vup]
    simp only [e1, Option.bind_some, q1.g2, q1.l (j := 3) (i := 32 * f + k') (by omega) (by omega) hi, v3]
    obtain ⟨w2, e2, q2, o2⟩ := q1.s (j := 3) (i := 32 * f + (k' + 1)) (by omega) (by omega) hi1 (A' 3 (32 * f + k'))
    simp only [e2, Option.bind_some, pk_m1]
    obtain ⟨w3, A3, S3, e3, q3, r1, r2, r3, r4, r5, r6, o3⟩ := X7_put_loop hf ht hn hm v before q k' fuel w2 _ (by omega) (by omega) (by omega) q2 (fun j j2 j3 => by simp only [vup, j2, j3, if_false]; exact ha j j2 j3) (by
      rw [vup_ne (by decide), vup_eq, h2']
      exact insF_step (k := 32 * f + k') (by omega)) (by
      rw [vup_eq, vup_ne (by decide), h3']
      exact insF_step (k := 32 * f + k') (by omega))
    exact ⟨w3, A3, S3, e3, q3, r1, r2, r3, r4, r5, r6, (o1.tr o2).tr o3⟩
theorem ML_put {A A1 : Nat → Nat → Int32} {n : Nat → Nat} {β ι : Nat → Nat → Nat} {f t v ids : Nat} (hL : ML A n β ι) (hf : f < 6) (ht : t ≤ n f) (hn : n f < 32) (hv : v < 256) (hi : ids < 2 ^ 30) (h1 : A1 1 = upd (A 1) f (nI (n f + 1))) (h2 : A1 2 = upd (insF (A 2) 0 (32 * f + t) (32 * f + n f)) (32 * f + t) (nI v)) (h3 : A1 3 = upd (insF (A 3) 0 (32 * f + t) (32 * f + n f)) (32 * f + t) (nI ids)) : ML A1 (setF n f (n f + 1)) (setF β f (insN (β f) t v)) (setF ι f (insN (ι f) t ids)) := by
  intro g hg
  by_cases hgf : g = f
  · subst hgf
    rw [setF_eq, setF_eq, setF_eq]
    refine ⟨by omega, by rw [h1]; simp [upd], fun k hk => ?_⟩
    rw [h2, h3]
    unfold upd insF insN
    by_cases e : k = t
    · subst e; simp [hv, hi]
    · have e' : ¬ 32 * g + k = 32 * g + t := by omega
      by_cases lt : k < t
      · simp only [e', if_false, lt, if_true]
        rw [if_neg (by omega), if_neg (by omega)]
        exact (hL g hg).2.2 k (by omega)
      · simp only [e', e, if_false, lt]
        rw [if_pos (by omega), if_pos (by omega), show 32 * g + k - 1 = 32 * g + (k - 1) by omega]
        exact (hL g hg).2.2 (k - 1) (by omega)
  · rw [setF_ne hgf, setF_ne hgf, setF_ne hgf]
    obtain ⟨b1, b2, b3⟩ := hL g hg
    refine ⟨b1, by rw [h1]; simp [upd, hgf, b2], fun k hk => ?_⟩
    rw [h2, h3]
    unfold upd insF
    rw [if_neg (by omega), if_neg (by omega), if_neg (by omega), if_neg (by omega)]
    exact b3 k hk
theorem Uniq_put {n : Nat → Nat} {ι : Nat → Nat → Nat} {f t ids : Nat} (h : Uniq n ι ids) (hf : f < 6) (ht : t ≤ n f) : Uniq (setF n f (n f + 1)) (setF ι f (insN (ι f) t ids)) (ids + 1) ∧ Stay n ι ids (setF n f (n f + 1)) (setF ι f (insN (ι f) t ids)) := by
  have key : ∀ g k, g < 6 → k < setF n f (n f + 1) g → (g = f ∧ k = t ∧ setF ι f (insN (ι f) t ids) g k = ids) ∨ ∃ k', k' < n g ∧ setF ι f (insN (ι f) t ids) g k = ι g k' ∧ (g = f → k ≠ t ∧ (k < t → k' = k) ∧ (t < k → k' + 1 = k)) ∧ (g ≠ f → k' = k) := by
    intro g k hg hk
    by_cases hgf : g = f
    · subst hgf
      rw [setF_eq] at hk ⊢
      unfold insN
      by_cases e : k = t
      · subst e; exact Or.inl ⟨rfl, rfl, by simp⟩
      · by_cases lt : k < t
        · exact Or.inr ⟨k, by omega, by simp [lt], fun _ => ⟨e, fun _ => rfl, fun h => by omega⟩, fun h => absurd rfl h⟩
        · exact Or.inr ⟨k - 1, by omega, by simp [lt, e], fun _ => ⟨e, fun h => by omega, fun h => by omega⟩, fun h => absurd rfl h⟩
    · rw [setF_ne hgf] at hk ⊢
      exact Or.inr ⟨k, hk, rfl, fun h => absurd h hgf, fun _ => rfl⟩
  refine ⟨⟨fun f1 f2 k l hf1 hf2 hk hl e => ?_, fun g k hg hk => ?_⟩, fun g l hg hl => ?_⟩
  · rcases key f1 k hf1 hk with ⟨a1, a2, a3⟩ | ⟨k', a1, a2, a3, a4⟩ <;> rcases key f2 l hf2 hl with ⟨b1, b2, b3⟩ | ⟨l', b1, b2, b3, b4⟩
    · exact ⟨a1.trans b1.symm, a2.trans b2.symm⟩
    · have := h.2 f2 l' hf2 b1; omega
    · have := h.2 f1 k' hf1 a1; omega
    · obtain ⟨c1, c2⟩ := h.1 f1 f2 k' l' hf1 hf2 a1 b1 (a2.symm.trans (e.trans b2))
      subst c1
      refine ⟨rfl, ?_⟩
      by_cases hff : f1 = f
      · have p := a3 hff
        have q := b3 hff
        have p1 : k < t ∨ t < k := by omega
        have q1 : l < t ∨ t < l := by omega
        rcases p1 with p1 | p1 <;> rcases q1 with q1 | q1
        · have := p.2.1 p1; have := q.2.1 q1; omega
        · have := p.2.1 p1; have := q.2.2 q1; omega
        · have := p.2.2 p1; have := q.2.1 q1; omega
        · have := p.2.2 p1; have := q.2.2 q1; omega
      · have := a4 hff; have := b4 hff; omega
  · rcases key g k hg hk with ⟨a1, a2, a3⟩ | ⟨k', a1, a2, a3, a4⟩
    · omega
    · have := h.2 g k' hg a1; omega
  · rcases key g l hg hl with ⟨a1, a2, a3⟩ | ⟨k', a1, a2, a3, a4⟩
    · exact Or.inr (by omega)
    · exact Or.inl ⟨k', a1, a2⟩
theorem m1_ret : (-1 : Int32) = -1 := rfl
theorem step_put {z : Nat} : ∀ (j : Nat) (w : Fw) (x1 x2 x3 : Int32), j < 512 → Inv z j w → ∃ (r : Int32) (w1 w2 : Fw), fX6_put w z x1 x2 x3 = some (r, w1) ∧ isO w1 (z + 150) 7 = some () ∧ fX7_put w1 (z + 150) x1 x2 x3 = some (r, w2) ∧ Inv z (j + 1) w2 := by
  intro j w x1 x2 x3 hj hI
  obtain ⟨n, β, ι, M, ℓ, tn, τ, chg, day, ids, bad, wrk, hC, hM, hCo, hU, hc, hid, hday⟩ := id hI
  have refuse : fX6_put w z x1 x2 x3 = some (-1, w) → fX7_put w (z + 150) x1 x2 x3 = some (-1, w) → ∃ (r : Int32) (w1 w2 : Fw), fX6_put w z x1 x2 x3 = some (r, w1) ∧ isO w1 (z + 150) 7 = some () ∧ fX7_put w1 (z + 150) x1 x2 x3 = some (r, w2) ∧ Inv z (j + 1) w2 := fun h1 h2 => ⟨-1, w, w, h1, hM.o, h2, hI.mono⟩
  rcases pk_ix x1 (n := 6) (by decide) with h1 | h1 | ⟨f, hf, rfl⟩
  · obtain ⟨a, b⟩ := isFile_out w (Or.inl h1)
    exact refuse (by simp [fX6_put, a, fX6_put_b27]) (by simp [fX7_put, b, fX7_put_b39])
  · obtain ⟨a, b⟩ := isFile_out w (Or.inr h1)
    exact refuse (by simp [fX6_put, a, fX6_put_b27]) (by simp [fX7_put, b, fX7_put_b39])
  · obtain ⟨hF, hW⟩ := hC.split
    obtain ⟨hn, B, I, ra, rb, M', hab, hsh, hβ, hι, hR, hR'⟩ := hW.2.1 f hf
    have hr := hW.1.at hf
    obtain ⟨mg, mm⟩ := hM.many hf
    have i6 := X6_isFile_in w hf
    have i7 := X7_isFile_in w hf
    rcases pk_ix x3 (n := 256) (by decide) with h3 | h3 | ⟨v, hv, rfl⟩
    · obtain ⟨a, b⟩ := isByte_out w (Or.inl h3)
      exact refuse (by simp [fX6_put, i6, a, fX6_put_b27]) (by simp only [fX7_put, i7, mg, mm, b, Option.bind_some, X7_isIn_q, fX7_put_b39]; by_cases q : (0 : Int32) ≤ x2 ∧ x2 ≤ nI (n f) <;> simp [q, bz])
    · obtain ⟨a, b⟩ := isByte_out w (Or.inr h3)
      exact refuse (by simp [fX6_put, i6, a, fX6_put_b27]) (by simp only [fX7_put, i7, mg, mm, b, Option.bind_some, X7_isIn_q, fX7_put_b39]; by_cases q : (0 : Int32) ≤ x2 ∧ x2 ≤ nI (n f) <;> simp [q, bz])
    · obtain ⟨y6, y7⟩ := isByte_in w hv
      have tl := X4_takesLine_q hsh hn x2
      by_cases ht : (0 : Int32) ≤ x2 ∧ x2 ≤ nI (n f)
      · by_cases hfull : n f < 32
        · -- it is done
          obtain ⟨t, htn, rfl⟩ := nI_of2 (M := nI (n f)) (n := n f) (nI_toInt (by omega)) (Int32.not_lt.mpr ht.1) ht.2
          have tl1 : fX4_takesLine w (sh z f) (nI t) = some 1 := by rw [tl, decide_eq_true ⟨ht.1, ht.2, hfull⟩]; rfl
          have n1 := X4_numbersOf_q hsh hβ hn (kd := 1) (by decide)
          rw [show nI 1 = (1 : Int32) from rfl] at n1
          obtain ⟨wa, ea, fa, oa⟩ := hF.s7 (ids + 1)
          have hsha := hsh.frame (w' := wa) (fun q q1 q2 => oa q (by unfold sh at q1; omega))
          have hsaa := hW.1.frame (w' := wa) (oa _ (by omega))
          obtain ⟨wb, eb, sb, ob⟩ := X4_insert_q hsha htn hfull (nI v) (nI ids)
          have hWa := hW.frame (w' := wa) (fun q q1 q2 => oa q (by omega))
          obtain ⟨-, Ba, Ia, raa, rba, Ma, haba, -, -, -, hRa, hRa'⟩ := hWa.2.1 f hf
          have hSG : SG wb (sh z f) (n f + 1) (insN (β f) t v) (insN (ι f) t ids) (M f) := by
            refine ⟨by omega, _, _, ra, rb, M', hab, sb, insN_ok hβ htn hv, insN_ok hι htn (by omega), ?_, ?_⟩
            · exact (hR.frame (w' := wa) (fun q q1 q2 => oa q (by unfold sh at *; omega))).frame (fun q q1 q2 => ob q (by omega))
            · exact (hR'.frame (w' := wa) (fun q q1 q2 => oa q (by unfold sh at *; omega))).frame (fun q q1 q2 => ob q (by omega))
          have hWb := hWa.file hf hSG (ob.wide (by omega) (by omega))
          have fb := fa.out ob (by unfold sh; omega)
          obtain ⟨wc, ec, fc, wc0, oc⟩ := X6_settle_q hf (nmsN (β f) 1 (n f)) fb hWb
          have e6 : fX6_put w z (nI f) (nI t) (nI v) = some (nI ids, wc) := by
            rw [fX6_put]
            simp only [i6, y6, Option.bind_some, hF.g0, hr, hsh.o, tl1, n1, hF.g7, nI_1, ea, fa.g0, hsaa.at hf, hsha.o, eb, fb.o, ec]
            simp
          have hOc : Out w wc z (z + 150) := ((oa.wide (by omega) (by omega)).tr (ob.wide (by unfold sh; omega) (by unfold sh; omega))).tr oc
          have hMc := hM.frame (w' := wc) (fun q q1 q2 => hOc q (by omega))
          obtain ⟨U1, U2⟩ := Uniq_put (t := t) hU hf htn
          -- the reference
          obtain ⟨wd, S, A, ed, qd, s0, s1, s2, s3, s6, s7, s8, hL, hH, hl, htl, hT, od⟩ := X7_begun hMc
          obtain ⟨we, A1, S1, ee, qe, r1, r2, r3, r4, r5, r6, oe⟩ := X7_put_loop (S := S) (A := A) hf htn hfull (hL f hf).2.1 (nI v) (nmsN (β f) 1 (n f)) (n f - t) (n f) 1000 wd A (by omega) (by omega) (by omega) qd (fun _ _ _ => rfl) insF_top.symm insF_top.symm
          rw [s2] at r2 r6
          have hL1 := ML_put (v := v) (ids := ids) hL hf htn hfull hv (by omega) r4 r5 r6
          obtain ⟨wf, ef, mf, of⟩ := X7_settled (n0 := n) (β0 := β) (ι0 := ι) (chg := chg) (ids0 := ids) (ids := ids + 1) (day := day) (tn := tn) (τ := τ) (bad := bad) (M := M) (ℓ := ℓ) hf qe ((r1 0 (by omega)).trans s0) ((r1 1 (by omega)).trans s1) (by rw [r2, nI_1]) ((r1 3 (by omega)).trans s3) ((r1 6 (by omega)).trans s6) ((r1 7 (by omega)).trans s7) ((r1 8 (by omega)).trans s8) hL1 (by
            refine ⟨hH.1, fun i hi => ?_⟩
            rw [r3 11 (by omega) (by omega) (by omega), r3 12 (by omega) (by omega) (by omega), r3 13 (by omega) (by omega) (by omega), r3 14 (by omega) (by omega) (by omega), r3 15 (by omega) (by omega) (by omega)]
            exact hH.2 i hi) (by
            refine ⟨hl.1, fun i hi => ?_⟩
            rw [r3 16 (by omega) (by omega) (by omega), r3 17 (by omega) (by omega) (by omega), r3 18 (by omega) (by omega) (by omega), r3 19 (by omega) (by omega) (by omega)]
            exact hl.2 i hi) htl (by rw [r3 20 (by omega) (by omega) (by omega)]; exact hT) hCo hU U1 (by omega) (by omega) U2 setF_other
          have hids : gI wf (z + 150) 7 5 = some (nI (ids + 1)) := by
            obtain ⟨Sf, Af, qf, -, -, t2, -⟩ := id mf
            rw [qf.g5, t2]
          have e7 : fX7_put wc (z + 150) (nI f) (nI t) (nI v) = some (nI ids, wf) := by
            obtain ⟨mgc, mmc⟩ := hMc.many hf
            have hin : fX7_isIn wc (nI t) 0 (nI (n f)) = some 1 := by rw [X7_isIn_q, decide_eq_true ht]; rfl
            have hn32 : ¬ nI (n f) = (32 : Int32) := fun e => by have := (nI_eq (b := 32) (by omega) (by decide)).mp e; omega
            rw [fX7_put]
            simp only [X7_isFile_in wc hf, (isByte_in wc hv).2, Option.bind_some, mgc, mmc, hin, if_neg hn32, hMc.o, ed, qd.o, X7_defs_q qd hL hf, qd.g0, X7_many qd hL hf]
            rw [if_neg (by decide), if_neg (by decide), if_neg (by decide), ee, ef, Option.bind_some, hids, Option.bind_some, nI_pred]
          have hOf : Out wc wf (z + 150) (z + 150 + 23) := (od.tr oe).tr of
          refine ⟨nI ids, wc, wf, e6, hMc.o, e7, _, _, _, _, _, _, _, chg + 1, day, ids + 1, bad, _, ?_, mf, ?_, U1, by omega, by omega, hday⟩
          · exact CW.frame ⟨fc, wc0⟩ (fun q q1 q2 => hOf q (by omega))
          · exact chg_cons hCo (wset_hs hf setF_other)
        · -- full
          have hn32 : nI (n f) = (32 : Int32) := by rw [show n f = 32 by omega]; rfl
          refine refuse ?_ ?_
          · have tl0 : fX4_takesLine w (sh z f) x2 = some 0 := by rw [tl, decide_eq_false (fun e => hfull e.2.2)]; rfl
            simp [fX6_put, i6, y6, hF.g0, hr, hsh.o, tl0, fX6_put_b27]
          · simp only [fX7_put, i7, mg, mm, y7, Option.bind_some, X7_isIn_q, fX7_put_b39, decide_eq_true ht, bz, if_pos hn32]
            simp
      · refine refuse ?_ ?_
        · have tl0 : fX4_takesLine w (sh z f) x2 = some 0 := by rw [tl, decide_eq_false (fun e => ht ⟨e.1, e.2.1⟩)]; rfl
          simp [fX6_put, i6, y6, hF.g0, hr, hsh.o, tl0, fX6_put_b27]
        · simp only [fX7_put, i7, mg, mm, y7, Option.bind_some, X7_isIn_q, fX7_put_b39, decide_eq_false ht, bz]
          simp
