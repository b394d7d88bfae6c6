/-! ===== both sides hold one state ===== -/
def MW (w : Fw) (m : Nat) (n : Nat → Nat) (β ι : Nat → Nat → Nat) (M : Nat → List Fnd) (ℓ : List Lg) (tn : Nat) (τ : Nat → Nat) (chg day ids : Nat) (bad wrk : Int32) : Prop :=
  ∃ S A, Mo w m S A ∧ S 0 = nI chg ∧ S 1 = nI day ∧ S 2 = nI ids ∧ S 3 = bad ∧ S 4 = wrk ∧ S 5 = nI (flF M 6).length ∧ S 7 = nI ℓ.length ∧ S 8 = nI tn ∧ ML A n β ι ∧ FG A (flF M 6) (flP M 6) ∧ GL A ℓ ∧ tn ≤ 40 ∧ Nn tn (A 20) τ 256
theorem MW.frame {w w' : Fw} {m : Nat} {n : Nat → Nat} {β ι : Nat → Nat → Nat} {M : Nat → List Fnd} {ℓ : List Lg} {tn : Nat} {τ : Nat → Nat} {chg day ids : Nat} {bad wrk : Int32} (h : MW w m n β ι M ℓ tn τ chg day ids bad wrk) (he : ∀ q, m ≤ q → q < m + 23 → w' q = w q) : MW w' m n β ι M ℓ tn τ chg day ids bad wrk := by
  obtain ⟨S, A, h1, h2⟩ := h
  exact ⟨S, A, h1.frame he, h2⟩
theorem any_congr' {n : Nat} {P Q : Nat → Bool} (h : ∀ k, k < n → P k = Q k) : (List.range n).any P = (List.range n).any Q := by
  rw [Bool.eq_iff_iff, any_iff, any_iff]
  constructor
  · rintro ⟨k, hk, hp⟩; exact ⟨k, hk, by rw [← h k hk]; exact hp⟩
  · rintro ⟨k, hk, hp⟩; exact ⟨k, hk, by rw [h k hk]; exact hp⟩
/-- a file that isn't worked again has the findings that it had: the change was another file's -/
theorem wset_hs {n0 n : Nat → Nat} {β0 ι0 β ι : Nat → Nat → Nat} {bad : Int32} {f : Nat} (hf : f < 6) (ho : ∀ g, g ≠ f → n g = n0 g ∧ β g = β0 g ∧ ι g = ι0 g) : ∀ g, g < 6 → bt (wset n β f (nmsN (β0 f) 1 (n0 f))) g = false → n g = n0 g ∧ ∀ k, k < n g → ι g k = ι0 g k ∧ ∀ r, r < 5 → ruB n β g bad r k = ruB n0 β0 g bad r k := by
  intro g hg hb
  have h1 : g ≠ f ∧ (nmsN (β f) 1 (n f) = nmsN (β0 f) 1 (n0 f) ∨ imp (β g) (n g) f = false) := by
    unfold wset at hb
    split at hb
    · next e =>
      rw [bt_one f (by omega) g (by omega)] at hb
      exact ⟨by simpa using hb, Or.inl e⟩
    · rw [b_or, bt_one f (by omega) g (by omega), bt_bitsN (by decide) (by omega)] at hb
      simp only [hg, decide_true, Bool.true_and, Bool.or_eq_false_iff, decide_eq_false_iff_not] at hb
      exact ⟨hb.1, Or.inr hb.2⟩
  obtain ⟨hgf, hd⟩ := h1
  obtain ⟨e1, e2, e3⟩ := ho g hgf
  refine ⟨e1, fun k hk => ⟨by rw [e3], fun r hr => ?_⟩⟩
  have hhas : ∀ x, x < 32 → imp (β g) (n g) f = true → hasK (β f) (n f) 1 x = hasK (β0 f) (n0 f) 1 x := by
    intro x hx hi
    rcases hd with hd | hd
    · rw [← bt_nms hx, ← bt_nms hx, hd]
    · rw [hd] at hi; cases hi
  match r, hr with
  | 0, _ =>
    have hx : β0 g k % 32 < 32 := by omega
    have ht : thereB n β g (β0 g k % 32) = thereB n0 β0 g (β0 g k % 32) := by
      unfold thereB
      rw [e2, e1]
      congr 1
      apply any_congr'
      intro h hh
      by_cases hhf : h = f
      · subst hhf
        cases hi : imp (β0 g) (n0 g) h with
        | false => rfl
        | true => rw [hhas _ hx (by rw [e2, e1]; exact hi)]
      · obtain ⟨c1, c2, -⟩ := ho h hhf
        rw [c1, c2]
    simp only [ruB]
    rw [e2, ht]
  | 1, _ => simp only [ruB]; rw [e2]
  | 2, _ => simp only [ruB]; rw [e2, e1]
  | 3, _ => simp only [ruB]; rw [e2]
  | 4, _ =>
    simp only [ruB]
    rw [e2, e1]
    by_cases h5 : β0 g k / 32 = 5
    · rw [decide_eq_true h5, Bool.true_and, Bool.true_and]
      by_cases hhf : β0 g k % 32 % 6 = f
      · have hi : imp (β g) (n g) f = true := by
          unfold imp
          rw [any_iff]
          exact ⟨k, hk, by rw [e2]; simp [h5, hhf]⟩
        rcases hd with hd | hd
        · rw [hhf, hd]
        · rw [hd] at hi; cases hi
      · obtain ⟨c1, c2, -⟩ := ho _ hhf
        rw [c1, c2]
    · rw [decide_eq_false h5, Bool.false_and, Bool.false_and]
section BOTH
variable {n0 n : Nat → Nat} {β0 ι0 β ι : Nat → Nat → Nat} {M : Nat → List Fnd} {ℓ : List Lg} {tn : Nat} {τ : Nat → Nat} {chg day ids0 ids : Nat} {bad0 bad wrk : Int32}
/-- the reference, once its lines are the new ones -/
theorem X7_settled {w : Fw} {m : Nat} {S : Nat → Int32} {A : Nat → Nat → Int32} {f : Nat} (hf : f < 6) (h : Mo w m S A) (h0 : S 0 = nI (chg + 1)) (h1 : S 1 = nI day) (h2 : S 2 = nI ids) (h3 : S 3 = bad) (h6 : S 6 = nI (flF M 6).length) (h7 : S 7 = nI ℓ.length) (h8 : S 8 = nI tn) (hL : ML A n β ι) (hH : MH A (flF M 6)) (hl : GL A ℓ) (ht : tn ≤ 40) (hT : Nn tn (A 20) τ 256) (hC : Cons n0 β0 ι0 bad M) (hU : Uniq n0 ι0 ids0) (hU' : Uniq n ι ids) (hi0 : ids0 ≤ 2 ^ 30) (hi : ids ≤ 2 ^ 30) (hS : Stay n0 ι0 ids0 n ι) (ho : ∀ g, g ≠ f → n g = n0 g ∧ β g = β0 g ∧ ι g = ι0 g) : ∃ w', fX7_ends w m (nI f) (nmsN (β0 f) 1 (n0 f)) = some w' ∧ MW w' m n β ι (wkM (wset n β f (nmsN (β0 f) 1 (n0 f))) n β ι bad (nI (chg + 1)) M) (wkL (wset n β f (nmsN (β0 f) 1 (n0 f))) n β ι bad (nI (chg + 1)) M ℓ 6) tn τ (chg + 1) day ids bad (wset n β f (nmsN (β0 f) 1 (n0 f))) ∧ Out w w' m (m + 23) := by
  obtain ⟨w', S', A', e, q, r1, r2, r3, r4, r5, r6, r7, o⟩ := X7_ends_q hf (nmsN (β0 f) 1 (n0 f)) h hL hH h6 h7 hl
  rw [h3, h0] at r4 r5 r6 r7
  have hs := wset_hs (bad := bad) hf ho
  have hF : flF (neL n β ι bad (flF M 6) (nI (chg + 1))) 6 = flF (wkM (wset n β f (nmsN (β0 f) 1 (n0 f))) n β ι bad (nI (chg + 1)) M) 6 := flF_congr (fun g hg => chg_rules hC hU hU' hi0 hi hS hs hg)
  have hP : flP (neL n β ι bad (flF M 6) (nI (chg + 1))) 6 = flP (wkM (wset n β f (nmsN (β0 f) 1 (n0 f))) n β ι bad (nI (chg + 1)) M) 6 := flP_congr (fun g hg => chg_rules hC hU hU' hi0 hi hS hs hg)
  have hG := chg_log (ℓ := ℓ) (ch := nI (chg + 1)) hC hU hU' hi0 hi hS hs 6 (Nat.le_refl _)
  rw [hG] at r6 r7
  rw [hF] at r4
  rw [hF, hP] at r5
  refine ⟨w', e, ⟨S', A', q, (r1 0 (by omega) (by omega) (by omega)).trans h0, (r1 1 (by omega) (by omega) (by omega)).trans h1, (r1 2 (by omega) (by omega) (by omega)).trans h2, (r1 3 (by omega) (by omega) (by omega)).trans h3, r2, r4, r6, (r1 8 (by omega) (by omega) (by omega)).trans h8, ?_, r5, r7, ht, ?_⟩, o⟩
  · intro g hg
    rw [r3 1 (by omega), r3 2 (by omega), r3 3 (by omega)]
    exact hL g hg
  · rw [r3 20 (by omega)]
    exact hT
/-- the reference, when a change begins -/
theorem X7_begun {w : Fw} {m : Nat} (h : MW w m n β ι M ℓ tn τ chg day ids bad wrk) : ∃ w' S A, fX7_begins w m = some w' ∧ Mo w' m S A ∧ S 0 = nI (chg + 1) ∧ S 1 = nI day ∧ S 2 = nI ids ∧ S 3 = bad ∧ S 6 = nI (flF M 6).length ∧ S 7 = nI ℓ.length ∧ S 8 = nI tn ∧ ML A n β ι ∧ MH A (flF M 6) ∧ GL A ℓ ∧ tn ≤ 40 ∧ Nn tn (A 20) τ 256 ∧ Out w w' m (m + 23) := by
  obtain ⟨S, A, q, s0, s1, s2, s3, s4, s5, s7, s8, hL, hG, hl, ht, hT⟩ := h
  obtain ⟨w', A', e, q', a', hH, o⟩ := X7_begins_q q s5 hG
  refine ⟨w', _, A', e, q', ?_, ?_, ?_, ?_, ?_, ?_, ?_, ?_, hH, ?_, ht, ?_, o⟩
  · simp [upd, s0, nI_1]
  · simp [upd, s1]
  · simp [upd, s2]
  · simp [upd, s3]
  · simp [upd, s5]
  · simp [upd, s7]
  · simp [upd, s8]
  · intro g hg
    rw [a' 1 (by omega), a' 2 (by omega), a' 3 (by omega)]
    exact hL g hg
  · refine ⟨hl.1, fun i hi => ?_⟩
    rw [a' 16 (by omega), a' 17 (by omega), a' 18 (by omega), a' 19 (by omega)]
    exact hl.2 i hi
  · rw [a' 20 (by omega)]
    exact hT
end BOTH
/-- THE STATE, after j calls -/
def Inv (z j : Nat) (w : Fw) : Prop := ∃ (n : Nat → Nat) (β ι : Nat → Nat → Nat) (M : Nat → List Fnd) (ℓ : List Lg) (tn : Nat) (τ : Nat → Nat) (chg day ids : Nat) (bad wrk : Int32), CW w z n β ι M ℓ tn τ chg day ids bad wrk ∧ MW w (z + 150) n β ι M ℓ tn τ chg day ids bad wrk ∧ Cons n β ι bad M ∧ Uniq n ι ids ∧ chg ≤ j ∧ ids ≤ 32 * j ∧ day ≤ 10000
def setF {α : Type} (g : Nat → α) (f : Nat) (x : α) : Nat → α := fun h => if h = f then x else g h
theorem setF_eq {α : Type} {g : Nat → α} {f : Nat} {x : α} : setF g f x f = x := if_pos rfl
theorem setF_ne {α : Type} {g : Nat → α} {f h : Nat} {x : α} (e : h ≠ f) : setF g f x h = g h := if_neg e
