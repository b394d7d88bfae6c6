/-! ===== the findings of a sheet worked again ===== -/
def SG (w : Fw) (a n : Nat) (β ι : Nat → Nat) (M : List Fnd) : Prop := n ≤ 32 ∧ ∃ B I ra rb M', ((ra = a + 3 ∧ rb = a + 10) ∨ (ra = a + 10 ∧ rb = a + 3)) ∧ Sh w a n B I ra rb ∧ Nn n B β 256 ∧ Nn n I ι (2 ^ 30) ∧ RwL w ra M ∧ RwL w rb M'
theorem SG.frame {w w' : Fw} {a n : Nat} {β ι : Nat → Nat} {M : List Fnd} (h : SG w a n β ι M) (he : ∀ q, a ≤ q → q < a + 17 → w' q = w q) : SG w' a n β ι M := by
  obtain ⟨hn, B, I, ra, rb, M', hab, h1, h2, h3, h4, h5⟩ := h
  exact ⟨hn, B, I, ra, rb, M', hab, h1.frame (fun q q1 q2 => he q (by omega) (by omega)), h2, h3, h4.frame (fun q q1 q2 => he q (by omega) (by omega)), h5.frame (fun q q1 q2 => he q (by omega) (by omega))⟩
section REN
variable (P : Nat → Nat → Bool) (ι : Nat → Nat) (M : List Fnd) (ch : Int32)
/-- the findings of line k by its first r rules -/
def inn (k r : Nat) : List Fnd := ((List.range r).filter fun r => P r k).map fun r => tk M (nI r, nI k, nI (ι k), ch, 0, -1)
def fre (n : Nat) : List Fnd := (List.range n).flatMap fun k => inn P ι M ch k 5
end REN
section REN2
variable {P : Nat → Nat → Bool} {ι : Nat → Nat} {M : List Fnd} {ch : Int32}
theorem inn_succ (k r : Nat) : inn P ι M ch k (r + 1) = inn P ι M ch k r ++ (if P r k then [tk M (nI r, nI k, nI (ι k), ch, 0, -1)] else []) := by
  unfold inn
  rw [List.range_succ, List.filter_append, List.map_append]
  by_cases h : P r k = true <;> simp [h]
theorem fre_succ (n : Nat) : fre P ι M ch (n + 1) = fre P ι M ch n ++ inn P ι M ch n 5 := by
  unfold fre
  rw [List.range_succ, List.flatMap_append]
  simp
theorem inn_none {k : Nat} : ∀ {r : Nat}, (∀ r', r' < r → P r' k = false) → inn P ι M ch k r = []
  | 0, _ => by simp [inn]
  | r + 1, h => by rw [inn_succ, inn_none (fun r' h' => h r' (by omega)), h r (by omega)]; simp
theorem inn_le {k : Nat} (h1 : ∀ r r', r < 5 → r' < 5 → P r k = true → P r' k = true → r = r') : ∀ {r : Nat}, r ≤ 5 → (inn P ι M ch k r).length ≤ 1 ∧ (∀ r', r ≤ r' → r' < 5 → P r' k = true → inn P ι M ch k r = [])
  | 0, _ => by simp [inn]
  | r + 1, hr => by
    obtain ⟨i1, i2⟩ := inn_le h1 (r := r) (by omega)
    rw [inn_succ]
    by_cases h : P r k = true
    · rw [i2 r (Nat.le_refl _) (by omega) h, if_pos h]
      refine ⟨by simp, fun r' q1 q2 q3 => ?_⟩
      have := h1 r r' (by omega) q2 h q3
      omega
    · rw [if_neg h, List.append_nil]
      exact ⟨i1, fun r' q1 q2 q3 => i2 r' (by omega) q2 q3⟩
theorem fre_le : ∀ {n : Nat}, (∀ k, k < n → ∀ r r', r < 5 → r' < 5 → P r k = true → P r' k = true → r = r') → (fre P ι M ch n).length ≤ n
  | 0, _ => by simp [fre]
  | n + 1, h => by
    have i1 := fre_le (n := n) (fun k hk => h k (by omega))
    have i2 := (inn_le (P := P) (ι := ι) (M := M) (ch := ch) (k := n) (h n (by omega)) (Nat.le_refl 5)).1
    rw [fre_succ, List.length_append]
    omega
theorem X4_rules_loop {a n c g ra rb : Nat} {B I F O : Nat → Int32} (hn : n ≤ 32) (hI : Nn n I ι (2 ^ 30)) (hF : ∀ r, r < 5 → F r = bitsN (P r) n) {k : Nat} (hk : k < n) (h1 : ∀ r r', r < 5 → r' < 5 → P r k = true → P r' k = true → r = r') (hab : a + 3 ≤ rb ∨ rb + 7 ≤ a) (hrr : ra + 7 ≤ rb ∨ rb + 7 ≤ ra) (hcb : c + 3 ≤ rb ∨ rb + 7 ≤ c)
    (K : Fw → Nat → Nat → Int32 → Nat → Nat → Int32 → Option Fw) : ∀ (m r fuel : Nat) (w : Fw) (L : List Fnd), r + m = 5 → m < fuel → L.length ≤ k → Sh w a n B I ra rb → Ck w c F O → RwL w ra M → RwL w rb (L ++ inn P ι M ch k r) → ∃ w', fX4_renewFindings_L26 K fuel w a c ch g rb (nI k) (nI r) = K w' a c ch g rb (nI (k + 1)) ∧ RwL w' rb (L ++ inn P ι M ch k 5) ∧ Out w w' rb (rb + 7)
  | m, r, 0, w, L, q1, q2, hL, hsh, hck, hM, hR => by omega
  | 0, r, fuel + 1, w, L, q1, q2, hL, hsh, hck, hM, hR => by
    have : r = 5 := by omega
    subst this
    rw [fX4_renewFindings_L26, if_pos (by decide), nI_1]
    exact ⟨w, rfl, hR, Out.rf⟩
  | m + 1, r, fuel + 1, w, L, q1, q2, hL, hsh, hck, hM, hR => by
    have hr : r < 5 := by omega
    have hle : ¬ (5 : Int32) ≤ nI r := nI_ge (b := 5) hr (by decide)
    have hbt : bt (F r) k = P r k := by rw [hF r hr, bt_bitsN hn (by omega)]; simp [hk]
    rw [fX4_renewFindings_L26, if_neg hle]
    simp only [hck.o, X0_linesOf_q hck hr, X6_has_q w _ (show k < 32 by omega), hbt, Option.bind_some, fX4_renewFindings_b72, nI_1]
    by_cases hp : P r k = true
    · simp only [hp, bz, if_true]
      rw [if_neg (by decide), hsh.g2, Option.bind_some, lI_ok hsh.2.2 (show k < 32 by omega) (by decide), Option.bind_some, (hI k hk).1]
      have hemp := (inn_le (P := P) (ι := ι) (M := M) (ch := ch) (k := k) h1 (r := r) (by omega)).2 r (Nat.le_refl _) hr hp
      rw [hemp, List.append_nil] at hR
      obtain ⟨-, V, hV, -⟩ := id hR
      rw [isO_ok hV.1, Option.bind_some]
      obtain ⟨w1, e1, r1, o1⟩ := X2_add_l hR (show L.length < 32 by omega) (nI r) (nI k) (nI (ι k)) ch
      have hsh1 := hsh.frame (w' := w1) (fun q z1 z2 => o1 q (by omega))
      have hM1 := hM.frame (w' := w1) (fun q z1 z2 => o1 q (by omega))
      rw [e1, Option.bind_some, hsh1.g3, Option.bind_some]
      obtain ⟨-, V1, hV1, -⟩ := id r1
      rw [isO_ok hV1.1, Option.bind_some]
      obtain ⟨w2, e2, r2, o2⟩ := X2_takeOver_l r1 hM1 (by omega)
      rw [e2, Option.bind_some]
      have hR2 : RwL w2 rb (L ++ inn P ι M ch k (r + 1)) := by rw [inn_succ, hemp, if_pos hp, List.nil_append]; exact r2
      have o12 := o1.tr o2
      obtain ⟨w3, e3, r3, o3⟩ := X4_rules_loop hn hI hF hk h1 hab hrr hcb K m (r + 1) fuel w2 L (by omega) (by omega) hL (hsh.frame (fun q z1 z2 => o12 q (by omega))) (hck.frame (fun q z1 z2 => o12 q (by omega))) (hM.frame (fun q z1 z2 => o12 q (by omega))) hR2
      exact ⟨w3, e3, r3, o12.tr o3⟩
    · simp only [hp, bz]
      rw [if_pos (by decide)]
      have hR2 : RwL w rb (L ++ inn P ι M ch k (r + 1)) := by rw [inn_succ, if_neg hp, List.append_nil]; exact hR
      exact X4_rules_loop hn hI hF hk h1 hab hrr hcb K m (r + 1) fuel w L (by omega) (by omega) hL hsh hck hM hR2
theorem X4_lines_loop {a n c g ra rb : Nat} {B I F O : Nat → Int32} {ℓ : List Lg} (hn : n ≤ 32) (hI : Nn n I ι (2 ^ 30)) (hF : ∀ r, r < 5 → F r = bitsN (P r) n) (h1 : ∀ k, k < n → ∀ r r', r < 5 → r' < 5 → P r k = true → P r' k = true → r = r') (hab : a + 3 ≤ rb ∨ rb + 7 ≤ a) (hrr : ra + 7 ≤ rb ∨ rb + 7 ≤ ra) (hcb : c + 3 ≤ rb ∨ rb + 7 ≤ c) (hgb : g + 5 ≤ rb ∨ rb + 7 ≤ g) (hga : g + 5 ≤ ra ∨ ra + 7 ≤ g) (hgs : g + 5 ≤ a ∨ a + 3 ≤ g) (hra : a + 3 ≤ ra ∨ ra + 7 ≤ a) : ∀ (m k fuel : Nat) (w : Fw), k + m = n → m < fuel → Sh w a n B I ra rb → Ck w c F O → RwL w ra M → RwL w rb (fre P ι M ch k) → LgL w g ℓ → ∃ w', fX4_renewFindings_L14 fuel w a c ch g rb (nI k) = some w' ∧ Sh w' a n B I rb ra ∧ RwL w' rb (fre P ι M ch n) ∧ RwL w' ra M ∧ LgL w' g (M.foldl (ends1 (fre P ι M ch n) ch) ℓ) ∧ (∀ q, (q < a ∨ a + 3 ≤ q) → (q < rb ∨ rb + 7 ≤ q) → (q < g ∨ g + 5 ≤ q) → w' q = w q)
  | m, k, 0, w, q1, q2, hsh, hck, hM, hR, hl => by omega
  | 0, k, fuel + 1, w, q1, q2, hsh, hck, hM, hR, hl => by
    have hle : nI n ≤ nI k := nI_le (by omega) (by omega)
    have : k = n := by omega
    subst this
    rw [fX4_renewFindings_L14]
    simp only [hsh.g0, hsh.g3, Option.bind_some, hle, if_true]
    obtain ⟨-, V, hV, -⟩ := id hM
    rw [isO_ok hV.1, Option.bind_some]
    obtain ⟨w1, e1, r1, o1⟩ := X2_logEnded_l (w := w) ch (by omega) (by omega) hM hR hl
    have hsh1 := hsh.frame (w' := w1) (fun q z1 z2 => o1 q (by omega))
    rw [e1, Option.bind_some, hsh1.g3, Option.bind_some, pF_ok hsh1.1 (by simp), Option.bind_some]
    have hf1 : (fup w1 a (.inr (.inr (4, [.int (nI k), .ref (a + 1), .ref (a + 2), .ref ra, .ref ra])))) a = some (.inr (.inr (4, [.int (nI k), .ref (a + 1), .ref (a + 2), .ref ra, .ref ra]))) := fup_eq _ _ _
    rw [show ([Value.int (nI k), Value.ref (a + 1), Value.ref (a + 2), Value.ref ra, Value.ref rb].set 4 (Value.ref ra)) = [.int (nI k), .ref (a + 1), .ref (a + 2), .ref ra, .ref ra] from rfl, pF_ok hf1 (by simp), Option.bind_some]
    rw [show ([Value.int (nI k), Value.ref (a + 1), Value.ref (a + 2), Value.ref ra, Value.ref ra].set 3 (Value.ref rb)) = [.int (nI k), .ref (a + 1), .ref (a + 2), .ref rb, .ref ra] from rfl]
    have ho : ∀ q, q ≠ a → (fup (fup w1 a (.inr (.inr (4, [.int (nI k), .ref (a + 1), .ref (a + 2), .ref ra, .ref ra])))) a (.inr (.inr (4, [.int (nI k), .ref (a + 1), .ref (a + 2), .ref rb, .ref ra])))) q = w1 q := fun q hq => by rw [fup_ne hq, fup_ne hq]
    refine ⟨_, rfl, ⟨fup_eq _ _ _, ?_, ?_⟩, ?_, ?_, ?_, ?_⟩
    · rw [ho _ (by omega)]; exact hsh1.2.1
    · rw [ho _ (by omega)]; exact hsh1.2.2
    · exact hR.frame (fun q z1 z2 => by rw [ho q (by omega)]; exact o1 q (by omega))
    · exact hM.frame (fun q z1 z2 => by rw [ho q (by omega)]; exact o1 q (by omega))
    · exact r1.frame (fun q z1 z2 => ho q (by omega))
    · intro q z1 z2 z3
      rw [ho q (by omega)]
      exact o1 q z3
  | m + 1, k, fuel + 1, w, q1, q2, hsh, hck, hM, hR, hl => by
    have hle : ¬ nI n ≤ nI k := nI_ge (by omega) (by omega)
    rw [fX4_renewFindings_L14]
    simp only [hsh.g0, Option.bind_some, hle, if_false]
    obtain ⟨w1, e1, r1, o1⟩ := X4_rules_loop (g := g) hn hI hF (show k < n by omega) (h1 k (by omega)) hab hrr hcb (fX4_renewFindings_L14 fuel) 5 0 1000 w (fre P ι M ch k) (by omega) (by omega) (fre_le (fun k' hk' => h1 k' (by omega))) hsh hck hM (by simpa [inn] using hR)
    rw [nI_0] at e1
    rw [e1]
    rw [← fre_succ] at r1
    obtain ⟨w2, e2, z1, z2, z3, z4, z5⟩ := X4_lines_loop hn hI hF h1 hab hrr hcb hgb hga hgs hra m (k + 1) fuel w1 (by omega) (by omega) (hsh.frame (fun q y1 y2 => o1 q (by omega))) (hck.frame (fun q y1 y2 => o1 q (by omega))) (hM.frame (fun q y1 y2 => o1 q (by omega))) r1 (hl.frame (fun q y1 y2 => o1 q (by omega)))
    exact ⟨w2, e2, z1, z2, z3, z4, fun q y1 y2 y3 => (z5 q y1 y2 y3).trans (o1 q y2)⟩
theorem X4_renew_q {w : Fw} {a n c g : Nat} {β : Nat → Nat} {F O : Nat → Int32} {ℓ : List Lg} (hS : SG w a n β ι M) (hF : ∀ r, r < 5 → F r = bitsN (P r) n) (h1 : ∀ k, k < n → ∀ r r', r < 5 → r' < 5 → P r k = true → P r' k = true → r = r') (hck : Ck w c F O) (hl : LgL w g ℓ) (hc : c + 3 ≤ a ∨ a + 17 ≤ c) (hg : g + 5 ≤ a ∨ a + 17 ≤ g) : ∃ w', fX4_renewFindings w a c ch g = some w' ∧ SG w' a n β ι (fre P ι M ch n) ∧ LgL w' g (M.foldl (ends1 (fre P ι M ch n) ch) ℓ) ∧ (∀ q, (q < a ∨ a + 17 ≤ q) → (q < g ∨ g + 5 ≤ q) → w' q = w q) := by
  obtain ⟨hn, B, I, ra, rb, M', hab, hsh, hβ, hI, hM, hM'⟩ := hS
  rw [fX4_renewFindings, hsh.g4, Option.bind_some]
  obtain ⟨-, V, hV, -⟩ := id hM'
  rw [isO_ok hV.1, Option.bind_some]
  obtain ⟨w1, e1, r1, o1⟩ := X2_clear_l hM'
  rw [e1, Option.bind_some]
  obtain ⟨w2, e2, z1, z2, z3, z4, z5⟩ := X4_lines_loop (P := P) (ι := ι) (M := M) (ch := ch) (ra := ra) (rb := rb) (c := c) (g := g) (ℓ := ℓ) hn hI hF h1 (by omega) (by omega) (by omega) (by omega) (by omega) (by omega) (by omega) n 0 1000 w1 (by omega) (by omega) (hsh.frame (fun q y1 y2 => o1 q (by omega))) (hck.frame (fun q y1 y2 => o1 q (by omega))) (hM.frame (fun q y1 y2 => o1 q (by omega))) (by simpa [fre] using r1) (hl.frame (fun q y1 y2 => o1 q (by omega)))
  rw [nI_0] at e2
  refine ⟨w2, e2, ⟨hn, B, I, rb, ra, M, by omega, z1, hβ, hI, z2, z3⟩, z4, fun q y1 y2 => ?_⟩
  rw [z5 q (by omega) (by omega) y2]
  exact o1 q (by omega)
end REN2
/-- a line's kind has one rule -/
theorem ruB_one {n : Nat → Nat} {β : Nat → Nat → Nat} {f : Nat} {bad : Int32} {k : Nat} : ∀ r r', r < 5 → r' < 5 → ruB n β f bad r k = true → ruB n β f bad r' k = true → r = r' := by
  have key : ∀ r, r < 5 → ruB n β f bad r k = true → (r = 0 ∧ β f k / 32 = 2) ∨ (r = 1 ∧ β f k / 32 = 1) ∨ (r = 2 ∧ (β f k / 32 = 3 ∨ β f k / 32 = 4)) ∨ (r = 3 ∧ β f k / 32 = 0) ∨ (r = 4 ∧ β f k / 32 = 5) := by
    intro r hr h
    match r, hr with
    | 0, _ => simp [ruB] at h; omega
    | 1, _ => simp [ruB] at h; omega
    | 2, _ => simp [ruB, lone] at h; omega
    | 3, _ => simp [ruB] at h; omega
    | 4, _ => simp [ruB] at h; omega
  intro r r' hr hr' h h'
  have := key r hr h
  have := key r' hr' h'
  omega
