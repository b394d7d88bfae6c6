/-! ===== sets as bits ===== -/
theorem nI_is0 {x : Nat} (h : x < 2 ^ 31) : nI x = (0 : Int32) ↔ x = 0 := nI_eq (b := 0) h (by decide)
theorem nI_is1 {x : Nat} (h : x < 2 ^ 31) : nI x = (1 : Int32) ↔ x = 1 := nI_eq (b := 1) h (by decide)
theorem nI_is2 {x : Nat} (h : x < 2 ^ 31) : nI x = (2 : Int32) ↔ x = 2 := nI_eq (b := 2) h (by decide)
theorem nI_is3 {x : Nat} (h : x < 2 ^ 31) : nI x = (3 : Int32) ↔ x = 3 := nI_eq (b := 3) h (by decide)
theorem nI_is4 {x : Nat} (h : x < 2 ^ 31) : nI x = (4 : Int32) ↔ x = 4 := nI_eq (b := 4) h (by decide)
theorem nI_is5 {x : Nat} (h : x < 2 ^ 31) : nI x = (5 : Int32) ↔ x = 5 := nI_eq (b := 5) h (by decide)
theorem bt_one : ∀ y, y < 32 → ∀ x, x < 32 → bt ((1 : Int32) <<< (nI y &&& 31)) x = decide (x = y) := by decide +kernel
theorem bt_1 (x : Nat) : bt 1 x = decide (x = 0) := by
  by_cases h : x < 32
  · have h9 : ∀ x, x < 32 → bt 1 x = decide (x = 0) := by decide +kernel
    exact h9 x h
  · rw [b_big (by omega)]
    simp
    omega
/-- the shifted bit, both shifts -/
theorem bit_u (s : Int32) {k : Nat} (hk : k < 32) : (((Int32.toUInt32 s >>> (Int32.toUInt32 (nI k) &&& Int32.toUInt32 31)).toInt32) &&& 1) = 1 ↔ bt s k = true := by
  constructor
  · intro h
    have h1 := congrArg (fun x => bt x 0) h
    simp only [b_and, b_ushr k hk, bt_1] at h1
    simpa using h1
  · intro h
    apply b_ext
    intro i hi
    rw [b_and, b_ushr k hk, bt_1]
    by_cases h0 : i = 0
    · subst h0; simpa using h
    · simp [h0]
theorem bit_s (s : Int32) {k : Nat} (hk : k < 32) : ((s >>> (nI k &&& 31)) &&& 1) = 1 ↔ bt s k = true := by
  constructor
  · intro h
    have h1 := congrArg (fun x => bt x 0) h
    simp only [b_and, b_sshr k hk s (show 0 < 32 by decide), bt_1, Nat.add_zero, hk, if_true] at h1
    simpa using h1
  · intro h
    apply b_ext
    intro i hi
    rw [b_and, b_sshr k hk s hi, bt_1]
    by_cases h0 : i = 0
    · subst h0; simpa [hk] using h
    · simp [h0]
theorem X6_has_q (w : Fw) (s : Int32) {k : Nat} (hk : k < 32) : fX6_has w s (nI k) = some (bz (bt s k)) := by
  rw [fX6_has]
  by_cases h : bt s k = true
  · rw [if_pos ((bit_u s hk).mpr h), h]; rfl
  · rw [if_neg (fun e => h ((bit_u s hk).mp e)), Bool.not_eq_true _ |>.mp h]; rfl
theorem bt_not {x : Int32} {i : Nat} (hi : i < 32) : bt (x ^^^ (-1)) i = !bt x i := by
  rw [b_xor, b_m1 i hi]; simp
theorem any_succ (n : Nat) (P : Nat → Bool) : (List.range (n + 1)).any P = ((List.range n).any P || P n) := by
  rw [List.range_succ, List.any_append]; simp
theorem any_iff {n : Nat} {P : Nat → Bool} : (List.range n).any P = true ↔ ∃ k, k < n ∧ P k = true := by
  simp [List.any_eq_true]
/-- the bits of those that P holds at -/
def bitsN (P : Nat → Bool) : Nat → Int32
  | 0 => 0
  | n + 1 => if P n then bitsN P n ||| ((1 : Int32) <<< (nI n &&& 31)) else bitsN P n
theorem bt_bitsN {P : Nat → Bool} : ∀ {n : Nat}, n ≤ 32 → ∀ {k : Nat}, k < 32 → bt (bitsN P n) k = (decide (k < n) && P k)
  | 0, _, k, _ => by simp [bitsN, b_0]
  | n + 1, hn, k, hk => by
    have ih := bt_bitsN (P := P) (n := n) (by omega) hk
    unfold bitsN
    by_cases hp : P n = true
    · rw [if_pos hp, b_or, ih, bt_one n (by omega) k hk]
      by_cases h1 : k = n
      · subst h1; simp [hp]
      · simp only [h1, decide_false, Bool.or_false]
        congr 1
        simp; omega
    · rw [if_neg hp, ih]
      by_cases h1 : k = n
      · subst h1; simp [hp]
      · congr 1
        simp; omega
theorem bitsN_congr {P Q : Nat → Bool} : ∀ {n : Nat}, (∀ k, k < n → P k = Q k) → bitsN P n = bitsN Q n
  | 0, _ => rfl
  | n + 1, h => by
    unfold bitsN
    rw [h n (by omega), bitsN_congr (n := n) (fun k hk => h k (by omega))]
/-- a line of a kind with a number -/
def hasK (β : Nat → Nat) (n kd x : Nat) : Bool := (List.range n).any fun k => decide (β k / 32 = kd) && decide (β k % 32 = x)
def imp (β : Nat → Nat) (n g : Nat) : Bool := (List.range n).any fun k => decide (β k / 32 = 5) && decide (β k % 32 % 6 = g)
theorem bt_nms {β : Nat → Nat} {kd : Nat} : ∀ {n x : Nat}, x < 32 → bt (nmsN β kd n) x = hasK β n kd x
  | 0, x, hx => by simp [nmsN, hasK, b_0]
  | n + 1, x, hx => by
    have ih := bt_nms (β := β) (kd := kd) (n := n) hx
    unfold nmsN hasK
    rw [any_succ]
    unfold hasK at ih
    by_cases h : β n / 32 = kd
    · rw [if_pos h, b_or, ih, bt_one _ (by omega) x hx]
      simp only [h, decide_true, Bool.true_and]
      congr 1
      exact decide_eq_decide.mpr ⟨fun e => e.symm, fun e => e.symm⟩
    · rw [if_neg h, ih]; simp [h]
theorem bt_imp {β : Nat → Nat} : ∀ {n x : Nat}, x < 32 → bt (impN β n) x = imp β n x
  | 0, x, hx => by simp [impN, imp, b_0]
  | n + 1, x, hx => by
    have ih := bt_imp (β := β) (n := n) hx
    unfold impN imp
    rw [any_succ]
    unfold imp at ih
    by_cases h : β n / 32 = 5
    · rw [if_pos h, b_or, ih, bt_one _ (by omega) x hx]
      simp only [h, decide_true, Bool.true_and]
      congr 1
      exact decide_eq_decide.mpr ⟨fun e => e.symm, fun e => e.symm⟩
    · rw [if_neg h, ih]; simp [h]
section CHK
variable {w : Fw} {a n ra rb : Nat} {B I : Nat → Int32} {β : Nat → Nat}
theorem X0_linesWith_loop (h : Sh w a n B I ra rb) (hβ : Nn n B β 256) (hn : n ≤ 32) {kd : Nat} (hkd : kd < 8) (s : Int32) : ∀ (m k fuel : Nat), k + m = n → m < fuel → fX0_linesWith_L5 w fuel a (nI kd) s (bitsN (fun k => decide (β k / 32 = kd) && bt s (β k % 32)) k) (nI k) = some (bitsN (fun k => decide (β k / 32 = kd) && bt s (β k % 32)) n)
  | m, k, 0, hk, hf => by omega
  | 0, k, fuel + 1, hk, hf => by
    have hle : nI n ≤ nI k := nI_le (by omega) (by omega)
    have : k = n := by omega
    subst this
    rw [fX0_linesWith_L5]
    simp [h.o, X4_size_q h, hle]
  | m + 1, k, fuel + 1, hk, hf => by
    have hle : ¬ nI n ≤ nI k := nI_ge (by omega) (by omega)
    have ih := X0_linesWith_loop h hβ hn hkd s m (k + 1) fuel (by omega) (by omega)
    have hb := (hβ k (by omega)).2
    rw [fX0_linesWith_L5]
    simp only [h.o, X4_size_q h, Option.bind_some, hle, if_false, X4_kindAt_q h hβ hn (show k < n by omega), X4_numberAt_q h hβ hn (show k < n by omega), X6_has_q w s (show β k % 32 < 32 by omega), fX0_linesWith_b44, nI_1]
    rw [← ih, bitsN]
    by_cases hq : β k / 32 = kd
    · rw [if_pos (by rw [hq])]
      cases hs : bt s (β k % 32) <;> simp [hq, bz]
    · rw [if_neg (fun e => hq ((nI_eq (by omega) (by omega)).mp e))]
      simp [hq]
theorem X0_linesWith_q (h : Sh w a n B I ra rb) (hβ : Nn n B β 256) (hn : n ≤ 32) {kd : Nat} (hkd : kd < 8) (s : Int32) : fX0_linesWith w a (nI kd) s = some (bitsN (fun k => decide (β k / 32 = kd) && bt s (β k % 32)) n) := by
  rw [fX0_linesWith]
  exact X0_linesWith_loop h hβ hn hkd s n 0 1000 (by omega) (by omega)
theorem X0_repeatedDefs_loop (h : Sh w a n B I ra rb) (hβ : Nn n B β 256) (hn : n ≤ 32) : ∀ (m k fuel : Nat), k + m = n → m < fuel → fX0_repeatedDefs_L6 w fuel a (bitsN (fun k => decide (β k / 32 = 1) && hasK β k 1 (β k % 32)) k) (nmsN β 1 k) (nI k) = some (bitsN (fun k => decide (β k / 32 = 1) && hasK β k 1 (β k % 32)) n)
  | m, k, 0, hk, hf => by omega
  | 0, k, fuel + 1, hk, hf => by
    have hle : nI n ≤ nI k := nI_le (by omega) (by omega)
    have : k = n := by omega
    subst this
    rw [fX0_repeatedDefs_L6]
    simp [h.o, X4_size_q h, hle]
  | m + 1, k, fuel + 1, hk, hf => by
    have hle : ¬ nI n ≤ nI k := nI_ge (by omega) (by omega)
    have ih := X0_repeatedDefs_loop h hβ hn m (k + 1) fuel (by omega) (by omega)
    have hb := (hβ k (by omega)).2
    rw [fX0_repeatedDefs_L6]
    simp only [h.o, X4_size_q h, Option.bind_some, hle, if_false, X4_kindAt_q h hβ hn (show k < n by omega), X4_numberAt_q h hβ hn (show k < n by omega), X6_has_q w _ (show β k % 32 < 32 by omega), bt_nms (show β k % 32 < 32 by omega), fX0_repeatedDefs_b45, fX0_repeatedDefs_b52, nI_1, nI_is1 (show β k / 32 < 2 ^ 31 by omega)]
    rw [← ih, bitsN, nmsN]
    by_cases hq : β k / 32 = 1
    · cases hs : hasK β k 1 (β k % 32) <;> simp [hq, bz]
    · simp [hq]
theorem X0_repeatedDefs_q (h : Sh w a n B I ra rb) (hβ : Nn n B β 256) (hn : n ≤ 32) : fX0_repeatedDefs w a = some (bitsN (fun k => decide (β k / 32 = 1) && hasK β k 1 (β k % 32)) n) := by
  rw [fX0_repeatedDefs]
  exact X0_repeatedDefs_loop h hβ hn n 0 1000 (by omega) (by omega)
theorem X0_importsOf_loop (h : Sh w a n B I ra rb) (hβ : Nn n B β 256) (hn : n ≤ 32) (s : Int32) : ∀ (m k fuel : Nat), k + m = n → m < fuel → fX0_importsOf_L4 w fuel a s (bitsN (fun k => decide (β k / 32 = 5) && bt s (β k % 32 % 6)) k) (nI k) = some (bitsN (fun k => decide (β k / 32 = 5) && bt s (β k % 32 % 6)) n)
  | m, k, 0, hk, hf => by omega
  | 0, k, fuel + 1, hk, hf => by
    have hle : nI n ≤ nI k := nI_le (by omega) (by omega)
    have : k = n := by omega
    subst this
    rw [fX0_importsOf_L4]
    simp [h.o, X4_size_q h, hle]
  | m + 1, k, fuel + 1, hk, hf => by
    have hle : ¬ nI n ≤ nI k := nI_ge (by omega) (by omega)
    have ih := X0_importsOf_loop h hβ hn s m (k + 1) fuel (by omega) (by omega)
    have hb := (hβ k (by omega)).2
    rw [fX0_importsOf_L4]
    simp only [h.o, X4_size_q h, Option.bind_some, hle, if_false, X4_kindAt_q h hβ hn (show k < n by omega), X4_numberAt_q h hβ hn (show k < n by omega), rem6 (show β k % 32 < 2 ^ 31 by omega), X6_has_q w s (show β k % 32 % 6 < 32 by omega), fX0_importsOf_b42, nI_1, nI_is5 (show β k / 32 < 2 ^ 31 by omega)]
    rw [← ih, bitsN]
    by_cases hq : β k / 32 = 5
    · cases hs : bt s (β k % 32 % 6) <;> simp [hq, bz]
    · simp [hq]
theorem X0_importsOf_q (h : Sh w a n B I ra rb) (hβ : Nn n B β 256) (hn : n ≤ 32) (s : Int32) : fX0_importsOf w a s = some (bitsN (fun k => decide (β k / 32 = 5) && bt s (β k % 32 % 6)) n) := by
  rw [fX0_importsOf]
  exact X0_importsOf_loop h hβ hn s n 0 1000 (by omega) (by omega)
end CHK
