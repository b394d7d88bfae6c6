/-! ===== THE PURE SIDE: worlds read and written by place ===== -/
theorem gI_ok {w : Fw} {a ci k : Nat} {fs : List Value} {v : Int32} (h : w a = some (.inr (.inr (ci, fs)))) (hk : fs[k]? = some (.int v)) : gI w a ci k = some v := by
  simp [gI, h, hk]
theorem gR_ok {w : Fw} {a ci k v : Nat} {fs : List Value} (h : w a = some (.inr (.inr (ci, fs)))) (hk : fs[k]? = some (.ref v)) : gR w a ci k = some v := by
  simp [gR, h, hk]
theorem pF_ok {w : Fw} {a ci k : Nat} {fs : List Value} {v : Value} (h : w a = some (.inr (.inr (ci, fs)))) (hk : k < fs.length) : pF w a ci k v = some (fup w a (.inr (.inr (ci, fs.set k v)))) := by
  simp [pF, h, hk]
theorem lI_ok {w : Fw} {a N i : Nat} {f : Nat → Int32} (h : w a = some (.inl (N, f))) (hi : i < N) (hN : N < 2 ^ 31) : lI w a (nI i) = some (f i) := by
  have h1 : ¬ (nI i < 0 ∨ N ≤ (nI i).toNatClampNeg) := nI_in hi hN
  simp only [lI, h]
  rw [if_neg h1, nI_clamp (by omega)]
theorem sI_ok {w : Fw} {a N i : Nat} {f : Nat → Int32} {x : Int32} (h : w a = some (.inl (N, f))) (hi : i < N) (hN : N < 2 ^ 31) : sI w a (nI i) x = some (fup w a (.inl (N, upd f i x))) := by
  have h1 : ¬ (nI i < 0 ∨ N ≤ (nI i).toNatClampNeg) := nI_in hi hN
  simp only [sI, h]
  rw [if_neg h1, nI_clamp (by omega)]
theorem lR_ok {w : Fw} {kd a N i v : Nat} {f : Nat → Option Nat} (h : w a = some (.inr (.inl (kd, N, f)))) (hi : i < N) (hN : N < 2 ^ 31) (hv : f i = some v) : lR w kd a (nI i) = some v := by
  have h1 : ¬ (nI i < 0 ∨ N ≤ (nI i).toNatClampNeg) := nI_in hi hN
  simp only [lR, h, if_true]
  rw [if_neg h1, nI_clamp (by omega), hv]
theorem isO_ok {w : Fw} {a ci : Nat} {fs : List Value} (h : w a = some (.inr (.inr (ci, fs)))) : isO w a ci = some () := by
  simp [isO, h]
theorem fup_eq (w : Fw) (a : Nat) (e : Ent) : fup w a e a = some e := by simp [fup]
theorem fup_ne {w : Fw} {a q : Nat} {e : Ent} (h : q ≠ a) : fup w a e q = w q := by simp [fup, h]
theorem zb_0 : zb 0 = some 0 := by decide
theorem zb_1 : zb 1 = some 1 := by decide
def bz (b : Bool) : Int32 := if b then 1 else 0
theorem zb_bz (b : Bool) : zb (bz b) = some (bz b) := by cases b <;> decide
theorem bz_0 (b : Bool) : bz b = 0 ↔ b = false := by cases b <;> decide
theorem bz_eq {a b : Bool} : bz a = bz b ↔ a = b := by cases a <;> cases b <;> decide
/-- the worlds are alike but between lo and hi -/
def Out (w w' : Fw) (lo hi : Nat) : Prop := ∀ q, (q < lo ∨ hi ≤ q) → w' q = w q
theorem Out.rf {w : Fw} {lo hi : Nat} : Out w w lo hi := fun _ _ => rfl
theorem Out.tr {w w' w'' : Fw} {lo hi : Nat} (h : Out w w' lo hi) (h' : Out w' w'' lo hi) : Out w w'' lo hi := fun q hq => (h' q hq).trans (h q hq)
theorem Out.wide {w w' : Fw} {lo hi lo' hi' : Nat} (h : Out w w' lo hi) (h1 : lo' ≤ lo) (h2 : hi ≤ hi') : Out w w' lo' hi' := fun q hq => h q (by omega)
theorem Out.fup {w : Fw} {a lo hi : Nat} {e : Ent} (h1 : lo ≤ a) (h2 : a < hi) : Out w (fup w a e) lo hi := fun q hq => fup_ne (by omega)
theorem Out.on {w w' : Fw} {lo hi q : Nat} (h : Out w w' lo hi) (hq : q < lo ∨ hi ≤ q) : w' q = w q := h q hq
/-- the first place that P holds at, of m from k on -/
def srch (P : Nat → Bool) : Nat → Nat → Option Nat
  | 0, _ => none
  | m + 1, k => if P k then some k else srch P m (k + 1)
def plI : Option Nat → Int32
  | some k => nI k
  | none => -1
theorem srch_some {P : Nat → Bool} : ∀ {m k j : Nat}, srch P m k = some j → k ≤ j ∧ j < k + m ∧ P j = true ∧ ∀ i, k ≤ i → i < j → P i = false
  | 0, k, j, h => by simp [srch] at h
  | m + 1, k, j, h => by
    unfold srch at h
    by_cases hp : P k = true
    · rw [if_pos hp] at h
      cases h
      exact ⟨Nat.le_refl _, by omega, hp, fun i h1 h2 => by omega⟩
    · rw [if_neg hp] at h
      obtain ⟨h1, h2, h3, h4⟩ := srch_some h
      refine ⟨by omega, by omega, h3, fun i h5 h6 => ?_⟩
      by_cases hik : i = k
      · subst hik; simpa using hp
      · exact h4 i (by omega) h6
theorem srch_none {P : Nat → Bool} : ∀ {m k : Nat}, srch P m k = none → ∀ i, k ≤ i → i < k + m → P i = false
  | 0, k, h, i, h1, h2 => by omega
  | m + 1, k, h, i, h1, h2 => by
    unfold srch at h
    by_cases hp : P k = true
    · rw [if_pos hp] at h; cases h
    · rw [if_neg hp] at h
      by_cases hik : i = k
      · subst hik; simpa using hp
      · exact srch_none h i (by omega) (by omega)
theorem srch_congr {P Q : Nat → Bool} : ∀ {m k : Nat}, (∀ i, k ≤ i → i < k + m → P i = Q i) → srch P m k = srch Q m k
  | 0, _, _ => rfl
  | m + 1, k, h => by
    unfold srch
    rw [h k (Nat.le_refl _) (by omega), srch_congr (m := m) (k := k + 1) (fun i h1 h2 => h i (by omega) (by omega))]
theorem srch_first {P : Nat → Bool} {m k j : Nat} (h1 : k ≤ j) (h2 : j < k + m) (h3 : P j = true) (h4 : ∀ i, k ≤ i → i < j → P i = false) : srch P m k = some j := by
  cases h : srch P m k with
  | none => rw [srch_none h j h1 h2] at h3; cases h3
  | some i =>
    obtain ⟨a1, a2, a3, a4⟩ := srch_some h
    rcases Nat.lt_trichotomy i j with q | q | q
    · rw [h4 i a1 q] at a3; cases a3
    · rw [q]
    · rw [a4 j h1 q] at h3; cases h3
theorem plI_ne {k : Nat} (h : k < 2 ^ 31) : ¬ plI (some k) = -1 := fun e => by
  have h1 : (nI k).toInt = (-1 : Int32).toInt := congrArg Int32.toInt e
  rw [nI_toInt h] at h1
  have h2 : (-1 : Int32).toInt = -1 := by decide
  omega
theorem nI_m1 {k : Nat} (h : k < 2 ^ 31) : ¬ nI k = -1 := plI_ne h
/-- how many of the first m P holds at -/
def cntB (P : Nat → Bool) : Nat → Nat
  | 0 => 0
  | m + 1 => cntB P m + (if P m then 1 else 0)
theorem cntB_le (P : Nat → Bool) : ∀ m, cntB P m ≤ m
  | 0 => Nat.le_refl _
  | m + 1 => by unfold cntB; have := cntB_le P m; split <;> omega
theorem nI_bz (k : Nat) (b : Bool) : nI (k + (if b then 1 else 0)) = nI k + bz b := by cases b <;> simp [bz, nI_add] <;> rw [← nI_add] <;> rfl
