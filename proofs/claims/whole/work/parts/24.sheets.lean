/-! ===== a sheet (a FILE): n lines, bytes β, ids ι ===== -/
def Sh (w : Fw) (a n : Nat) (B I : Nat → Int32) (ra rb : Nat) : Prop :=
  w a = some (.inr (.inr (4, [.int (nI n), .ref (a + 1), .ref (a + 2), .ref ra, .ref rb]))) ∧ w (a + 1) = some (.inl (32, B)) ∧ w (a + 2) = some (.inl (32, I))
theorem Sh.frame {w w' : Fw} {a n ra rb : Nat} {B I : Nat → Int32} (h : Sh w a n B I ra rb) (he : ∀ q, a ≤ q → q < a + 3 → w' q = w q) : Sh w' a n B I ra rb :=
  ⟨by rw [he a (by omega) (by omega)]; exact h.1, by rw [he _ (by omega) (by omega)]; exact h.2.1, by rw [he _ (by omega) (by omega)]; exact h.2.2⟩
/-- the arrays hold these numbers -/
def Nn (n : Nat) (B : Nat → Int32) (β : Nat → Nat) (top : Nat) : Prop := ∀ k, k < n → B k = nI (β k) ∧ β k < top
def nmsN (β : Nat → Nat) (kd : Nat) : Nat → Int32
  | 0 => 0
  | n + 1 => if β n / 32 = kd then nmsN β kd n ||| ((1 : Int32) <<< (nI (β n % 32) &&& 31)) else nmsN β kd n
def impN (β : Nat → Nat) : Nat → Int32
  | 0 => 0
  | n + 1 => if β n / 32 = 5 then impN β n ||| ((1 : Int32) <<< (nI (β n % 32 % 6) &&& 31)) else impN β n
theorem kind_n {x : Nat} (h : x < 256) : nI x >>> ((5 : Int32) &&& 31) = nI (x / 32) := pk_shrN (by omega) _ 5 (by decide)
theorem num_n (x : Nat) (h : x < 256) : nI x &&& 31 = nI (x % 32) := pk_andN (by omega) 5 (by decide)
theorem rem6 {x : Nat} (h : x < 2 ^ 31) : nI x - nI x / 6 * 6 = nI (x % 6) := pk_rem h (by decide) (by decide)
section SHEET
variable {w : Fw} {a n ra rb : Nat} {B I : Nat → Int32}
theorem Sh.g0 (h : Sh w a n B I ra rb) : gI w a 4 0 = some (nI n) := gI_ok h.1 rfl
theorem Sh.g1 (h : Sh w a n B I ra rb) : gR w a 4 1 = some (a + 1) := gR_ok h.1 rfl
theorem Sh.g2 (h : Sh w a n B I ra rb) : gR w a 4 2 = some (a + 2) := gR_ok h.1 rfl
theorem Sh.g3 (h : Sh w a n B I ra rb) : gR w a 4 3 = some ra := gR_ok h.1 rfl
theorem Sh.g4 (h : Sh w a n B I ra rb) : gR w a 4 4 = some rb := gR_ok h.1 rfl
theorem Sh.o (h : Sh w a n B I ra rb) : isO w a 4 = some () := isO_ok h.1
theorem X4_size_q (h : Sh w a n B I ra rb) : fX4_size w a = some (nI n) := by simp [fX4_size, h.g0]
theorem X4_findings_q (h : Sh w a n B I ra rb) : fX4_findings w a = some ra := by simp [fX4_findings, h.g3]
theorem X4_byteAt_q (h : Sh w a n B I ra rb) {k : Nat} (hk : k < 32) : fX4_byteAt w a (nI k) = some (B k) := by
  simp only [fX4_byteAt, h.g1, Option.bind_some, lI_ok h.2.1 hk (by decide)]
theorem X4_idAt_q (h : Sh w a n B I ra rb) {k : Nat} (hk : k < 32) : fX4_idAt w a (nI k) = some (I k) := by
  simp only [fX4_idAt, h.g2, Option.bind_some, lI_ok h.2.2 hk (by decide)]
theorem X4_kindAt_q (h : Sh w a n B I ra rb) {β : Nat → Nat} (hβ : Nn n B β 256) (hn : n ≤ 32) {k : Nat} (hk : k < n) : fX4_kindAt w a (nI k) = some (nI (β k / 32)) := by
  simp only [fX4_kindAt, h.g1, Option.bind_some, lI_ok h.2.1 (show k < 32 by omega) (by decide), (hβ k hk).1, kind_n (hβ k hk).2]
theorem X4_numberAt_q (h : Sh w a n B I ra rb) {β : Nat → Nat} (hβ : Nn n B β 256) (hn : n ≤ 32) {k : Nat} (hk : k < n) : fX4_numberAt w a (nI k) = some (nI (β k % 32)) := by
  simp only [fX4_numberAt, h.g1, Option.bind_some, lI_ok h.2.1 (show k < 32 by omega) (by decide), (hβ k hk).1, num_n _ (hβ k hk).2]
theorem X4_hasLine_q (h : Sh w a n B I ra rb) (hn : n ≤ 32) (x : Int32) : fX4_hasLine w a x = some (bz (decide (0 ≤ x ∧ x < nI n))) := by
  rw [fX4_hasLine]
  by_cases h0 : x < 0
  · have h0' : ¬ 0 ≤ x := Int32.not_le.mpr h0
    simp [h0, h0', fX4_hasLine_b16, fX4_hasLine_b17, bz, zb]
  · have h0' : 0 ≤ x := Int32.not_lt.mp h0
    by_cases h1 : nI n ≤ x
    · have h1' : ¬ x < nI n := Int32.not_lt.mpr h1
      simp [h0, h0', h.g0, h1, h1', fX4_hasLine_b16, fX4_hasLine_b17, bz, zb]
    · have h1' : x < nI n := Int32.not_le.mp h1
      simp [h0, h0', h.g0, h1, h1', fX4_hasLine_b17, bz, zb]
theorem X4_takesLine_q (h : Sh w a n B I ra rb) (hn : n ≤ 32) (x : Int32) : fX4_takesLine w a x = some (bz (decide (0 ≤ x ∧ x ≤ nI n ∧ n < 32))) := by
  rw [fX4_takesLine]
  by_cases h0 : x < 0
  · have h0' : ¬ 0 ≤ x := Int32.not_le.mpr h0
    simp [h0, h0', fX4_takesLine_b25, fX4_takesLine_b26, bz, zb]
  · have h0' : 0 ≤ x := Int32.not_lt.mp h0
    by_cases h1 : nI n < x
    · have h1' : ¬ x ≤ nI n := Int32.not_le.mpr h1
      simp [h0, h0', h.g0, h1, h1', fX4_takesLine_b25, fX4_takesLine_b26, bz, zb]
    · have h1' : x ≤ nI n := Int32.not_lt.mp h1
      by_cases h2 : n < 32
      · have h2' : ¬ (32 : Int32) ≤ nI n := nI_ge (b := 32) h2 (by decide)
        simp [h0, h0', h.g0, h1, h1', h2, h2', fX4_takesLine_b26, bz, zb]
      · have h2' : (32 : Int32) ≤ nI n := nI_le (a := 32) (by omega) (by omega)
        simp [h0, h0', h.g0, h1, h1', h2, h2', fX4_takesLine_b25, fX4_takesLine_b26, bz, zb]
theorem X4_numbersOf_loop (h : Sh w a n B I ra rb) {β : Nat → Nat} (hβ : Nn n B β 256) (hn : n ≤ 32) {kd : Nat} (hkd : kd < 8) : ∀ (m k fuel : Nat), k + m = n → m < fuel → fX4_numbersOf_L4 w fuel a (nI kd) (nmsN β kd k) (nI k) = some (nmsN β kd n)
  | m, k, 0, hk, hf => by omega
  | 0, k, fuel + 1, hk, hf => by
    have hle : nI n ≤ nI k := nI_le (by omega) (by omega)
    have : k = n := by omega
    subst this
    rw [fX4_numbersOf_L4]
    simp [h.g0, hle]
  | m + 1, k, fuel + 1, hk, hf => by
    have hle : ¬ nI n ≤ nI k := nI_ge (by omega) (by omega)
    have ih := X4_numbersOf_loop h hβ hn hkd m (k + 1) fuel (by omega) (by omega)
    have hb := (hβ k (by omega)).2
    rw [fX4_numbersOf_L4]
    simp only [h.g0, Option.bind_some, hle, if_false, h.o, X4_kindAt_q h hβ hn (show k < n by omega), X4_numberAt_q h hβ hn (show k < n by omega), fX4_numbersOf_b31, nI_1]
    rw [← ih, nmsN]
    by_cases hq : β k / 32 = kd
    · rw [if_pos hq, if_pos (by rw [hq])]
    · rw [if_neg hq, if_neg (fun e => hq ((nI_eq (by omega) (by omega)).mp e))]
theorem X4_numbersOf_q (h : Sh w a n B I ra rb) {β : Nat → Nat} (hβ : Nn n B β 256) (hn : n ≤ 32) {kd : Nat} (hkd : kd < 8) : fX4_numbersOf w a (nI kd) = some (nmsN β kd n) := by
  rw [fX4_numbersOf]
  exact X4_numbersOf_loop h hβ hn hkd n 0 1000 (by omega) (by omega)
theorem X4_importedFiles_loop (h : Sh w a n B I ra rb) {β : Nat → Nat} (hβ : Nn n B β 256) (hn : n ≤ 32) : ∀ (m k fuel : Nat), k + m = n → m < fuel → fX4_importedFiles_L4 w fuel a (impN β k) (nI k) = some (impN β n)
  | m, k, 0, hk, hf => by omega
  | 0, k, fuel + 1, hk, hf => by
    have hle : nI n ≤ nI k := nI_le (by omega) (by omega)
    have : k = n := by omega
    subst this
    rw [fX4_importedFiles_L4]
    simp [h.g0, hle]
  | m + 1, k, fuel + 1, hk, hf => by
    have hle : ¬ nI n ≤ nI k := nI_ge (by omega) (by omega)
    have ih := X4_importedFiles_loop h hβ hn m (k + 1) fuel (by omega) (by omega)
    have hb := (hβ k (by omega)).2
    have hk5 : ∀ x, nI x = (5 : Int32) ↔ nI x = nI 5 := fun _ => Iff.rfl
    rw [fX4_importedFiles_L4]
    simp only [h.g0, Option.bind_some, hle, if_false, h.o, X4_kindAt_q h hβ hn (show k < n by omega), X4_numberAt_q h hβ hn (show k < n by omega), fX4_importedFiles_b34, nI_1, rem6 (show β k % 32 < 2 ^ 31 by omega)]
    rw [← ih, impN]
    by_cases hq : β k / 32 = 5
    · rw [if_pos hq, if_pos (by rw [hq]; rfl)]
    · have h9 : ¬ nI (β k / 32) = (5 : Int32) := fun e => hq ((nI_eq (b := 5) (by omega) (by omega)).mp e)
      rw [if_neg hq, if_neg h9]
theorem X4_importedFiles_q (h : Sh w a n B I ra rb) {β : Nat → Nat} (hβ : Nn n B β 256) (hn : n ≤ 32) : fX4_importedFiles w a = some (impN β n) := by
  rw [fX4_importedFiles]
  exact X4_importedFiles_loop h hβ hn n 0 1000 (by omega) (by omega)
-- writes
theorem Sh.sB (h : Sh w a n B I ra rb) {i : Nat} (hi : i < 32) (x : Int32) : ∃ w', sI w (a + 1) (nI i) x = some w' ∧ Sh w' a n (upd B i x) I ra rb ∧ Out w w' a (a + 3) :=
  ⟨_, sI_ok h.2.1 hi (by decide), by obtain ⟨h0, h1, h2⟩ := h; simp [Sh, fup, *], Out.fup (by omega) (by omega)⟩
theorem Sh.sI (h : Sh w a n B I ra rb) {i : Nat} (hi : i < 32) (x : Int32) : ∃ w', sI w (a + 2) (nI i) x = some w' ∧ Sh w' a n B (upd I i x) ra rb ∧ Out w w' a (a + 3) :=
  ⟨_, sI_ok h.2.2 hi (by decide), by obtain ⟨h0, h1, h2⟩ := h; simp [Sh, fup, *], Out.fup (by omega) (by omega)⟩
theorem Sh.sn (h : Sh w a n B I ra rb) (k : Nat) : ∃ w', pF w a 4 0 (.int (nI k)) = some w' ∧ Sh w' a k B I ra rb ∧ Out w w' a (a + 3) :=
  ⟨_, pF_ok h.1 (by simp), by obtain ⟨h0, h1, h2⟩ := h; simp [Sh, fup, *], Out.fup (by omega) (by omega)⟩
/-- a place opened at 'at', from k down -/
def insF (B : Nat → Int32) (t k n : Nat) : Nat → Int32 := fun j => if k < j ∧ j ≤ n then B (j - 1) else B j
theorem insF_step {B : Nat → Int32} {t k n : Nat} (hk : k + 1 ≤ n) : upd (insF B t (k + 1) n) (k + 1) (insF B t (k + 1) n k) = insF B t k n := by
  funext j
  unfold upd insF
  by_cases hj : j = k + 1
  · subst hj; simp [hk]; omega
  · by_cases h2 : k < j ∧ j ≤ n
    · simp [hj, h2, show k + 1 < j by omega]
    · simp only [hj, if_false]
      rw [if_neg (by omega), if_neg (by omega)]
theorem X4_insert_loop {a n t ra rb : Nat} {B I : Nat → Int32} (ht : t ≤ n) (hn : n < 32) (v id : Int32) : ∀ (m k fuel : Nat) (w : Fw), t + m = k → k ≤ n → m < fuel → Sh w a n (insF B t k n) (insF I t k n) ra rb → ∃ w', fX4_insert_L6 fuel w a (nI t) v id (nI k) = some w' ∧ Sh w' a (n + 1) (upd (insF B t t n) t v) (upd (insF I t t n) t id) ra rb ∧ Out w w' a (a + 3)
  | m, k, 0, w, h1, h2, h3, h => by omega
  | 0, k, fuel + 1, w, h1, h2, h3, h => by
    have hle : nI k ≤ nI t := nI_le (by omega) (by omega)
    have : k = t := by omega
    subst this
    rw [fX4_insert_L6, if_pos hle]
    simp only [h.g1, Option.bind_some]
    obtain ⟨w1, e1, q1, o1⟩ := h.sB (show k < 32 by omega) v
    simp only [e1, Option.bind_some, q1.g2]
    obtain ⟨w2, e2, q2, o2⟩ := q1.sI (show k < 32 by omega) id
    simp only [e2, Option.bind_some, q2.g0, nI_1]
    obtain ⟨w3, e3, q3, o3⟩ := q2.sn (n + 1)
    rw [e3, Option.bind_some]
    exact ⟨w3, rfl, q3, (o1.tr o2).tr o3⟩
  | m + 1, k, fuel + 1, w, h1, h2, h3, h => by
    obtain ⟨k', rfl⟩ : ∃ k', k = k' + 1 := ⟨k - 1, by omega⟩
    have hle : ¬ nI (k' + 1) ≤ nI t := nI_ge (by omega) (by omega)
    rw [fX4_insert_L6, if_neg hle]
    simp only [h.g1, Option.bind_some, nI_pred, lI_ok h.2.1 (show k' < 32 by omega) (by decide)]
    obtain ⟨w1, e1, q1, o1⟩ := h.sB (show k' + 1 < 32 by omega) (insF B t (k' + 1) n k')
    simp only [e1, Option.bind_some, q1.g2, lI_ok q1.2.2 (show k' < 32 by omega) (by decide)]
    obtain ⟨w2, e2, q2, o2⟩ := q1.sI (show k' + 1 < 32 by omega) (insF I t (k' + 1) n k')
    simp only [e2, Option.bind_some, pk_m1]
    rw [insF_step (by omega), insF_step (by omega)] at q2
    obtain ⟨w3, e3, q3, o3⟩ := X4_insert_loop ht hn v id m k' fuel w2 (by omega) (by omega) (by omega) q2
    exact ⟨w3, e3, q3, (o1.tr o2).tr o3⟩
theorem insF_top {B : Nat → Int32} {t n : Nat} : insF B t n n = B := by
  funext j
  unfold insF
  rw [if_neg (by omega)]
/-- a line put in at t -/
def insN (β : Nat → Nat) (t v : Nat) : Nat → Nat := fun j => if j < t then β j else if j = t then v else β (j - 1)
theorem insN_ok {n t v top : Nat} {B : Nat → Int32} {β : Nat → Nat} (hβ : Nn n B β top) (ht : t ≤ n) (hv : v < top) : Nn (n + 1) (upd (insF B t t n) t (nI v)) (insN β t v) top := by
  intro k hk
  unfold upd insF insN
  by_cases h1 : k = t
  · subst h1
    simp [hv]
  · by_cases h2 : k < t
    · simp only [h1, if_false, h2, if_true]
      rw [if_neg (by omega)]
      exact hβ k (by omega)
    · simp only [h1, if_false, h2]
      rw [if_pos (by omega)]
      exact hβ (k - 1) (by omega)
theorem X4_insert_q (h : Sh w a n B I ra rb) {t : Nat} (ht : t ≤ n) (hn : n < 32) (v id : Int32) : ∃ w', fX4_insert w a (nI t) v id = some w' ∧ Sh w' a (n + 1) (upd (insF B t t n) t v) (upd (insF I t t n) t id) ra rb ∧ Out w w' a (a + 3) := by
  rw [fX4_insert, h.g0, Option.bind_some]
  exact X4_insert_loop ht hn v id (n - t) n 1000 w (by omega) (by omega) (by omega) (by rw [insF_top, insF_top]; exact h)
def cutF (B : Nat → Int32) (t k : Nat) : Nat → Int32 := fun j => if t ≤ j ∧ j < k then B (j + 1) else B j
theorem cutF_step {B : Nat → Int32} {t k : Nat} (hk : t ≤ k) : upd (cutF B t k) k (cutF B t k (k + 1)) = cutF B t (k + 1) := by
  funext j
  unfold upd cutF
  by_cases hj : j = k
  · subst hj; simp [hk]; omega
  · simp only [hj, if_false]
    by_cases h2 : t ≤ j ∧ j < k
    · rw [if_pos h2, if_pos (by omega)]
    · rw [if_neg h2, if_neg (by omega)]
def cutN (β : Nat → Nat) (t : Nat) : Nat → Nat := fun j => if j < t then β j else β (j + 1)
theorem cutN_ok {n t top : Nat} {B : Nat → Int32} {β : Nat → Nat} (hβ : Nn (n + 1) B β top) : Nn n (cutF B t n) (cutN β t) top := by
  intro k hk
  unfold cutF cutN
  by_cases h2 : k < t
  · rw [if_neg (by omega), if_pos h2]; exact hβ k (by omega)
  · rw [if_pos (by omega), if_neg h2]; exact hβ (k + 1) (by omega)
theorem X4_remove_loop {a n t ra rb : Nat} {B I : Nat → Int32} (hn : n < 32) : ∀ (m k fuel : Nat) (w : Fw), k + m = n → t ≤ k → m < fuel → Sh w a n (cutF B t k) (cutF I t k) ra rb → ∃ w', fX4_remove_L12 fuel w a (nI k) = some w' ∧ Sh w' a n (cutF B t n) (cutF I t n) ra rb ∧ Out w w' a (a + 3)
  | m, k, 0, w, h1, h2, h3, h => by omega
  | 0, k, fuel + 1, w, h1, h2, h3, h => by
    have hle : nI n ≤ nI k := nI_le (by omega) (by omega)
    have : k = n := by omega
    subst this
    rw [fX4_remove_L12]
    exact ⟨w, by simp [h.g0, hle], h, Out.rf⟩
  | m + 1, k, fuel + 1, w, h1, h2, h3, h => by
    have hle : ¬ nI n ≤ nI k := nI_ge (by omega) (by omega)
    rw [fX4_remove_L12]
    simp only [h.g0, h.g1, Option.bind_some, hle, if_false, nI_1, lI_ok h.2.1 (show k + 1 < 32 by omega) (by decide)]
    obtain ⟨w1, e1, q1, o1⟩ := h.sB (show k < 32 by omega) (cutF B t k (k + 1))
    simp only [e1, Option.bind_some, q1.g2, lI_ok q1.2.2 (show k + 1 < 32 by omega) (by decide)]
    obtain ⟨w2, e2, q2, o2⟩ := q1.sI (show k < 32 by omega) (cutF I t k (k + 1))
    simp only [e2, Option.bind_some]
    rw [cutF_step h2, cutF_step h2] at q2
    obtain ⟨w3, e3, q3, o3⟩ := X4_remove_loop hn m (k + 1) fuel w2 (by omega) (by omega) (by omega) q2
    exact ⟨w3, e3, q3, (o1.tr o2).tr o3⟩
theorem cutF_bot {B : Nat → Int32} {t : Nat} : cutF B t t = B := by
  funext j
  unfold cutF
  rw [if_neg (by omega)]
theorem X4_remove_q {n : Nat} (h : Sh w a (n + 1) B I ra rb) {t : Nat} (ht : t ≤ n) (hn : n < 32) : ∃ w', fX4_remove w a (nI t) = some w' ∧ Sh w' a n (cutF B t n) (cutF I t n) ra rb ∧ Out w w' a (a + 3) := by
  rw [fX4_remove, h.g0, Option.bind_some, nI_pred]
  obtain ⟨w1, e1, q1, o1⟩ := h.sn n
  rw [e1, Option.bind_some]
  obtain ⟨w3, e3, q3, o3⟩ := X4_remove_loop (t := t) (B := B) (I := I) hn (n - t) t 1000 w1 (by omega) (by omega) (by omega) (by rw [cutF_bot, cutF_bot]; exact q1)
  exact ⟨w3, e3, q3, o1.tr o3⟩
theorem X4_replace_q (h : Sh w a n B I ra rb) {t : Nat} (ht : t < 32) (v : Int32) : ∃ w', fX4_replace w a (nI t) v = some w' ∧ Sh w' a n (upd B t v) I ra rb ∧ Out w w' a (a + 3) := by
  rw [fX4_replace, h.g1, Option.bind_some]
  obtain ⟨w1, e1, q1, o1⟩ := h.sB ht v
  rw [e1, Option.bind_some]
  exact ⟨w1, rfl, q1, o1⟩
def setN (β : Nat → Nat) (t v : Nat) : Nat → Nat := fun j => if j = t then v else β j
theorem setN_ok {n t v top : Nat} {B : Nat → Int32} {β : Nat → Nat} (hβ : Nn n B β top) (hv : v < top) : Nn n (upd B t (nI v)) (setN β t v) top := by
  intro k hk
  unfold upd setN
  by_cases h1 : k = t
  · simp [h1, hv]
  · simp only [h1, if_false]; exact hβ k hk
end SHEET
