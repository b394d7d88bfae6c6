/-! ===== OPEN and CLOSE ===== -/
def dep (β : Nat → Nat) : Nat → Nat
  | 0 => 0
  | j + 1 => if β j / 32 = 3 then dep β j + 1 else if β j / 32 = 4 then dep β j - 1 else dep β j
theorem dep_le (β : Nat → Nat) : ∀ k, dep β k ≤ k
  | 0 => Nat.le_refl _
  | k + 1 => by have := dep_le β k; unfold dep; split <;> (try split) <;> omega
def lone (β : Nat → Nat) (n k : Nat) : Bool := (decide (β k / 32 = 4) && decide (dep β k = 0)) || (decide (β k / 32 = 3) && (List.range n).all fun j => decide (j < k) || decide (dep β k < dep β (j + 1)))
def StkOK (β : Nat → Nat) (k : Nat) (S : Nat → Nat) : Prop := ∀ p, p < dep β k → S p < k ∧ β (S p) / 32 = 3 ∧ dep β (S p) = p ∧ ∀ j, S p ≤ j → j < k → p < dep β (j + 1)
def accS (l : Int32) (S : Nat → Nat) : Nat → Int32
  | 0 => l
  | q + 1 => accS l S q ||| ((1 : Int32) <<< (nI (S q) &&& 31))
theorem bt_accS {l : Int32} {S : Nat → Nat} : ∀ {q : Nat}, (∀ p, p < q → S p < 32) → ∀ {x : Nat}, x < 32 → bt (accS l S q) x = (bt l x || (List.range q).any fun p => decide (S p = x))
  | 0, _, x, hx => by simp [accS]
  | q + 1, h, x, hx => by
    have ih := bt_accS (l := l) (S := S) (q := q) (fun p hp => h p (by omega)) hx
    unfold accS
    rw [b_or, ih, any_succ, bt_one _ (h q (by omega)) x hx, Bool.or_assoc]
    congr 2
    exact decide_eq_decide.mpr ⟨fun e => e.symm, fun e => e.symm⟩
theorem lone_bits {β S : Nat → Nat} {n : Nat} (hn : n ≤ 32) (hS : StkOK β n S) : accS (bitsN (fun k => decide (β k / 32 = 4) && decide (dep β k = 0)) n) S (dep β n) = bitsN (lone β n) n := by
  apply b_ext
  intro x hx
  rw [bt_accS (fun p hp => by have := (hS p hp).1; omega) hx, bt_bitsN hn hx, bt_bitsN hn hx, Bool.eq_iff_iff]
  simp only [Bool.or_eq_true, Bool.and_eq_true, decide_eq_true_eq, any_iff, lone, List.all_eq_true, List.mem_range]
  constructor
  · rintro (⟨h1, h2⟩ | ⟨p, hp, rfl⟩)
    · exact ⟨h1, Or.inl h2⟩
    · obtain ⟨s1, s2, s3, s4⟩ := hS p hp
      refine ⟨s1, Or.inr ⟨s2, fun j hj => ?_⟩⟩
      by_cases hlt : j < S p
      · exact Or.inl hlt
      · exact Or.inr (by rw [s3]; exact s4 j (by omega) hj)
  · rintro ⟨h1, h2 | ⟨h2, h3⟩⟩
    · exact Or.inl ⟨h1, h2⟩
    · have hd : dep β x < dep β n := by
        have h9 := h3 (n - 1) (by omega)
        rw [show n - 1 + 1 = n by omega] at h9
        rcases h9 with h9 | h9
        · omega
        · exact h9
      obtain ⟨s1, s2, s3, s4⟩ := hS _ hd
      refine Or.inr ⟨dep β x, hd, ?_⟩
      rcases Nat.lt_trichotomy (S (dep β x)) x with q | q | q
      · have h9 := s4 (x - 1) (by omega) (by omega)
        rw [show x - 1 + 1 = x by omega] at h9
        omega
      · exact q
      · have h9 := h3 (S (dep β x) - 1) (by omega)
        rw [show S (dep β x) - 1 + 1 = S (dep β x) by omega] at h9
        rcases h9 with h9 | h9 <;> omega
def Ck (w : Fw) (c : Nat) (F O : Nat → Int32) : Prop := w c = some (.inr (.inr (0, [.ref (c + 1), .ref (c + 2)]))) ∧ w (c + 1) = some (.inl (5, F)) ∧ w (c + 2) = some (.inl (32, O))
theorem Ck.frame {w w' : Fw} {c : Nat} {F O : Nat → Int32} (h : Ck w c F O) (he : ∀ q, c ≤ q → q < c + 3 → w' q = w q) : Ck w' c F O :=
  ⟨by rw [he c (by omega) (by omega)]; exact h.1, by rw [he _ (by omega) (by omega)]; exact h.2.1, by rw [he _ (by omega) (by omega)]; exact h.2.2⟩
section CHK2
variable {w : Fw} {c : Nat} {F O : Nat → Int32}
theorem Ck.g0 (h : Ck w c F O) : gR w c 0 0 = some (c + 1) := gR_ok h.1 rfl
theorem Ck.g1 (h : Ck w c F O) : gR w c 0 1 = some (c + 2) := gR_ok h.1 rfl
theorem Ck.o (h : Ck w c F O) : isO w c 0 = some () := isO_ok h.1
theorem Ck.sF (h : Ck w c F O) {i : Nat} (hi : i < 5) (x : Int32) : ∃ w', sI w (c + 1) (nI i) x = some w' ∧ Ck w' c (upd F i x) O ∧ Out w w' c (c + 3) :=
  ⟨_, sI_ok h.2.1 hi (by decide), by obtain ⟨h0, h1, h2⟩ := h; simp [Ck, fup, *], Out.fup (by omega) (by omega)⟩
theorem Ck.sO (h : Ck w c F O) {i : Nat} (hi : i < 32) (x : Int32) : ∃ w', sI w (c + 2) (nI i) x = some w' ∧ Ck w' c F (upd O i x) ∧ Out w w' c (c + 3) :=
  ⟨_, sI_ok h.2.2 hi (by decide), by obtain ⟨h0, h1, h2⟩ := h; simp [Ck, fup, *], Out.fup (by omega) (by omega)⟩
theorem X0_unpaired_end (h : Ck w c F O) {S : Nat → Nat} {d : Nat} (hd : d ≤ 32) (hO : ∀ p, p < d → O p = nI (S p)) (l : Int32) : ∀ (m q fuel : Nat), q + m = d → m < fuel → fX0_unpaired_L82 fuel w c (accS l S q) (nI d) (nI q) = some (accS l S d, w)
  | m, q, 0, h1, h2 => by omega
  | 0, q, fuel + 1, h1, h2 => by
    have hle : nI d ≤ nI q := nI_le (by omega) (by omega)
    have : q = d := by omega
    subst this
    rw [fX0_unpaired_L82, if_pos hle]
  | m + 1, q, fuel + 1, h1, h2 => by
    have hle : ¬ nI d ≤ nI q := nI_ge (by omega) (by omega)
    rw [fX0_unpaired_L82, if_neg hle]
    simp only [h.g1, Option.bind_some, lI_ok h.2.2 (show q < 32 by omega) (by decide), hO q (by omega), nI_1]
    exact X0_unpaired_end h hd hO l m (q + 1) fuel (by omega) (by omega)
theorem X0_unpaired_loop {a n ra rb : Nat} {B I : Nat → Int32} {β : Nat → Nat} (hβ : Nn n B β 256) (hn : n ≤ 32) (hac : a + 3 ≤ c ∨ c + 3 ≤ a) : ∀ (m k fuel : Nat) (w : Fw) (F O : Nat → Int32) (S : Nat → Nat), k + m = n → m < fuel → Sh w a n B I ra rb → Ck w c F O → StkOK β k S → (∀ p, p < dep β k → O p = nI (S p)) → ∃ w' O', fX0_unpaired_L7 fuel w c a (bitsN (fun k => decide (β k / 32 = 4) && decide (dep β k = 0)) k) (nI (dep β k)) (nI k) = some (bitsN (lone β n) n, w') ∧ Ck w' c F O' ∧ Out w w' c (c + 3)
  | m, k, 0, w, F, O, S, h1, h2, h, hc, hS, hO => by omega
  | 0, k, fuel + 1, w, F, O, S, h1, h2, h, hc, hS, hO => by
    have hle : nI n ≤ nI k := nI_le (by omega) (by omega)
    have : k = n := by omega
    subst this
    rw [fX0_unpaired_L7]
    simp only [h.o, X4_size_q h, Option.bind_some, hle, if_true]
    have hd := dep_le β k
    have h9 := X0_unpaired_end hc (d := dep β k) (by omega) hO (bitsN (fun k => decide (β k / 32 = 4) && decide (dep β k = 0)) k) (dep β k) 0 1000 (by omega) (by omega)
    rw [lone_bits hn hS] at h9
    exact ⟨w, O, h9, hc, Out.rf⟩
  | m + 1, k, fuel + 1, w, F, O, S, h1, h2, h, hc, hS, hO => by
    have hle : ¬ nI n ≤ nI k := nI_ge (by omega) (by omega)
    have hb := (hβ k (by omega)).2
    have hd := dep_le β k
    rw [fX0_unpaired_L7]
    simp only [h.o, X4_size_q h, Option.bind_some, hle, if_false, X4_kindAt_q h hβ hn (show k < n by omega), fX0_unpaired_b60, fX0_unpaired_b73, nI_1, nI_is3 (show β k / 32 < 2 ^ 31 by omega), nI_is4 (show β k / 32 < 2 ^ 31 by omega)]
    by_cases h3 : β k / 32 = 3
    · simp only [h3, if_true, hc.g1, Option.bind_some]
      obtain ⟨w1, e1, q1, o1⟩ := hc.sO (show dep β k < 32 by omega) (nI k)
      simp only [e1, Option.bind_some]
      have hdk : dep β (k + 1) = dep β k + 1 := by rw [dep, if_pos h3]
      have hsh := h.frame (w' := w1) (fun q q1 q2 => o1 q (by omega))
      obtain ⟨w2, O2, e2, q2, o2⟩ := X0_unpaired_loop hβ hn hac m (k + 1) fuel w1 F _ (setN S (dep β k) k) (by omega) (by omega) hsh q1 (by
        intro p hp
        unfold setN
        by_cases hpd : p = dep β k
        · subst hpd
          simp only [if_true]
          refine ⟨by omega, h3, trivial, fun j j1 j2 => ?_⟩
          rw [show j = k by omega, hdk]; omega
        · simp only [hpd, if_false]
          obtain ⟨s1, s2, s3, s4⟩ := hS p (by omega)
          refine ⟨by omega, s2, s3, fun j j1 j2 => ?_⟩
          by_cases hjk : j = k
          · rw [hjk, hdk]; omega
          · exact s4 j j1 (by omega)) (by
        intro p hp
        unfold setN upd
        by_cases hpd : p = dep β k
        · simp [hpd]
        · simp only [hpd, if_false]; exact hO p (by omega))
      refine ⟨w2, O2, ?_, q2, o1.tr o2⟩
      rw [← e2, bitsN, hdk]
      simp [h3]
    · by_cases h4 : β k / 32 = 4
      · have hdk : dep β (k + 1) = dep β k - 1 := by rw [dep, if_neg h3, if_pos h4]
        have hs1 : StkOK β (k + 1) S := by
          intro p hp
          obtain ⟨s1, s2, s3, s4⟩ := hS p (by omega)
          refine ⟨by omega, s2, s3, fun j j1 j2 => ?_⟩
          by_cases hjk : j = k
          · rw [hjk]; exact hp
          · exact s4 j j1 (by omega)
        obtain ⟨w2, O2, e2, q2, o2⟩ := X0_unpaired_loop hβ hn hac m (k + 1) fuel w F O S (by omega) (by omega) h hc hs1 (fun p hp => hO p (by omega))
        refine ⟨w2, O2, ?_, q2, o2⟩
        rw [← e2, bitsN, hdk]
        by_cases hz : dep β k = 0
        · have hz0 : nI (dep β k) ≤ 0 := by rw [hz]; decide
          rw [if_neg h3, if_pos h4, if_pos hz0, if_pos h4, if_pos (by simp [h4, hz])]
          rw [hz]
        · have hz0 : ¬ nI (dep β k) ≤ 0 := nI_nle (by omega) (by omega)
          obtain ⟨d', hd'⟩ : ∃ d', dep β k = d' + 1 := ⟨dep β k - 1, by omega⟩
          rw [hd'] at hz0
          simp only [h4, hd', hz0, if_true, if_false, pk_m1]
          simp
      · have hdk : dep β (k + 1) = dep β k := by rw [dep, if_neg h3, if_neg h4]
        have hs1 : StkOK β (k + 1) S := by
          intro p hp
          obtain ⟨s1, s2, s3, s4⟩ := hS p (by omega)
          refine ⟨by omega, s2, s3, fun j j1 j2 => ?_⟩
          by_cases hjk : j = k
          · rw [hjk]; exact hp
          · exact s4 j j1 (by omega)
        obtain ⟨w2, O2, e2, q2, o2⟩ := X0_unpaired_loop hβ hn hac m (k + 1) fuel w F O S (by omega) (by omega) h hc hs1 (fun p hp => hO p (by omega))
        refine ⟨w2, O2, ?_, q2, o2⟩
        rw [← e2, bitsN, hdk]
        simp [h3, h4]
theorem X0_unpaired_q {a n ra rb : Nat} {B I : Nat → Int32} {β : Nat → Nat} (hβ : Nn n B β 256) (hn : n ≤ 32) (hac : a + 3 ≤ c ∨ c + 3 ≤ a) (h : Sh w a n B I ra rb) (hc : Ck w c F O) : ∃ w' O', fX0_unpaired w c a = some (bitsN (lone β n) n, w') ∧ Ck w' c F O' ∧ Out w w' c (c + 3) := by
  rw [fX0_unpaired]
  exact X0_unpaired_loop hβ hn hac n 0 1000 w F O (fun _ => 0) (by omega) (by omega) h hc (fun p hp => by simp [dep] at hp) (fun p hp => by simp [dep] at hp)
end CHK2
/-! ===== the checker over all files ===== -/
def FO (w : Fw) (sa : Nat) (ad n : Nat → Nat) (β : Nat → Nat → Nat) : Prop := ∀ f, f < 6 → lR w 0 sa (nI f) = some (ad f) ∧ n f ≤ 32 ∧ ∃ B I ra rb, Sh w (ad f) (n f) B I ra rb ∧ Nn (n f) B (β f) 256
theorem lR_frame {w w' : Fw} {kd a : Nat} {i : Int32} (h : w' a = w a) : lR w' kd a i = lR w kd a i := by unfold lR; rw [h]
theorem FO.frame {w w' : Fw} {sa : Nat} {ad n : Nat → Nat} {β : Nat → Nat → Nat} (h : FO w sa ad n β) (hs : w' sa = w sa) (hf : ∀ f, f < 6 → ∀ q, ad f ≤ q → q < ad f + 3 → w' q = w q) : FO w' sa ad n β := by
  intro f hf6
  obtain ⟨h1, h2, B, I, ra, rb, h3, h4⟩ := h f hf6
  exact ⟨by rw [lR_frame hs]; exact h1, h2, B, I, ra, rb, h3.frame (hf f hf6), h4⟩
section RULES
variable (n : Nat → Nat) (β : Nat → Nat → Nat) (f : Nat)
def knwN : Nat → Int32
  | 0 => nmsN (β f) 1 (n f)
  | g + 1 => if imp (β f) (n f) g then knwN g ||| nmsN (β g) 1 (n g) else knwN g
def uslN : Nat → Int32
  | 0 => (1 : Int32) <<< (nI f &&& 31)
  | g + 1 => if nmsN (β g) 1 (n g) &&& nmsN (β f) 2 (n f) = 0 then uslN g ||| ((1 : Int32) <<< (nI g &&& 31)) else uslN g
def thereB (x : Nat) : Bool := hasK (β f) (n f) 1 x || (List.range 6).any fun g => imp (β f) (n f) g && hasK (β g) (n g) 1 x
def ruB (bad : Int32) (r k : Nat) : Bool := match r with
  | 0 => decide (β f k / 32 = 2) && !thereB n β f (β f k % 32)
  | 1 => decide (β f k / 32 = 1) && hasK (β f) k 1 (β f k % 32)
  | 2 => lone (β f) (n f) k
  | 3 => decide (β f k / 32 = 0) && bt bad (β f k % 32)
  | _ => decide (β f k / 32 = 5) && (decide (β f k % 32 % 6 = f) || decide (nmsN (β (β f k % 32 % 6)) 1 (n (β f k % 32 % 6)) &&& nmsN (β f) 2 (n f) = 0))
end RULES
theorem bt_knw {n : Nat → Nat} {β : Nat → Nat → Nat} {f : Nat} : ∀ {g x : Nat}, x < 32 → bt (knwN n β f g) x = (hasK (β f) (n f) 1 x || (List.range g).any fun g => imp (β f) (n f) g && hasK (β g) (n g) 1 x)
  | 0, x, hx => by simp [knwN, bt_nms hx]
  | g + 1, x, hx => by
    have ih := bt_knw (n := n) (β := β) (f := f) (g := g) hx
    unfold knwN
    rw [any_succ, ← Bool.or_assoc, ← ih]
    by_cases h : imp (β f) (n f) g = true
    · rw [if_pos h, b_or, bt_nms hx, h]; simp
    · rw [if_neg h]; simp [h]
theorem bt_usl {n : Nat → Nat} {β : Nat → Nat → Nat} {f : Nat} (hf : f < 6) : ∀ {g x : Nat}, g ≤ 6 → x < 32 → bt (uslN n β f g) x = (decide (x = f) || (decide (x < g) && decide (nmsN (β x) 1 (n x) &&& nmsN (β f) 2 (n f) = 0)))
  | 0, x, hg, hx => by simp [uslN, bt_one f (by omega) x hx]
  | g + 1, x, hg, hx => by
    have ih := bt_usl (n := n) (β := β) hf (g := g) (x := x) (by omega) hx
    unfold uslN
    by_cases h : nmsN (β g) 1 (n g) &&& nmsN (β f) 2 (n f) = 0
    · rw [if_pos h, b_or, ih, bt_one g (by omega) x hx]
      by_cases hxg : x = g
      · subst hxg; simp [h]
      · simp only [hxg, decide_false, Bool.or_false]
        congr 2
        simp; omega
    · rw [if_neg h, ih]
      by_cases hxg : x = g
      · subst hxg; simp [h]
      · congr 2
        simp; omega
theorem X0_check_loop {c sa : Nat} {ad n : Nat → Nat} {β : Nat → Nat → Nat} {f : Nat} (hf : f < 6) (hsa : sa < c ∨ c + 3 ≤ sa) (had : ∀ g, g < 6 → ad g + 3 ≤ c ∨ c + 3 ≤ ad g) (bad : Int32) {w : Fw} {F O : Nat → Int32} (hF : FO w sa ad n β) (hc : Ck w c F O) : ∀ (m g fuel : Nat), g + m = 6 → m < fuel → ∃ w' F' O', fX0_check_L36 fuel w c sa bad (ad f) (knwN n β f g) (nmsN (β f) 2 (n f)) (impN (β f) (n f)) (uslN n β f g) (nI g) = some w' ∧ Ck w' c F' O' ∧ (∀ r, r < 5 → F' r = bitsN (ruB n β f bad r) (n f)) ∧ Out w w' c (c + 3)
  | m, g, 0, h1, h2 => by omega
  | 0, g, fuel + 1, h1, h2 => by
    have : g = 6 := by omega
    subst this
    rw [fX0_check_L36, if_pos (by decide)]
    obtain ⟨-, hn, B, I, ra, rb, hsh, hβ⟩ := hF f hf
    have keep : ∀ {w' : Fw}, Out w w' c (c + 3) → Sh w' (ad f) (n f) B I ra rb := fun o => hsh.frame (fun q q1 q2 => o q (by have := had f hf; omega))
    have l2 := X0_linesWith_q hsh hβ hn (kd := 2) (by decide) (knwN n β f 6 ^^^ (-1))
    rw [show nI 2 = (2 : Int32) from rfl] at l2
    simp only [hc.g0, Option.bind_some, l2]
    obtain ⟨w1, e1, q1, o1⟩ := hc.sF (i := 0) (by decide) (bitsN (fun k => decide (β f k / 32 = 2) && bt (knwN n β f 6 ^^^ (-1)) (β f k % 32)) (n f))
    rw [show nI 0 = (0 : Int32) from rfl] at e1
    simp only [e1, Option.bind_some, q1.g0, X0_repeatedDefs_q (keep o1) hβ hn]
    obtain ⟨w2, e2, q2, o2⟩ := q1.sF (i := 1) (by decide) (bitsN (fun k => decide (β f k / 32 = 1) && hasK (β f) k 1 (β f k % 32)) (n f))
    rw [show nI 1 = (1 : Int32) from rfl] at e2
    simp only [e2, Option.bind_some, q2.g0, q2.o]
    obtain ⟨w3, O3, e3, q3, o3⟩ := X0_unpaired_q hβ hn (had f hf) (keep (o1.tr o2)) q2
    simp only [e3, Option.bind_some]
    obtain ⟨w4, e4, q4, o4⟩ := q3.sF (i := 2) (by decide) (bitsN (lone (β f) (n f)) (n f))
    rw [show nI 2 = (2 : Int32) from rfl] at e4
    have l0' := X0_linesWith_q (keep ((((o1.tr o2).tr o3).tr o4))) hβ hn (kd := 0) (by decide) bad
    rw [show nI 0 = (0 : Int32) from rfl] at l0'
    simp only [e4, Option.bind_some, q4.g0, l0']
    obtain ⟨w5, e5, q5, o5⟩ := q4.sF (i := 3) (by decide) (bitsN (fun k => decide (β f k / 32 = 0) && bt bad (β f k % 32)) (n f))
    rw [show nI 3 = (3 : Int32) from rfl] at e5
    simp only [e5, Option.bind_some, q5.g0, X0_importsOf_q (keep (((((o1.tr o2).tr o3).tr o4).tr o5))) hβ hn]
    obtain ⟨w6, e6, q6, o6⟩ := q5.sF (i := 4) (by decide) (bitsN (fun k => decide (β f k / 32 = 5) && bt (uslN n β f 6) (β f k % 32 % 6)) (n f))
    rw [show nI 4 = (4 : Int32) from rfl] at e6
    simp only [e6, Option.bind_some]
    refine ⟨w6, _, O3, rfl, q6, fun r hr => ?_, ((((o1.tr o2).tr o3).tr o4).tr o5).tr o6⟩
    match r, hr with
    | 0, _ =>
      simp only [upd]
      refine (bitsN_congr (fun k hk => ?_))
      have hx : β f k % 32 < 32 := by omega
      simp only [ruB, thereB, bt_not hx, bt_knw hx]
    | 1, _ => simp only [upd]; exact bitsN_congr (fun k hk => rfl)
    | 2, _ => simp only [upd]; exact bitsN_congr (fun k hk => rfl)
    | 3, _ => simp only [upd]; exact bitsN_congr (fun k hk => rfl)
    | 4, _ =>
      simp only [upd]
      refine (bitsN_congr (fun k hk => ?_))
      have hx : β f k % 32 % 6 < 32 := by omega
      simp only [ruB, bt_usl hf (Nat.le_refl 6) hx, show β f k % 32 % 6 < 6 by omega, decide_true, Bool.true_and]
  | m + 1, g, fuel + 1, h1, h2 => by
    have hg : g < 6 := by omega
    have hle : ¬ (6 : Int32) ≤ nI g := nI_ge (b := 6) hg (by decide)
    obtain ⟨hr, hn, B, I, ra, rb, hsh, hβ⟩ := hF g hg
    have n1 := X4_numbersOf_q hsh hβ hn (kd := 1) (by decide)
    rw [show nI 1 = (1 : Int32) from rfl] at n1
    rw [fX0_check_L36, if_neg hle]
    simp only [hr, Option.bind_some, hsh.o, n1, X6_has_q w _ (show g < 32 by omega), bt_imp (show g < 32 by omega), fX0_check_b70, fX0_check_b87, nI_1]
    obtain ⟨w', F', O', e', r1, r2, r3⟩ := X0_check_loop hf hsa had bad hF hc m (g + 1) fuel (by omega) (by omega)
    refine ⟨w', F', O', ?_, r1, r2, r3⟩
    rw [← e', knwN, uslN]
    by_cases hi : imp (β f) (n f) g = true <;> by_cases hd : nmsN (β g) 1 (n g) &&& nmsN (β f) 2 (n f) = 0 <;> simp [hi, hd, bz]
theorem X0_check_q {c sa : Nat} {ad n : Nat → Nat} {β : Nat → Nat → Nat} {f : Nat} (hf : f < 6) (hsa : sa < c ∨ c + 3 ≤ sa) (had : ∀ g, g < 6 → ad g + 3 ≤ c ∨ c + 3 ≤ ad g) (bad : Int32) {w : Fw} {F O : Nat → Int32} (hF : FO w sa ad n β) (hc : Ck w c F O) : ∃ w' F' O', fX0_check w c sa (nI f) bad = some w' ∧ Ck w' c F' O' ∧ (∀ r, r < 5 → F' r = bitsN (ruB n β f bad r) (n f)) ∧ Out w w' c (c + 3) := by
  obtain ⟨hr, hn, B, I, ra, rb, hsh, hβ⟩ := hF f hf
  have n1 := X4_numbersOf_q hsh hβ hn (kd := 1) (by decide)
  rw [show nI 1 = (1 : Int32) from rfl] at n1
  have n2 := X4_numbersOf_q hsh hβ hn (kd := 2) (by decide)
  rw [show nI 2 = (2 : Int32) from rfl] at n2
  rw [fX0_check]
  simp only [hr, Option.bind_some, hsh.o, n1, n2, X4_importedFiles_q hsh hβ hn]
  exact X0_check_loop hf hsa had bad hF hc 6 0 1000 (by omega) (by omega)
theorem X0_linesOf_q {w : Fw} {c : Nat} {F O : Nat → Int32} (h : Ck w c F O) {r : Nat} (hr : r < 5) : fX0_linesOf w c (nI r) = some (F r) := by
  simp only [fX0_linesOf, h.g0, Option.bind_some, lI_ok h.2.1 hr (by decide)]
