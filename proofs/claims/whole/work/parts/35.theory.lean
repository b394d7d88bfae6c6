/-! ===== why only some files need to be worked again ===== -/
def kyB (r i : Int32) (e : Fnd) : Bool := decide (e.1 = r) && decide (e.2.2.1 = i)
theorem srch_shift (P : Nat → Bool) : ∀ (m k : Nat), srch P m (k + 1) = (srch (fun j => P (j + 1)) m k).map (· + 1)
  | 0, k => rfl
  | m + 1, k => by
    unfold srch
    by_cases h : P (k + 1) = true
    · rw [if_pos h, if_pos h]; rfl
    · rw [if_neg h, if_neg h, srch_shift P m (k + 1)]
theorem srch_find (r i : Int32) : ∀ (M : List Fnd), (srch (pL M r i) M.length 0).map (fun j => M.getD j d0) = M.find? (kyB r i)
  | [] => rfl
  | e :: M => by
    have h0 : pL (e :: M) r i 0 = kyB r i e := rfl
    rw [List.length_cons, srch, List.find?_cons, h0]
    cases hk : kyB r i e with
    | true => rfl
    | false =>
      rw [if_neg (by decide), srch_shift, ← srch_find r i M, Option.map_map]
      rfl
theorem srch_isNone (r i : Int32) (M : List Fnd) : (srch (pL M r i) M.length 0).isNone = (M.find? (kyB r i)).isNone := by
  rw [← srch_find]
  cases srch (pL M r i) M.length 0 <;> rfl
theorem tk_find (M : List Fnd) (e : Fnd) : tk M e = match M.find? (kyB e.1 e.2.2.1) with | some x => (e.1, e.2.1, e.2.2.1, x.2.2.2) | none => e := by
  unfold tk
  rw [← srch_find]
  cases srch (pL M e.1 e.2.2.1) M.length 0 <;> rfl
theorem ends1_find (M : List Fnd) (ch : Int32) (ℓ : List Lg) (e : Fnd) : ends1 M ch ℓ e = if (M.find? (kyB e.1 e.2.2.1)).isNone then push60 ℓ (e.1, e.2.2.1, e.2.2.2.1, ch) else ℓ := by
  unfold ends1
  rw [srch_isNone]
/-- the list of all files' findings, looked through for an id that one file alone can have -/
theorem flF_find {L : Nat → List Fnd} {f : Nat} {r i : Int32} : ∀ {g : Nat}, (∀ h, h < g → h ≠ f → ∀ e ∈ L h, e.2.2.1 ≠ i) → (flF L g).find? (kyB r i) = if f < g then (L f).find? (kyB r i) else none
  | 0, _ => by simp [flF]
  | g + 1, hh => by
    have ih := flF_find (L := L) (f := f) (r := r) (i := i) (g := g) (fun h h1 h2 => hh h (by omega) h2)
    rw [flF, List.find?_append, ih]
    by_cases hgf : g = f
    · subst hgf
      rw [if_neg (Nat.lt_irrefl _), if_pos (by omega)]
      rfl
    · have hn : (L g).find? (kyB r i) = none := by
        rw [List.find?_eq_none]
        intro e he
        have := hh g (by omega) hgf e he
        simp [kyB, this]
      rw [hn]
      by_cases hlt : f < g
      · rw [if_pos hlt, if_pos (by omega)]; simp
      · rw [if_neg hlt, if_neg (by omega)]; rfl
abbrev T3 : Type := Int32 × Int32 × Int32
def k3 (e : Fnd) : T3 := (e.1, e.2.1, e.2.2.1)
theorem k3_tk (M : List Fnd) (e : Fnd) : k3 (tk M e) = k3 e := by
  rw [tk_find]
  cases M.find? (kyB e.1 e.2.2.1) <;> rfl
section SKE
variable (P : Nat → Nat → Bool) (ι : Nat → Nat)
def ski (k : Nat) : List T3 := ((List.range 5).filter fun r => P r k).map fun r => (nI r, nI k, nI (ι k))
def ske (n : Nat) : List T3 := (List.range n).flatMap fun k => ski P ι k
end SKE
section SKE2
variable {P Q : Nat → Nat → Bool} {ι : Nat → Nat} {M : List Fnd} {ch : Int32}
theorem ske_succ (n : Nat) : ske P ι (n + 1) = ske P ι n ++ ski P ι n := by
  unfold ske
  rw [List.range_succ, List.flatMap_append]
  simp
theorem inn_ski (k : Nat) : inn P ι M ch k 5 = (ski P ι k).map fun t => tk M (t.1, t.2.1, t.2.2, ch, 0, -1) := by
  unfold inn ski
  rw [List.map_map]
  rfl
theorem fre_ske : ∀ n : Nat, fre P ι M ch n = (ske P ι n).map fun t => tk M (t.1, t.2.1, t.2.2, ch, 0, -1)
  | 0 => by simp [fre, ske]
  | n + 1 => by rw [fre_succ, ske_succ, List.map_append, fre_ske n, inn_ski]
theorem k3_fre (n : Nat) : (fre P ι M ch n).map k3 = ske P ι n := by
  rw [fre_ske, List.map_map]
  have : (k3 ∘ fun t : T3 => tk M (t.1, t.2.1, t.2.2, ch, 0, -1)) = id := by
    funext t
    show k3 (tk M _) = t
    rw [k3_tk]
    rfl
  rw [this, List.map_id]
theorem ske_congr {ι' : Nat → Nat} : ∀ {n : Nat}, (∀ k, k < n → ι k = ι' k ∧ ∀ r, r < 5 → P r k = Q r k) → ske P ι n = ske Q ι' n
  | 0, _ => rfl
  | n + 1, h => by
    rw [ske_succ, ske_succ, ske_congr (n := n) (fun k hk => h k (by omega))]
    congr 1
    obtain ⟨h1, h2⟩ := h n (by omega)
    unfold ski
    rw [h1]
    congr 1
    apply List.filter_congr
    intro r hr
    exact h2 r (List.mem_range.mp hr)
theorem ske_mem {n : Nat} {t : T3} (h : t ∈ ske P ι n) : ∃ k, k < n ∧ ∃ r, r < 5 ∧ t = (nI r, nI k, nI (ι k)) := by
  unfold ske ski at h
  obtain ⟨k, hk, ht⟩ := List.mem_flatMap.mp h
  obtain ⟨r, hr, rfl⟩ := List.mem_map.mp ht
  exact ⟨k, List.mem_range.mp hk, r, List.mem_range.mp (List.mem_filter.mp hr).1, rfl⟩
theorem ski_len {k : Nat} (h1 : ∀ r r', r < 5 → r' < 5 → P r k = true → P r' k = true → r = r') : (ski P ι k).length ≤ 1 := by
  have h := (inn_le (P := P) (ι := ι) (M := []) (ch := 0) (k := k) h1 (Nat.le_refl 5)).1
  rw [inn_ski, List.length_map] at h
  exact h
/-- ids are different all along -/
theorem ske_nodup : ∀ {n : Nat}, (∀ k, k < n → ∀ r r', r < 5 → r' < 5 → P r k = true → P r' k = true → r = r') → (∀ k l, k < n → l < n → nI (ι k) = nI (ι l) → k = l) → ((ske P ι n).map fun t => t.2.2).Nodup
  | 0, _, _ => by simp [ske]
  | n + 1, h1, h2 => by
    have ih := ske_nodup (n := n) (fun k hk => h1 k (by omega)) (fun k l a b => h2 k l (by omega) (by omega))
    rw [ske_succ, List.map_append, List.nodup_append]
    refine ⟨ih, ?_, ?_⟩
    · have hl := ski_len (P := P) (ι := ι) (k := n) (h1 n (by omega))
      cases hs : ski P ι n with
      | nil => simp
      | cons a t =>
        rw [hs] at hl
        have : t = [] := by
          cases t with
          | nil => rfl
          | cons b t => simp at hl
        subst this
        simp
    · intro a ha b hb hab
      obtain ⟨t, ht, rfl⟩ := List.mem_map.mp ha
      obtain ⟨u, hu, rfl⟩ := List.mem_map.mp hb
      obtain ⟨k, hk, r, hr, rfl⟩ := ske_mem ht
      unfold ski at hu
      obtain ⟨r', -, rfl⟩ := List.mem_map.mp hu
      have := h2 k n (by omega) (by omega) hab
      omega
theorem find_self : ∀ {M : List Fnd}, (M.map fun e => e.2.2.1).Nodup → ∀ {e : Fnd}, e ∈ M → M.find? (kyB e.1 e.2.2.1) = some e
  | [], _, e, h => by simp at h
  | x :: M, hn, e, h => by
    rw [List.find?_cons]
    rw [List.map_cons, List.nodup_cons] at hn
    rcases List.mem_cons.mp h with rfl | h
    · have : kyB e.1 e.2.2.1 e = true := by simp [kyB]
      rw [this]
    · have hne : kyB e.1 e.2.2.1 x = false := by
        unfold kyB
        have : x.2.2.1 ≠ e.2.2.1 := fun q => hn.1 (List.mem_map.mpr ⟨e, h, q.symm⟩)
        simp [this]
      rw [hne]
      exact find_self hn.2 h
/-- nothing about a file has changed: its findings are as they were -/
theorem fre_same {n : Nat} (hM : M.map k3 = ske P ι n) (hn : ((ske P ι n).map fun t => t.2.2).Nodup) : fre P ι M ch n = M := by
  rw [fre_ske, ← hM, List.map_map]
  have hnd : (M.map fun e => e.2.2.1).Nodup := by
    rw [← hM, List.map_map] at hn
    exact hn
  have : ∀ e ∈ M, ((fun t : T3 => tk M (t.1, t.2.1, t.2.2, ch, 0, -1)) ∘ k3) e = e := by
    intro e he
    show tk M (e.1, e.2.1, e.2.2.1, ch, 0, -1) = e
    rw [tk_find]
    dsimp only
    rw [find_self hnd he]
  calc M.map ((fun t : T3 => tk M (t.1, t.2.1, t.2.2, ch, 0, -1)) ∘ k3) = M.map id := List.map_congr_left (fun e he => this e he)
    _ = M := List.map_id M
theorem fre_tk {H : List Fnd} {n : Nat} (h : ∀ k, k < n → ∀ r : Int32, H.find? (kyB r (nI (ι k))) = M.find? (kyB r (nI (ι k)))) : fre P ι H ch n = fre P ι M ch n := by
  rw [fre_ske, fre_ske]
  apply List.map_congr_left
  intro t ht
  obtain ⟨k, hk, r, hr, rfl⟩ := ske_mem ht
  rw [tk_find, tk_find]
  dsimp only
  rw [h k hk]
end SKE2
/-- the findings are those of the lines -/
def Cons (n : Nat → Nat) (β ι : Nat → Nat → Nat) (bad : Int32) (M : Nat → List Fnd) : Prop := ∀ f, f < 6 → (M f).map k3 = ske (fun r k => ruB n β f bad r k) (ι f) (n f)
/-- ids are given once -/
def Uniq (n : Nat → Nat) (ι : Nat → Nat → Nat) (ids : Nat) : Prop := (∀ f g k l, f < 6 → g < 6 → k < n f → l < n g → ι f k = ι g l → f = g ∧ k = l) ∧ ∀ f k, f < 6 → k < n f → ι f k < ids
/-- a line of a file had its id there, or it is a new one -/
def Stay (n0 : Nat → Nat) (ι0 : Nat → Nat → Nat) (ids0 : Nat) (n : Nat → Nat) (ι : Nat → Nat → Nat) : Prop := ∀ f l, f < 6 → l < n f → (∃ k, k < n0 f ∧ ι f l = ι0 f k) ∨ ids0 ≤ ι f l
theorem Cons.mem {n : Nat → Nat} {β ι : Nat → Nat → Nat} {bad : Int32} {M : Nat → List Fnd} (h : Cons n β ι bad M) {f : Nat} (hf : f < 6) {e : Fnd} (he : e ∈ M f) : ∃ k, k < n f ∧ e.2.2.1 = nI (ι f k) := by
  have h1 : k3 e ∈ ske (fun r k => ruB n β f bad r k) (ι f) (n f) := by rw [← h f hf]; exact List.mem_map.mpr ⟨e, he, rfl⟩
  obtain ⟨k, hk, r, hr, ht⟩ := ske_mem h1
  exact ⟨k, hk, congrArg (fun t : T3 => t.2.2) ht⟩
section CHG
variable {n0 n : Nat → Nat} {β0 ι0 β ι : Nat → Nat → Nat} {bad0 bad ch s : Int32} {M : Nat → List Fnd} {ids0 ids : Nat} {ℓ : List Lg}
theorem chg_rules (hC : Cons n0 β0 ι0 bad0 M) (hU : Uniq n0 ι0 ids0) (hU' : Uniq n ι ids) (hi0 : ids0 ≤ 2 ^ 30) (hi : ids ≤ 2 ^ 30) (hS : Stay n0 ι0 ids0 n ι) (hs : ∀ f, f < 6 → bt s f = false → n f = n0 f ∧ ∀ k, k < n f → ι f k = ι0 f k ∧ ∀ r, r < 5 → ruB n β f bad r k = ruB n0 β0 f bad0 r k) {f : Nat} (hf : f < 6) : neL n β ι bad (flF M 6) ch f = wkM s n β ι bad ch M f := by
  unfold neL
  rw [fre_tk (M := M f)]
  · unfold wkM
    cases hb : bt s f with
    | true => rw [if_pos rfl]
    | false =>
      rw [if_neg (by decide)]
      obtain ⟨h1, h2⟩ := hs f hf hb
      have he := hC f hf
      rw [← h1] at he
      have hske : ske (fun r k => ruB n0 β0 f bad0 r k) (ι0 f) (n f) = ske (fun r k => ruB n β f bad r k) (ι f) (n f) := ske_congr (fun k hk => ⟨(h2 k hk).1.symm, fun r hr => ((h2 k hk).2 r hr).symm⟩)
      rw [hske] at he
      refine fre_same he (ske_nodup (fun k _ => ruB_one) (fun k l hk hl e => ?_))
      have b1 := hU'.2 f k hf hk
      have b2 := hU'.2 f l hf hl
      exact (hU'.1 f f k l hf hf hk hl ((nI_eq (by omega) (by omega)).mp e)).2
  · intro k hk r
    rw [flF_find (f := f), if_pos hf]
    intro g hg hgf e he hid
    obtain ⟨l, hl, hel⟩ := hC.mem hg he
    have b1 := hU'.2 f k hf hk
    have b2 := hU.2 g l hg hl
    have e1 : ι0 g l = ι f k := (nI_eq (by omega) (by omega)).mp (hel.symm.trans hid)
    rcases hS f k hf hk with ⟨k', hk', e2⟩ | h9
    · exact hgf (hU.1 g f l k' hg hf hl hk' (e1.trans e2)).1
    · omega
theorem foldl_ends_congr {G G' : List Fnd} : ∀ {L : List Fnd} {ℓ : List Lg}, (∀ e ∈ L, G.find? (kyB e.1 e.2.2.1) = G'.find? (kyB e.1 e.2.2.1)) → L.foldl (ends1 G ch) ℓ = L.foldl (ends1 G' ch) ℓ
  | [], _, _ => rfl
  | e :: L, ℓ, h => by
    rw [List.foldl_cons, List.foldl_cons, ends1_find, ends1_find, h e List.mem_cons_self]
    exact foldl_ends_congr (fun x hx => h x (List.mem_cons_of_mem _ hx))
theorem foldl_ends_same {G : List Fnd} : ∀ {L : List Fnd} {ℓ : List Lg}, (∀ e ∈ L, (G.find? (kyB e.1 e.2.2.1)).isNone = false) → L.foldl (ends1 G ch) ℓ = ℓ
  | [], _, _ => rfl
  | e :: L, ℓ, h => by
    rw [List.foldl_cons, ends1_find, h e List.mem_cons_self, if_neg (by decide)]
    exact foldl_ends_same (fun x hx => h x (List.mem_cons_of_mem _ hx))
theorem chg_log (hC : Cons n0 β0 ι0 bad0 M) (hU : Uniq n0 ι0 ids0) (hU' : Uniq n ι ids) (hi0 : ids0 ≤ 2 ^ 30) (hi : ids ≤ 2 ^ 30) (hS : Stay n0 ι0 ids0 n ι) (hs : ∀ f, f < 6 → bt s f = false → n f = n0 f ∧ ∀ k, k < n f → ι f k = ι0 f k ∧ ∀ r, r < 5 → ruB n β f bad r k = ruB n0 β0 f bad0 r k) : ∀ g, g ≤ 6 → (flF M g).foldl (ends1 (flF (neL n β ι bad (flF M 6) ch) 6) ch) ℓ = wkL s n β ι bad ch M ℓ g
  | 0, _ => by simp [flF, wkL]
  | g + 1, hg => by
    have hg6 : g < 6 := by omega
    have ih := chg_log hC hU hU' hi0 hi hS hs g (by omega)
    have hne := chg_rules (s := s) (ch := ch) hC hU hU' hi0 hi hS hs hg6
    rw [show flF M (g + 1) = flF M g ++ M g from rfl, List.foldl_append, ih]
    have hloc : ∀ e ∈ M g, (flF (neL n β ι bad (flF M 6) ch) 6).find? (kyB e.1 e.2.2.1) = (wkM s n β ι bad ch M g).find? (kyB e.1 e.2.2.1) := by
      intro e he
      obtain ⟨l, hl, hel⟩ := hC.mem hg6 he
      rw [flF_find (f := g), if_pos hg6, hne]
      intro h hh hhg x hx hid
      have h1 : k3 x ∈ ske (fun r k => ruB n β h bad r k) (ι h) (n h) := by
        rw [← k3_fre (M := flF M 6) (ch := ch)]
        exact List.mem_map.mpr ⟨x, hx, rfl⟩
      obtain ⟨k, hk, r, hr, ht⟩ := ske_mem h1
      have hxk : x.2.2.1 = nI (ι h k) := congrArg (fun t : T3 => t.2.2) ht
      have b1 := hU'.2 h k hh hk
      have b2 := hU.2 g l hg6 hl
      have e1 : ι h k = ι0 g l := (nI_eq (by omega) (by omega)).mp (hxk.symm.trans (hid.trans hel))
      rcases hS h k hh hk with ⟨k', hk', e2⟩ | h9
      · exact hhg (hU.1 h g k' l hh hg6 hk' hl (e2.symm.trans e1)).1
      · omega
    rw [foldl_ends_congr hloc, wkL]
    cases hb : bt s g with
    | true => rw [if_pos rfl]
    | false =>
      rw [if_neg (by decide)]
      apply foldl_ends_same
      intro e he
      have hw : wkM s n β ι bad ch M g = M g := by unfold wkM; rw [hb]; rfl
      rw [hw]
      have hnd : ((M g).map fun e => e.2.2.1).Nodup := by
        have h9 := ske_nodup (P := fun r k => ruB n0 β0 g bad0 r k) (ι := ι0 g) (n := n0 g) (fun k _ => ruB_one) (fun k l hk hl e => by
          have b1 := hU.2 g k hg6 hk
          have b2 := hU.2 g l hg6 hl
          exact (hU.1 g g k l hg6 hg6 hk hl ((nI_eq (by omega) (by omega)).mp e)).2)
        rw [← hC g hg6, List.map_map] at h9
        exact h9
      rw [find_self hnd he]
      rfl
theorem chg_cons (hC : Cons n0 β0 ι0 bad0 M) (hs : ∀ f, f < 6 → bt s f = false → n f = n0 f ∧ ∀ k, k < n f → ι f k = ι0 f k ∧ ∀ r, r < 5 → ruB n β f bad r k = ruB n0 β0 f bad0 r k) : Cons n β ι bad (wkM s n β ι bad ch M) := by
  intro f hf
  unfold wkM
  cases hb : bt s f with
  | true => rw [if_pos rfl, k3_fre]
  | false =>
    rw [if_neg (by decide)]
    obtain ⟨h1, h2⟩ := hs f hf hb
    rw [hC f hf, ← h1]
    exact ske_congr (fun k hk => ⟨(h2 k hk).1.symm, fun r hr => ((h2 k hk).2 r hr).symm⟩)
end CHG
theorem flF_congr {L L' : Nat → List Fnd} : ∀ {g : Nat}, (∀ f, f < g → L f = L' f) → flF L g = flF L' g
  | 0, _ => rfl
  | g + 1, h => by rw [flF, flF, flF_congr (fun f hf => h f (by omega)), h g (by omega)]
theorem flP_congr {L L' : Nat → List Fnd} : ∀ {g : Nat}, (∀ f, f < g → L f = L' f) → flP L g = flP L' g
  | 0, _ => rfl
  | g + 1, h => by rw [flP, flP, flP_congr (fun f hf => h f (by omega)), h g (by omega)]
