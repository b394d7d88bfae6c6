/-! constructors: what they make stands behind the heap's end -/
def nestL : List (String × Nat × MethodName) := [(RX6, 15, yX4_init), (RX4, 20, yX2_init), (RX6, 18, yX5_init), (RX6, 25, yX3_init), (RX6, 32, yX0_init), (RX6, 39, yX1_init)]
def fz_AA (U : State) : Prop := (Cond.arrayOver (.array .int)).before #[] U = true
theorem fz_AA.moved {u U : State} (hvm : u.vm.Alike U.vm) (h : fz_AA u) : fz_AA U := by
  obtain ⟨comp, c, k, h1, h2, h3, h4, h5⟩ := arrayOverA_spec h
  obtain ⟨k', hk', he⟩ := hvm.2.2 _ _ h3
  have hi : (U.vm.classes.findIdx? fun (x : Class) => match x.kind with | .array component _ => component == comp | _ => false) = some c := by
    have hq := va_idx_bare U.vm comp
    have hq2 := va_idx_bare u.vm comp
    have hbe : u.vm.bare = U.vm.bare := by first | exact hvm.bare_eq | exact hvm.bare_eq.symm
    rw [hbe] at hq2
    exact (hq.symm.trans hq2).trans h2
  have hkind : k'.kind = .array comp (.array .int) := by rw [he]; exact h4
  have f1 : U.vm.findClass (FieldType.array .int).toString = some comp := by rw [hvm.findClass]; exact h1
  have f2 : U.vm.findClass ("[" ++ (FieldType.array .int).toString) = some c := by rw [hvm.findClass]; exact h5
  unfold fz_AA Cond.before Cond.holds
  simp only [Cond.value]
  rw [f1, Option.bind_some]
  refine (congrArg (fun o : Option Nat => (o.bind (fun c => (U.vm.classes[c]?).map fun (k : Class) => match k.kind with | .array _ ty => decide (ty = FieldType.array .int) && decide (U.vm.findClass ("[" ++ (FieldType.array .int).toString) = some c) | _ => false) == some true)) hi).trans ?_
  simp [hk', hkind, f2]
def KpC (D : va_G) (dA : Nat → ClassId) (U : State) : Prop := Kp D dA U ∧ (∀ x ∈ nestL, va_Nw (.methodLinkNest x.1 x.2.1 x.2.2 RX6) U) ∧ va_AO RX4 U ∧ fz_AA U
theorem KpC.warm {D : va_G} {dA : Nat → ClassId} {s U : State} (h : KpC D dA s) (hW : s.WarmedH U.vm) : KpC D dA U := ⟨h.1.warm hW, fun x hx => va_Nw.warmM hW (h.2.1 x hx), h.2.2.1.moved hW.alike, h.2.2.2.moved hW.alike⟩
theorem KpC.same {D : va_G} {dA : Nat → ClassId} {s U : State} (h : KpC D dA s) (hv : s.vm = U.vm) : KpC D dA U := ⟨h.1.same hv, fun x hx => va_Nw.same rfl hv (h.2.1 x hx), h.2.2.1.moved (hv ▸ Vm.Alike.refl s.vm), h.2.2.2.moved (hv ▸ Vm.Alike.refl s.vm)⟩
def PzC (D : va_G) (dA : Nat → ClassId) (A : Nat → Prop) (w : Fw) (z : Nat) (av : List Value) : Array Value → State → Prop := va_Pc av (fun U => Rp D dA A w U.heap ∧ KpC D dA U ∧ U.heap.size = z ∧ ∀ q, z ≤ q → A q)
abbrev QzC (D : va_G) (dA : Nat → ClassId) (A : Nat → Prop) (w : Fw) (z : Nat) : Array Value → State → Outcome → State → Prop := va_Qv (S := Unit) (fun _ => True) (fun _ t => Rp D dA A w t.heap ∧ t.heap.size = z) A
theorem PzC.blind {D : va_G} {dA : Nat → ClassId} {A : Nat → Prop} {w : Fw} {z : Nat} {av : List Value} : FrameBlind (PzC D dA A w z av) := fun _ _ _ _ h => ⟨h.1, h.2.1, h.2.2.1.same rfl, h.2.2.2.1, h.2.2.2.2⟩
theorem PzC.at {D : va_G} {dA : Nat → ClassId} {A : Nat → Prop} {w : Fw} {z : Nat} {av : List Value} {s : State} {H : Heap} (hK : KpC D dA s) (hR : Rp D dA A w H) (hz : H.size = z) (hA : ∀ q, z ≤ q → A q) : ∀ U : State, U.heap = H → s.WarmedH U.vm → PzC D dA A w z av av.toArray U := fun U hU hW => ⟨rfl, by rw [hU]; exact hR, hK.warm hW, by rw [hU]; exact hz, hA⟩
def nO (w : Fw) (z : Nat) (e : Ent) : Option Fw := some (fup w z e)
def nM (w : Fw) (z : Nat) : Option Fw := some (fun q => if q = z then some (.inr (.inl (1, 33, fun i => if i < 33 then some (z + 1 + i) else none))) else if z + 1 ≤ q ∧ q < z + 1 + 33 then some (.inl (33, fun _ => 0)) else w q)
def aS (w : Fw) (kd a : Nat) (i : Int32) (v : Nat) : Option Fw := match w a with
  | some (.inr (.inl (k, n, f))) => if k = kd then (if i < 0 ∨ n ≤ i.toNatClampNeg then none else some (fup w a (.inr (.inl (k, n, va_up f i.toNatClampNeg (some v)))))) else none
  | _ => none
theorem aS_some {w w' : Fw} {kd a v : Nat} {i : Int32} (h : aS w kd a i v = some w') : ∃ n f, w a = some (.inr (.inl (kd, n, f))) ∧ vp_in i n ∧ w' = fup w a (.inr (.inl (kd, n, va_up f i.toNatClampNeg (some v)))) := by
  unfold aS at h
  split at h
  · next k n f e =>
    split at h
    · next hk =>
      subst hk
      split at h
      · cases h
      · next hc => cases h; exact ⟨n, f, e, hc, rfl⟩
    · cases h
  · cases h
theorem Rp.push {D : va_G} {dA : Nat → ClassId} {A : Nat → Prop} {w : Fw} {H H1 : Heap} {z : Nat} {e : Ent} (h : Rp D dA A w H) (hz : H.size = z) (he : va_at D vwCl (z, fz_E dA e) H1) (hA : A z) (oq : ∀ q : Nat, q < z → H1[q]? = H[q]?) : Rp D dA A (fup w z e) H1 := by
  intro b x hb
  unfold fup at hb
  by_cases hba : b = z
  · subst hba
    rw [if_pos rfl] at hb
    cases hb
    exact ⟨he, hA⟩
  · rw [if_neg hba] at hb
    have hlt : b < H.size := (h b x hb).1.lt
    exact ⟨(h b x hb).1.kept (oq b (by omega)), (h b x hb).2⟩
/-- a class that can be made here: its link and its fields -/
def CN (own : String) (index ci : Nat) (fs : List Value) (N : Nat) : Prop := ∃ (C : String) (T : u_T) (ty : Nat → FieldType), vwCl[ci]? = some (C, T, N) ∧ Cond.classLink own index C ∈ lw_g ∧ Cond.instantiable C N ∈ lw_g ∧ Cond.initialized C ∈ lw_g ∧ (∀ w ∈ u_ws C T N, w ∈ lw_g) ∧ (∀ k, k < N → parseFieldDescriptor (T k).2.2.1 = some (ty k)) ∧ ∀ j, j < N → defaultValue (ty j) = vp_V fs j
def FPF (own : String) (index ci k : Nat) (ty : FieldType) : Prop := ∃ (C : String) (T : u_T) (N : Nat) (ty0 : Nat → FieldType), vwCl[ci]? = some (C, T, N) ∧ k < N ∧ Cond.fieldLink own index (T k).1 (T k).2.1 (T k).2.2.1 ∈ lw_g ∧ (∀ w ∈ u_ws C T N, w ∈ lw_g) ∧ (∀ k, k < N → parseFieldDescriptor (T k).2.2.1 = some (ty0 k)) ∧ (∀ a, a < N → ∀ b, b < N → a ≠ b → (T a).2.1 ≠ (T b).2.1) ∧ (T k).2.2.2 = true ∧ (T k).1 = own ∧ parseFieldDescriptor (T k).2.2.1 = some ty
abbrev rc (f k n lo : Nat) : Room := { frames := f, cells := k, slots := n, locals := lo }
section FXC
variable {p : Program} {l : Launch} {e : Env} {R : Room} {s : State} {m : MethodId} {args : Array Value} {below : List Frame} {meth : Method} {c : Code} {H : Heap} {locs : List Loc} {cells slots : Nat} {Q : State → Prop}
variable {cc : ByteArray} {pc : Nat} {ls : Array Slot} {rest : List Value} {D : va_G} {dA : Nat → ClassId} {A : Nat → Prop} {a : Nat} {w w' : Fw} {H0 : Heap} {own : String} {z : Nat}
theorem fx_new (hx : p.tables.exec = Jvm.exec) (hb : c.code = cc) (hts : ∀ w ∈ lw_g, w.before args s = true) (hown : s.vm.findClass own = some m.cls) (hK : KpC D dA s) (hR : Rp D dA A w H) (hS : va_S A H0 H locs) (hz : H.size = z) (hA : ∀ q, H0.size ≤ q → A q) {index ci N : Nat} {fs : List Value} (hL : CN own index ci fs N) (hv : nO w z (.inr (.inr (ci, fs))) = some w') (hcells : cells + 1 ≤ R.cells) (hslots : slots + N ≤ R.slots) (hdg : decode cc pc = .ok (.new index, 3))
    (kk : ∀ H1 : Heap, Rp D dA A w' H1 → va_S A H0 H1 locs → H1.size = z + 1 → W p l e R s m args below meth c H1 locs (cells + 1) (slots + N) Q (F0 m (pc + 3) ls (.ref z :: rest))) : W p l e R s m args below meth c H locs cells slots Q (F0 m pc ls rest) := by
  cases hv
  obtain ⟨C, T, ty, hc, hcl, hins, hini, hin, hty, hfs⟩ := hL
  have hKn := hK.1.1.1 ci _ hc
  refine W.newcK hx hb hown (hts _ hcl) (hts _ hins) (hts _ hini) rfl hdg hcells hslots hKn.2.1 hz fun H1 kC hkC e1 z1 o1 => ?_
  exact kk H1 (hR.push hz ⟨_, hc, (u_born ty hts hin hKn hkC e1 hty).to hfs⟩ (hA _ (hz ▸ hS.1)) o1) ⟨Nat.le_trans hS.1 (by omega), fun x h1 h2 => (o1 x (hz ▸ Nat.lt_of_lt_of_le h1 hS.1)).trans (hS.2.1 x h1 h2), hS.2.2⟩ z1
theorem fx_newa (hx : p.tables.exec = Jvm.exec) (hb : c.code = cc) (hts : ∀ w ∈ lw_g, w.before args s = true) (hK : KpC D dA s) (hR : Rp D dA A w H) (hS : va_S A H0 H locs) (hz : H.size = z) (hA : ∀ q, H0.size ≤ q → A q) {n : Int32} {N : Nat} (hcl : Cond.arrayClass .int ∈ lw_g) (hn : ¬ n < 0) (hN : n.toNatClampNeg = N) (hN2 : N ≤ 100000) (hv : nO w z (.inl (N, fun _ => 0)) = some w') (hcells : cells + 1 ≤ R.cells) (hslots : slots + N ≤ R.slots) (hdg : decode cc pc = .ok (.newarray .int, 2))
    (kk : ∀ H1 : Heap, Rp D dA A w' H1 → va_S A H0 H1 locs → H1.size = z + 1 → W p l e R s m args below meth c H1 locs (cells + 1) (slots + N) Q (F0 m (pc + 2) ls (.ref z :: rest))) : W p l e R s m args below meth c H locs cells slots Q (F0 m pc ls (.int n :: rest)) := by
  cases hv
  refine va_newaK (atype := .int) hx hb (hts _ hcl) rfl hdg rfl hn hN (by show N * 4 ≤ _; omega) hcells hslots hz fun H1 cA e1 z1 o1 hAr hNm => ?_
  have h0 : s.vm.findClass ("[" ++ FieldType.int.toString) = some (dA 0) := (hK.1.1.2 0 _ rfl).2
  have hcA : cA = dA 0 := Option.some.inj (hNm.symm.trans h0)
  subst hcA
  exact kk H1 (hR.push hz e1 (hA _ (hz ▸ hS.1)) o1) ⟨Nat.le_trans hS.1 (by omega), fun x h1 h2 => (o1 x (hz ▸ Nat.lt_of_lt_of_le h1 hS.1)).trans (hS.2.1 x h1 h2), hS.2.2⟩ z1
theorem fx_anew (hx : p.tables.exec = Jvm.exec) (hb : c.code = cc) (hts : ∀ w ∈ lw_g, w.before args s = true) (hown : s.vm.findClass own = some m.cls) (hK : KpC D dA s) (hR : Rp D dA A w H) (hS : va_S A H0 H locs) (hz : H.size = z) (hA : ∀ q, H0.size ≤ q → A q) {index : Nat} {n : Int32} {N : Nat} (hcl : Cond.classLink own index RX4 ∈ lw_g) (hn : ¬ n < 0) (hN : n.toNatClampNeg = N) (hN2 : N ≤ 100000) (hv : nO w z (.inr (.inl (0, N, fun _ => none))) = some w') (hcells : cells + 1 ≤ R.cells) (hslots : slots + N ≤ R.slots) (hdg : decode cc pc = .ok (.anewarray index, 3))
    (kk : ∀ H1 : Heap, Rp D dA A w' H1 → va_S A H0 H1 locs → H1.size = z + 1 → W p l e R s m args below meth c H1 locs (cells + 1) (slots + N) Q (F0 m (pc + 3) ls (.ref z :: rest))) : W p l e R s m args below meth c H locs cells slots Q (F0 m pc ls (.int n :: rest)) := by
  cases hv
  subst hN
  subst hz
  refine W.anew hx hb hown (hts _ hcl) (va_AO.use hK.2.2.1) rfl hdg rfl hn (by omega) hcells hslots fun cA kA comp f1 f2 f3 f4 => ?_
  obtain ⟨kA', comp', k1, k2, k3, k4⟩ := (hK.1.1.2 1 _ rfl).2
  have hcA : cA = dA 1 := Option.some.inj (f1.symm.trans k4)
  subst hcA
  generalize hH1 : H.push ({ cls := dA 1, slots := Array.replicate n.toNatClampNeg .null, vm := .none } : Cell) = H1
  have z1 : H1.size = H.size + 1 := by rw [← hH1, Array.size_push]
  have e1 : H1[H.size]? = some (arrV (dA 1) n.toNatClampNeg (fun _ => .null)) := by rw [← hH1, Array.getElem?_push_size, ← arrV_new]
  have o1 : ∀ q : Nat, q < H.size → H1[q]? = H[q]? := fun q hq => by rw [← hH1, Array.getElem?_push, if_neg (Nat.ne_of_lt hq)]
  exact kk H1 (hR.push rfl e1 (hA _ hS.1) o1) ⟨Nat.le_trans hS.1 (by omega), fun x h1 h2 => (o1 x (Nat.lt_of_lt_of_le h1 hS.1)).trans (hS.2.1 x h1 h2), hS.2.2⟩ z1
theorem fx_aS (hx : p.tables.exec = Jvm.exec) (hb : c.code = cc) (hK : Kp D dA s) (hR : Rp D dA A w H) (hS : va_S A H0 H locs) {i : Int32} {v : Nat} {u : Unit} (hO : isO w v 4 = some u) (hv : aS w 0 a i v = some w') (hdg : decode cc pc = .ok (.aastore, 1))
    (kk : ∀ (H1 : Heap) (locs1 : List Loc), Rp D dA A w' H1 → va_S A H0 H1 locs1 → H1.size = H.size → W p l e R s m args below meth c H1 locs1 cells slots Q (F0 m (pc + 1) ls rest)) : W p l e R s m args below meth c H locs cells slots Q (F0 m pc ls (.ref v :: .int i :: .ref a :: rest)) := by
  obtain ⟨n, f, hw, hin, rfl⟩ := aS_some hv
  obtain ⟨vs, hwv⟩ := isO_some hO
  obtain ⟨hat, hAa⟩ := hR a _ hw
  have hlt : i.toNatClampNeg < n := Nat.not_le.mp fun q => hin (Or.inr q)
  have h0 : ¬ i < 0 := fun q => hin (Or.inl q)
  obtain ⟨⟨r', hr', cellV, g1, g2, g3, -⟩, -⟩ := hR v _ hwv
  have hcls := (hK.1.1 4 _ (rfl : vwCl[4]? = some (RX4, TX4, 5))).2
  obtain ⟨kA, comp, k1, k2, k3, -⟩ := (hK.1.2 1 _ rfl).2
  have hcomp : comp = D.1 4 := Option.some.inj (k3.symm.trans hcls.1)
  subst hcomp
  obtain ⟨kC, hkC, -⟩ := hcls.2
  refine W.aast hx hb hat (fun q h => by cases h) (fun h => by cases h) k1 k2 rfl hkC ⟨h0, by show _ < (arrV _ _ _).slots.size; rw [arrV_size]; exact hlt⟩ g1 (fun q h => by rw [g3] at h; cases h) (by rw [g2]; exact hkC) (by rw [g2]; exact va_assign hcls) rfl rfl hdg fun H1 e z oq => ?_
  refine kk H1 _ (hR.set hw ?_ oq) (hS.put z oq hAa) z
  show H1[a]? = some (vp_cell _ _)
  rw [e]
  show some ((vp_cell _ _).setSlot _ _) = _
  rw [vp_cell_q, vp_cell_q, arrV_store]
  congr 2
  funext q
  by_cases hq : q = i.toNatClampNeg
  · subst hq
    simp [updV, va_up, va_rf]
  · simp [updV, va_up, hq]
theorem fx_pz (hx : p.tables.exec = Jvm.exec) (hb : c.code = cc) (hts : ∀ w ∈ lw_g, w.before args s = true) (hown : s.vm.findClass own = some m.cls) (hK : Kp D dA s) (hR : Rp D dA A w H) (hS : va_S A H0 H locs) {index ci k : Nat} {ty : FieldType} (hL : FP own index ci k ty) {v : Value} (hv : pF w a ci k v = some w') (hn : narrow ty v = v) (hfit : fits ty v = true) (hdg : decode cc pc = .ok (.putfield index, 3))
    (kk : ∀ (H1 : Heap) (locs1 : List Loc), Rp D dA A w' H1 → va_S A H0 H1 locs1 → H1.size = H.size → W p l e R s m args below meth c H1 locs1 cells slots Q (F0 m (pc + 3) ls rest)) : W p l e R s m args below meth c H locs cells slots Q (F0 m pc ls (v :: .ref a :: rest)) := by
  obtain ⟨fs, hw, hlen, rfl⟩ := pF_some hv
  obtain ⟨C, T, N, ty0, hc, hk, hl, hin, hty, hnm, hfin, hd⟩ := hL
  have hap := va_apart (own := own) hts hin ty0 hty hnm hK.1 hc
  obtain ⟨⟨r, h1, cell, q1, q2, q3, q4⟩, hAa⟩ := hR a _ hw
  have hr : r = (C, T, N) := Option.some.inj (h1.symm.trans hc)
  subst hr
  obtain ⟨hSl, hfc, kC, hkC, hkind⟩ := hK.1.1 ci _ hc
  obtain ⟨cf, kf, fi, f, hi, hsl⟩ := hSl k hk
  have hlay := hts _ (hin _ (u_in_lay hk))
  unfold u_lay at hlay
  rw [if_neg (by rw [hfin]; decide)] at hlay
  have hst := (u_facts hfc hkC (u_lays hts hin hk) hi).1
  have h6 := u_store hfc hkC hkind hlay hi hd hn hfit
  refine W.putK hx hb (f := f) ⟨hown, hts _ hl, ⟨_, _, _, hi⟩, hst⟩ (by rw [q2]; exact h6) q1 q3 (by rw [hsl]; exact k2_hasslot (q4 k hk)) rfl rfl hdg fun H' e1 e2 e3 => ?_
  rw [hsl] at e1 ⊢
  exact kk H' _ (hR.set hw ⟨_, hc, t_OB.to (V := updV (vp_V fs) k v) ⟨_, e1, q2, q3, t_set q4 hap hk v⟩ (fun j _ => vp_updV_set hlen v j)⟩ e3) (hS.put e2 e3 hAa) e2
theorem fx_pf (hx : p.tables.exec = Jvm.exec) (hb : c.code = cc) (hts : ∀ w ∈ lw_g, w.before args s = true) (hown : s.vm.findClass own = some m.cls) (hK : Kp D dA s) (hR : Rp D dA A w H) (hS : va_S A H0 H locs) (hin2 : meth.name = "<init>") {index ci k : Nat} {ty : FieldType} (hL : FPF own index ci k ty) {v : Value} (hv : pF w a ci k v = some w') (hn : narrow ty v = v) (hfit : fits ty v = true) (hdg : decode cc pc = .ok (.putfield index, 3))
    (kk : ∀ (H1 : Heap) (locs1 : List Loc), Rp D dA A w' H1 → va_S A H0 H1 locs1 → H1.size = H.size → W p l e R s m args below meth c H1 locs1 cells slots Q (F0 m (pc + 3) ls rest)) : W p l e R s m args below meth c H locs cells slots Q (F0 m pc ls (v :: .ref a :: rest)) := by
  obtain ⟨fs, hw, hlen, rfl⟩ := pF_some hv
  obtain ⟨C, T, N, ty0, hc, hk, hl, hin, hty, hnm, hfin, hdecl, hd⟩ := hL
  have hap := va_apart (own := own) hts hin ty0 hty hnm hK.1 hc
  obtain ⟨⟨r, h1, cell, q1, q2, q3, q4⟩, hAa⟩ := hR a _ hw
  have hr : r = (C, T, N) := Option.some.inj (h1.symm.trans hc)
  subst hr
  obtain ⟨hSl, hfc, kC, hkC, hkind⟩ := hK.1.1 ci _ hc
  obtain ⟨cf, kf, fi, f, hi, hsl⟩ := hSl k hk
  have hlay := hts _ (hin _ (u_in_lay hk))
  unfold u_lay at hlay
  rw [if_pos hfin] at hlay
  have hst := (u_facts hfc hkC (u_lays hts hin hk) hi).1
  have hcf : m.cls = cf := by
    obtain ⟨_, _, c', _, _, _, -, -, hf', -, -, -, hown2, -⟩ := Cond.laysFinal_spec hlay
    have e1 : c' = cf := by have := hi.symm.trans hf'; simp at this; exact this.1.symm
    rw [hdecl] at hown2
    rw [← e1]; exact Option.some.inj (hown.symm.trans hown2)
  have h6 := u_fits hfc hkC hkind (Or.inr hlay) hi hd hn hfit
  refine W.putFinK hx hb hown (hts _ hl) hi hst hcf hin2 (by rw [q2]; exact h6) q1 q3 (by rw [hsl]; exact k2_hasslot (q4 k hk)) rfl rfl hdg fun H' e1 e2 e3 => ?_
  rw [hsl] at e1 ⊢
  exact kk H' _ (hR.set hw ⟨_, hc, t_OB.to (V := updV (vp_V fs) k v) ⟨_, e1, q2, q3, t_set q4 hap hk v⟩ (fun j _ => vp_updV_set hlen v j)⟩ e3) (hS.put e2 e3 hAa) e2
/-- a nest mate's private constructor -/
theorem fx_iN {y : MethodName} {cy : ByteArray} {ny nL fr lo mc ms index z' : Nat} {b : Nat} {st0 : List Value} (hx : p.tables.exec = Jvm.exec) (hb : c.code = cc) (hml : c.maxLocals = nL) (hts : ∀ w ∈ lw_g, w.before args s = true) (hown : s.vm.findClass own = some m.cls) (hK : KpC D dA s) (hR : Rp D dA A w H) (hS : va_S A H0 H locs) (hz : H.size = z) (hA : ∀ q, H0.size ≤ q → A q)
    (hM : Met l y (wz y cy ny none) (rc fr mc ms lo) (PzC D dA A w z [.ref b]) (QzC D dA A w' z') mc ms A) (hy : MY y cy ny none 0) (hy1 : y.name = "<init>") (hin : Cond.instanceMethod y ∈ lw_g) (hlk : (own, index, y) ∈ nestL) (hsz : ls.size = nL) (hst : st0 = .ref b :: rest) (hW : (rest.map fun v => v.category).sum ≤ 8) (hdg : decode cc pc = .ok (.invokespecial index, 3)) (hfr : (rc fr mc ms lo).frames + 1 ≤ R.frames ∧ 8 + (ny + 11) + (rc fr mc ms lo).locals ≤ R.locals) (hcs : cells + mc ≤ R.cells ∧ slots + ms ≤ R.slots)
    (kk : ∀ (H1 : Heap) (locs1 : List Loc), Rp D dA A w' H1 → va_S A H0 H1 locs1 → H1.size = z' → W p l e R s m args below meth c H1 locs1 (cells + mc) (slots + ms) Q (F0 m (pc + 3) ls rest)) : W p l e R s m args below meth c H locs cells slots Q (F0 m pc ls st0) := by
  have hA' : ∀ q, z ≤ q → A q := fun q h => hA q (Nat.le_trans (hz ▸ hS.1) h)
  refine va_callv (va_runIN (As := []) (rest := rest) ⟨hx, hb, hml, hown, hts⟩ hM ⟨va_cnB 0 hts (fz_goodIn hy.1) rfl rfl rfl (hK.2.1 _ hlk) (hts _ hy.2.1) hy.2.2 hfr, hy1, hts _ hin⟩ ⟨PzC.blind, PzC.at hK hR hz hA'⟩ rfl rfl hsz hst (lv_room hW) hdg hcs) hS (fun q _ h => h) (fun q h => h) (fun u t H1 locs1 ht hvm hw hB hz1 hk1 hS1 => ?_)
  exact kk H1 locs1 (by rw [← ht]; exact hB.1) hS1 (by rw [← ht]; exact hB.2)
/-- a constructor by a plain link -/
theorem fx_iI {y : MethodName} {cy : ByteArray} {ny nL fr lo mc ms index z' : Nat} {b : Nat} {st0 : List Value} (hx : p.tables.exec = Jvm.exec) (hb : c.code = cc) (hml : c.maxLocals = nL) (hts : ∀ w ∈ lw_g, w.before args s = true) (hown : s.vm.findClass own = some m.cls) (hK : KpC D dA s) (hR : Rp D dA A w H) (hS : va_S A H0 H locs) (hz : H.size = z) (hA : ∀ q, H0.size ≤ q → A q)
    (hM : Met l y (wz y cy ny none) (rc fr mc ms lo) (PzC D dA A w z [.ref b]) (QzC D dA A w' z') mc ms A) (hy : MY y cy ny none 0) (hy1 : y.name = "<init>") (hin : Cond.instanceMethod y ∈ lw_g) (hlk : Cond.methodLink own index y ∈ lw_g) (hsz : ls.size = nL) (hst : st0 = .ref b :: rest) (hW : (rest.map fun v => v.category).sum ≤ 8) (hdg : decode cc pc = .ok (.invokespecial index, 3)) (hfr : (rc fr mc ms lo).frames + 1 ≤ R.frames ∧ 8 + (ny + 11) + (rc fr mc ms lo).locals ≤ R.locals) (hcs : cells + mc ≤ R.cells ∧ slots + ms ≤ R.slots)
    (kk : ∀ (H1 : Heap) (locs1 : List Loc), Rp D dA A w' H1 → va_S A H0 H1 locs1 → H1.size = z' → W p l e R s m args below meth c H1 locs1 (cells + mc) (slots + ms) Q (F0 m (pc + 3) ls rest)) : W p l e R s m args below meth c H locs cells slots Q (F0 m pc ls st0) := by
  have hA' : ∀ q, z ≤ q → A q := fun q h => hA q (Nat.le_trans (hz ▸ hS.1) h)
  refine va_callv (va_runI (As := []) (rest := rest) ⟨hx, hb, hml, hown, hts⟩ hM ⟨callB_of (Ts := lw_g) 0 hts (fz_goodIn hy.1) rfl rfl rfl (hts _ hy.2.1) (hts _ hlk) hy.2.2 hfr, hy1, hts _ hin⟩ ⟨PzC.blind, PzC.at hK hR hz hA'⟩ rfl rfl hsz hst (lv_room hW) hdg hcs) hS (fun q _ h => h) (fun q h => h) (fun u t H1 locs1 ht hvm hw hB hz1 hk1 hS1 => ?_)
  exact kk H1 locs1 (by rw [← ht]; exact hB.1) hS1 (by rw [← ht]; exact hB.2)
theorem fx_cret (hx : p.tables.exec = Jvm.exec) (hb : c.code = cc) (hr : meth.sig.returnType = none) (hlocks : meth.locks = false) {z' : Nat} (hh : some (w, z) = some (w', z')) (hR : Rp D dA A w H) (hS : va_S A s.heap H locs) (hz : H.size = z) (hdg : decode cc pc = .ok (.return_, 1)) :
    W p l e R s m args below meth c H locs cells slots (MQ below (QzC D dA A w' z') args s cells slots A) (F0 m pc ls []) := by
  cases hh
  exact W.vret hx hb hr (fun t ht hW => ⟨⟨(), rfl, trivial, (ht.symm ▸ hR : Rp D dA A w t.heap), (ht.symm ▸ hz : t.heap.size = z)⟩, hS.F ht⟩) hS.2.2 hdg hlocks
end FXC
section FXM
variable {p : Program} {l : Launch} {e : Env} {R : Room} {s : State} {m : MethodId} {args : Array Value} {below : List Frame} {meth : Method} {c : Code} {H : Heap} {locs : List Loc} {cells slots : Nat} {Q : State → Prop}
variable {cc : ByteArray} {pc : Nat} {ls : Array Slot} {rest : List Value} {D : va_G} {dA : Nat → ClassId} {A : Nat → Prop} {a : Nat} {w w' : Fw} {H0 : Heap} {own : String} {z : Nat}
theorem fx_mna (hx : p.tables.exec = Jvm.exec) (hb : c.code = cc) (hts : ∀ w ∈ lw_g, w.before args s = true) (hown : s.vm.findClass own = some m.cls) (hK : KpC D dA s) (hR : Rp D dA A w H) (hS : va_S A H0 H locs) (hz : H.size = z) (hA : ∀ q, H0.size ≤ q → A q) {index : Nat} (hcl : Cond.classLink own index "[[I" ∈ lw_g) (hac : Cond.arrayClass .int ∈ lw_g) (hv : nM w z = some w') (hcells : cells + 34 ≤ R.cells) (hslots : slots + (33 + 33 * 33) ≤ R.slots) (hdg : decode cc pc = .ok (.multianewarray index 2, 4))
    (kk : ∀ (H1 : Heap) (locs1 : List Loc), Rp D dA A w' H1 → va_S A H0 H1 locs1 → H1.size = z + 34 → W p l e R s m args below meth c H1 locs1 (cells + 34) (slots + (33 + 33 * 33)) Q (F0 m (pc + 4) ls (.ref z :: rest))) : W p l e R s m args below meth c H locs cells slots Q (F0 m pc ls (.int 33 :: .int 33 :: rest)) := by
  cases hv
  obtain ⟨comp, cA, kA, f1, -, g1, g2, g3⟩ := arrayOverA_spec hK.2.2.2
  obtain ⟨cI, kI, cm, fI, gI1, gI2⟩ := Cond.arrayClass_spec (hts _ hac)
  have hcI : cI = dA 0 := Option.some.inj (fI.symm.trans (hK.1.1.2 0 _ rfl).2)
  have hcA : cA = dA 2 := Option.some.inj (g3.symm.trans (hK.1.1.2 2 _ rfl).2)
  have hco : comp = dA 0 := Option.some.inj (f1.symm.trans (hK.1.1.2 0 _ rfl).2)
  subst hcI; subst hcA; subst hco
  intro T hT X
  subst hz
  have hTs : T.heap.size = H.size := by rw [hT]
  obtain ⟨vm₁, X', step⟩ := gz_step X hx hown (hts _ hcl) g3 g1 g2 gI1 gI2 (g := F0 m pc ls (.int 33 :: .int 33 :: rest)) rfl (by rw [hb]; exact hdg) rfl hcells hslots
  obtain ⟨q1, q2, q3, q4⟩ := gz_facts (T.setVm vm₁) (dA 2) (dA 0) 33
  have hTv : (T.setVm vm₁).heap = H := hT
  have q1' : (gz_st (T.setVm vm₁) (dA 2) (dA 0) 33).heap.size = H.size + 34 := by rw [q1, hTv]
  have old : ∀ q : Nat, q < H.size → (gz_st (T.setVm vm₁) (dA 2) (dA 0) 33).heap[q]? = H[q]? := fun q hq => by
    rw [gz_old (T.setVm vm₁) (dA 2) (dA 0) (by rw [hTv]; exact hq) 33, hTv]
  have hR1 : Rp D dA A (fun q => if q = H.size then some (.inr (.inl (1, 33, fun i => if i < 33 then some (H.size + 1 + i) else none))) else if H.size + 1 ≤ q ∧ q < H.size + 1 + 33 then some (.inl (33, fun _ => 0)) else w q) (gz_st (T.setVm vm₁) (dA 2) (dA 0) 33).heap := by
    intro a e he
    dsimp only at he
    split at he
    · next h =>
      subst h
      cases he
      refine ⟨?_, hA _ hS.1⟩
      rw [hTv] at q2
      exact q2
    · split at he
      · next h1 h2 =>
        cases he
        refine ⟨?_, hA _ (Nat.le_trans hS.1 (by omega))⟩
        have h9 := gz_row (T.setVm vm₁) (dA 2) (dA 0) 33 (a - (H.size + 1)) (by omega)
        rw [hTv, show H.size + 1 + (a - (H.size + 1)) = a by omega] at h9
        exact h9
      · have hlt : a < H.size := (hR a e he).1.lt
        exact ⟨(hR a e he).1.kept (old a hlt), (hR a e he).2⟩
  have hS1 : va_S A H0 (gz_st (T.setVm vm₁) (dA 2) (dA 0) 33).heap (locs ++ (List.range 33).map fun j => ⟨T.heap.size, j⟩) := by
    refine ⟨Nat.le_trans hS.1 (by omega), fun q h1 h2 => (old q (Nat.lt_of_lt_of_le h1 hS.1)).trans (hS.2.1 q h1 h2), fun q hq => ?_⟩
    rcases List.mem_append.mp hq with h | h
    · exact hS.2.2 q h
    · obtain ⟨j, -, rfl⟩ := List.mem_map.mp h
      show A T.heap.size
      rw [hTs]
      exact hA _ hS.1
  obtain ⟨t, a1, b1⟩ := kk _ _ hR1 hS1 q1' _ rfl X'
  refine ⟨t, step t ?_, b1⟩
  rw [hTs]
  exact a1
end FXM
