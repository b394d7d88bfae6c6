/-! OWN KIT: a world is a function from addresses to cells; every method is walked against a pure function over it. -/
/-- a cell: an int array (length, contents), an array of references (its kind, length, contents), an object (class, fields) -/
abbrev Ent : Type := (Nat × (Nat → Int32)) ⊕ ((Nat × Nat × (Nat → Option Nat)) ⊕ (Nat × List Value))
abbrev Fw : Type := Nat → Option Ent
def fz_E (dA : Nat → ClassId) (e : Ent) : va_E := match e with
  | .inl q => .inl (dA 0, q.1, .inl q.2)
  | .inr (.inl q) => .inl (dA (q.1 + 1), q.2.1, .inr (.inr (.inr (.inr q.2.2))))
  | .inr (.inr o) => .inr o
def fup (w : Fw) (a : Nat) (e : Ent) : Fw := fun q => if q = a then some e else w q
/-- the heap holds the world, and all its cells may be written -/
def Rp (D : va_G) (dA : Nat → ClassId) (A : Nat → Prop) (w : Fw) (H : Heap) : Prop := ∀ (a : Nat) (e : Ent), w a = some e → va_at D vwCl (a, fz_E dA e) H ∧ A a
abbrev fz_tys (dA : Nat → ClassId) : List (ClassId × FieldType) := [(dA 0, .int), (dA 1, .object RX4), (dA 2, .array .int)]
abbrev yhas : MethodName := yX6_has
def Kp (D : va_G) (dA : Nat → ClassId) (U : State) : Prop := va_K D vwCl (fz_tys dA) U ∧ va_Nw (.methodLinkNest RX0 28 yX6_has RX6) U ∧ va_Nw (.methodLinkNest RX4 61 yX6_has RX6) U
theorem Kp.warm {D : va_G} {dA : Nat → ClassId} {s U : State} (h : Kp D dA s) (hW : s.WarmedH U.vm) : Kp D dA U := ⟨va_K.moved hW.alike h.1, va_Nw.warmM hW h.2.1, va_Nw.warmM hW h.2.2⟩
theorem Kp.same {D : va_G} {dA : Nat → ClassId} {s U : State} (h : Kp D dA s) (hv : s.vm = U.vm) : Kp D dA U := ⟨va_K.moved (hv ▸ Vm.Alike.refl s.vm) h.1, va_Nw.same rfl hv h.2.1, va_Nw.same rfl hv h.2.2⟩
-- reads and writes of a world
def gI (w : Fw) (a ci k : Nat) : Option Int32 := match w a with
  | some (.inr (.inr (c, fs))) => if c = ci then (match fs[k]? with | some (.int v) => some v | _ => none) else none
  | _ => none
def gR (w : Fw) (a ci k : Nat) : Option Nat := match w a with
  | some (.inr (.inr (c, fs))) => if c = ci then (match fs[k]? with | some (.ref v) => some v | _ => none) else none
  | _ => none
def pF (w : Fw) (a ci k : Nat) (v : Value) : Option Fw := match w a with
  | some (.inr (.inr (c, fs))) => if c = ci ∧ k < fs.length then some (fup w a (.inr (.inr (c, fs.set k v)))) else none
  | _ => none
def lI (w : Fw) (a : Nat) (i : Int32) : Option Int32 := match w a with
  | some (.inl (n, f)) => if i < 0 ∨ n ≤ i.toNatClampNeg then none else some (f i.toNatClampNeg)
  | _ => none
def sI (w : Fw) (a : Nat) (i x : Int32) : Option Fw := match w a with
  | some (.inl (n, f)) => if i < 0 ∨ n ≤ i.toNatClampNeg then none else some (fup w a (.inl (n, upd f i.toNatClampNeg x)))
  | _ => none
def lR (w : Fw) (kd a : Nat) (i : Int32) : Option Nat := match w a with
  | some (.inr (.inl (k, n, f))) => if k = kd then (if i < 0 ∨ n ≤ i.toNatClampNeg then none else f i.toNatClampNeg) else none
  | _ => none
def isO (w : Fw) (a ci : Nat) : Option Unit := match w a with
  | some (.inr (.inr (c, _))) => if c = ci then some () else none
  | _ => none
def dv (y : Int32) : Option Unit := if y = 0 then none else some ()
def zb (x : Int32) : Option Int32 := if x = 0 ∨ x = 1 then some x else none
theorem zb_some {x r : Int32} (h : zb x = some r) : (x = 0 ∨ x = 1) ∧ x = r := by
  unfold zb at h
  split at h
  · next hc => cases h; exact ⟨hc, rfl⟩
  · cases h
theorem gI_some {w : Fw} {a ci k : Nat} {v : Int32} (h : gI w a ci k = some v) : ∃ fs, w a = some (.inr (.inr (ci, fs))) ∧ fs[k]? = some (.int v) := by
  unfold gI at h
  split at h
  · next c fs e =>
    split at h
    · next hc =>
      subst hc
      split at h
      · next x ex => cases h; exact ⟨fs, e, ex⟩
      · cases h
    · cases h
  · cases h
theorem gR_some {w : Fw} {a ci k v : Nat} (h : gR w a ci k = some v) : ∃ fs, w a = some (.inr (.inr (ci, fs))) ∧ fs[k]? = some (.ref v) := by
  unfold gR at h
  split at h
  · next c fs e =>
    split at h
    · next hc =>
      subst hc
      split at h
      · next x ex => cases h; exact ⟨fs, e, ex⟩
      · cases h
    · cases h
  · cases h
theorem pF_some {w w' : Fw} {a ci k : Nat} {v : Value} (h : pF w a ci k v = some w') : ∃ fs, w a = some (.inr (.inr (ci, fs))) ∧ k < fs.length ∧ w' = fup w a (.inr (.inr (ci, fs.set k v))) := by
  unfold pF at h
  split at h
  · next c fs e =>
    split at h
    · next hc =>
      obtain ⟨hc, hk⟩ := hc
      subst hc
      cases h
      exact ⟨fs, e, hk, rfl⟩
    · cases h
  · cases h
theorem lI_some {w : Fw} {a : Nat} {i v : Int32} (h : lI w a i = some v) : ∃ n f, w a = some (.inl (n, f)) ∧ vp_in i n ∧ v = f i.toNatClampNeg := by
  unfold lI at h
  split at h
  · next n f e =>
    split at h
    · cases h
    · next hc => cases h; exact ⟨n, f, e, hc, rfl⟩
  · cases h
theorem sI_some {w w' : Fw} {a : Nat} {i x : Int32} (h : sI w a i x = some w') : ∃ n f, w a = some (.inl (n, f)) ∧ vp_in i n ∧ w' = fup w a (.inl (n, upd f i.toNatClampNeg x)) := by
  unfold sI at h
  split at h
  · next n f e =>
    split at h
    · cases h
    · next hc => cases h; exact ⟨n, f, e, hc, rfl⟩
  · cases h
theorem lR_some {w : Fw} {kd a v : Nat} {i : Int32} (h : lR w kd a i = some v) : ∃ n f, w a = some (.inr (.inl (kd, n, f))) ∧ vp_in i n ∧ f i.toNatClampNeg = some v := by
  unfold lR at h
  split at h
  · next k n f e =>
    split at h
    · next hk =>
      subst hk
      split at h
      · cases h
      · next hc => exact ⟨n, f, e, hc, h⟩
    · cases h
  · cases h
theorem isO_some {w : Fw} {a ci : Nat} {u : Unit} (h : isO w a ci = some u) : ∃ fs, w a = some (.inr (.inr (ci, fs))) := by
  unfold isO at h
  split at h
  · next c fs e =>
    split at h
    · next hc => subst hc; exact ⟨fs, e⟩
    · cases h
  · cases h
theorem dv_some {y : Int32} {u : Unit} (h : dv y = some u) : ¬ y = 0 := by
  unfold dv at h
  split at h
  · cases h
  · assumption
theorem bd {α β : Type} {o : Option α} {f : α → Option β} {r : β} (h : o.bind f = some r) : ∃ x, o = some x ∧ f x = some r := Option.bind_eq_some_iff.mp h
theorem fz_P1 {D : va_G} {dA : Nat → ClassId} {A : Nat → Prop} {w : Fw} {H : Heap} {a : Nat} {e : Ent} (h : Rp D dA A w H) (hw : w a = some e) : va_P D vwCl [(a, fz_E dA e)] H := by
  intro k q hk
  have hz : k < 1 := (List.getElem?_eq_some_iff.mp hk).1
  rw [show k = 0 by omega] at hk
  cases hk
  exact (h a e hw).1
theorem Rp.set {D : va_G} {dA : Nat → ClassId} {A : Nat → Prop} {w : Fw} {H H1 : Heap} {a : Nat} {e0 e : Ent} (h : Rp D dA A w H) (hw : w a = some e0) (he : va_at D vwCl (a, fz_E dA e) H1) (oq : ∀ q : Nat, q ≠ a → H1[q]? = H[q]?) : Rp D dA A (fup w a e) H1 := by
  intro b x hb
  unfold fup at hb
  by_cases hba : b = a
  · subst hba
    rw [if_pos rfl] at hb
    cases hb
    exact ⟨he, (h b e0 hw).2⟩
  · rw [if_neg hba] at hb
    exact ⟨(h b x hb).1.kept (oq b hba), (h b x hb).2⟩
/-- what a method's walk stands on -/
def Cx (p : Program) (s : State) (m : MethodId) (args : Array Value) (meth : Method) (c : Code) (D : va_G) (dA : Nat → ClassId) (own : String) (cc : ByteArray) (nL : Nat) (ret : Option FieldType) : Prop :=
  p.tables.exec = Jvm.exec ∧ c.code = cc ∧ meth.sig.returnType = ret ∧ c.maxLocals = nL ∧ s.vm.findClass own = some m.cls ∧ (∀ w ∈ lw_g, w.before args s = true) ∧ Kp D dA s ∧ meth.locks = false
/-- a field's link: its class and place -/
def FL (own : String) (index ci k : Nat) : Prop := ∃ (C : String) (T : u_T) (N : Nat), vwCl[ci]? = some (C, T, N) ∧ k < N ∧ Cond.fieldLink own index (T k).1 (T k).2.1 (T k).2.2.1 ∈ lw_g ∧ ∀ w ∈ u_ws C T N, w ∈ lw_g
def FP (own : String) (index ci k : Nat) (ty : FieldType) : Prop := ∃ (C : String) (T : u_T) (N : Nat) (ty0 : Nat → FieldType), vwCl[ci]? = some (C, T, N) ∧ k < N ∧ Cond.fieldLink own index (T k).1 (T k).2.1 (T k).2.2.1 ∈ lw_g ∧ (∀ w ∈ u_ws C T N, w ∈ lw_g) ∧ (∀ k, k < N → parseFieldDescriptor (T k).2.2.1 = some (ty0 k)) ∧ (∀ a, a < N → ∀ b, b < N → a ≠ b → (T a).2.1 ≠ (T b).2.1) ∧ (T k).2.2.2 = false ∧ parseFieldDescriptor (T k).2.2.1 = some ty
def wz (y : MethodName) (cc : ByteArray) (n : Nat) (ret : Option FieldType) : List Cond := .code y cc n ret :: lw_g
/-- a method: its code is in the tables, its class is initialised, how many parameters -/
def MY (y : MethodName) (cc : ByteArray) (n : Nat) (ret : Option FieldType) (np : Nat) : Prop := Cond.code y cc n ret ∈ lw_g ∧ Cond.initialized y.cls ∈ lw_g ∧ (y.cls ≠ "java/lang/invoke/MethodHandle" ∧ y.cls ≠ "java/lang/invoke/VarHandle" ∧ (parseMethodDescriptor y.desc).map (fun d => d.parameters.length) = some np)
def MV (y : MethodName) (C : String) : Prop := Cond.instanceMethod y ∈ lw_g ∧ Cond.selects C y y ∈ lw_g
abbrev rz (f n : Nat) : Room := { frames := f, cells := 0, slots := 0, locals := n }
theorem fz_goodIn {y : MethodName} {cc : ByteArray} {n : Nat} {ret : Option FieldType} (h : Cond.code y cc n ret ∈ lw_g) : GoodIn lw_g (wz y cc n ret) := by
  intro w hw
  have hm : w ∈ lw_g := (List.mem_cons.mp hw).elim (fun e => by rw [e]; exact h) id
  exact ⟨hm, good_of_word (List.mem_filter.mp hm).2⟩
def Pz (D : va_G) (dA : Nat → ClassId) (A : Nat → Prop) (w : Fw) (av : List Value) : Array Value → State → Prop := va_Pc av (fun U => Rp D dA A w U.heap ∧ Kp D dA U)
abbrev QzI (D : va_G) (dA : Nat → ClassId) (A : Nat → Prop) (r : Int32) (w : Fw) : Array Value → State → Outcome → State → Prop := va_Qi (S := Unit) (fun r' _ => r' = r) (fun _ t => Rp D dA A w t.heap) A
abbrev QzV (D : va_G) (dA : Nat → ClassId) (A : Nat → Prop) (w : Fw) : Array Value → State → Outcome → State → Prop := va_Qv (S := Unit) (fun _ => True) (fun _ t => Rp D dA A w t.heap) A
abbrev QzR (D : va_G) (dA : Nat → ClassId) (A : Nat → Prop) (r : Nat) (w : Fw) : Array Value → State → Outcome → State → Prop := va_Qr (S := Unit) (fun _ => True) (fun _ a t => a = r ∧ Rp D dA A w t.heap) A
theorem Pz.blind {D : va_G} {dA : Nat → ClassId} {A : Nat → Prop} {w : Fw} {av : List Value} : FrameBlind (Pz D dA A w av) := fun _ _ _ _ h => ⟨h.1, h.2.1, h.2.2.same rfl⟩
theorem Pz.at {D : va_G} {dA : Nat → ClassId} {A : Nat → Prop} {w : Fw} {av : List Value} {s : State} {H : Heap} (hK : Kp D dA s) (hR : Rp D dA A w H) : ∀ U : State, U.heap = H → s.WarmedH U.vm → Pz D dA A w av av.toArray U := fun U hU hW => ⟨rfl, by rw [hU]; exact hR, hK.warm hW⟩
section FX
variable {p : Program} {l : Launch} {e : Env} {R : Room} {s : State} {m : MethodId} {args : Array Value} {below : List Frame} {meth : Method} {c : Code} {H : Heap} {locs : List Loc} {cells slots : Nat} {Q : State → Prop}
variable {cc : ByteArray} {pc : Nat} {ls : Array Slot} {rest : List Value} {D : va_G} {dA : Nat → ClassId} {A : Nat → Prop} {a : Nat} {w : Fw} {H0 : Heap} {own : String}
theorem fx_gI (hx : p.tables.exec = Jvm.exec) (hb : c.code = cc) (hts : ∀ w ∈ lw_g, w.before args s = true) (hown : s.vm.findClass own = some m.cls) (hK : Kp D dA s) (hR : Rp D dA A w H) {index ci k : Nat} (hL : FL own index ci k) {v : Int32} (hv : gI w a ci k = some v) (hdg : decode cc pc = .ok (.getfield index, 3))
    (kk : W p l e R s m args below meth c H locs cells slots Q (F0 m (pc + 3) ls (.int v :: rest))) : W p l e R s m args below meth c H locs cells slots Q (F0 m pc ls (.ref a :: rest)) := by
  obtain ⟨fs, hw, hf⟩ := gI_some hv
  obtain ⟨C, T, N, hc, hk, hl, hin⟩ := hL
  exact va_get (D := D) (ws := [(a, .inr (ci, fs))]) hx hb hts hin hown hK.1 (fz_P1 hR hw) 0 rfl hc k hk (hts _ hl) (fun _ h => h) hf hdg kk
theorem fx_gR (hx : p.tables.exec = Jvm.exec) (hb : c.code = cc) (hts : ∀ w ∈ lw_g, w.before args s = true) (hown : s.vm.findClass own = some m.cls) (hK : Kp D dA s) (hR : Rp D dA A w H) {index ci k : Nat} (hL : FL own index ci k) {v : Nat} (hv : gR w a ci k = some v) (hdg : decode cc pc = .ok (.getfield index, 3))
    (kk : W p l e R s m args below meth c H locs cells slots Q (F0 m (pc + 3) ls (.ref v :: rest))) : W p l e R s m args below meth c H locs cells slots Q (F0 m pc ls (.ref a :: rest)) := by
  obtain ⟨fs, hw, hf⟩ := gR_some hv
  obtain ⟨C, T, N, hc, hk, hl, hin⟩ := hL
  exact va_get (D := D) (ws := [(a, .inr (ci, fs))]) hx hb hts hin hown hK.1 (fz_P1 hR hw) 0 rfl hc k hk (hts _ hl) (fun _ h => h) hf hdg kk
theorem fx_p (hx : p.tables.exec = Jvm.exec) (hb : c.code = cc) (hts : ∀ w ∈ lw_g, w.before args s = true) (hown : s.vm.findClass own = some m.cls) (hK : Kp D dA s) (hR : Rp D dA A w H) (hS : va_S A H0 H locs) {index ci k : Nat} {ty : FieldType} (hL : FP own index ci k ty) {v : Value} {w' : Fw} (hv : pF w a ci k v = some w') (hn : narrow ty v = v) (hfit : fits ty v = true) (hdg : decode cc pc = .ok (.putfield index, 3))
    (kk : ∀ (H1 : Heap) (locs1 : List Loc), Rp D dA A w' H1 → va_S A H0 H1 locs1 → W p l e R s m args below meth c H1 locs1 cells slots Q (F0 m (pc + 3) ls rest)) : W p l e R s m args below meth c H locs cells slots Q (F0 m pc ls (v :: .ref a :: rest)) := by
  obtain ⟨fs, hw, hlen, rfl⟩ := pF_some hv
  obtain ⟨C, T, N, ty0, hc, hk, hl, hin, hty, hnm, hfin, hd⟩ := hL
  have hap := va_apart (own := own) hts hin ty0 hty hnm hK.1 hc
  obtain ⟨⟨r, h1, cell, q1, q2, q3, q4⟩, hAa⟩ := hR a _ hw
  have hr : r = (C, T, N) := Option.some.inj (h1.symm.trans hc)
  subst hr
  obtain ⟨hSl, hfc, kC, hkC, hkind⟩ := hK.1.1 ci _ hc
  obtain ⟨cf, kf, fi, f, hi, hsl⟩ := hSl k hk
  have hlay := hts _ (hin _ (u_in_lay hk))
  unfold u_lay at hlay
  rw [if_neg (by rw [hfin]; decide)] at hlay
  have hst := (u_facts hfc hkC (u_lays hts hin hk) hi).1
  have h6 := u_store hfc hkC hkind hlay hi hd hn hfit
  refine W.putK hx hb (f := f) ⟨hown, hts _ hl, ⟨_, _, _, hi⟩, hst⟩ (by rw [q2]; exact h6) q1 q3 (by rw [hsl]; exact k2_hasslot (q4 k hk)) rfl rfl hdg fun H' e1 e2 e3 => ?_
  rw [hsl] at e1 ⊢
  exact kk H' _ (hR.set hw ⟨_, hc, t_OB.to (V := updV (vp_V fs) k v) ⟨_, e1, q2, q3, t_set q4 hap hk v⟩ (fun j _ => vp_updV_set hlen v j)⟩ e3) (hS.put e2 e3 hAa)
theorem fx_lI (hx : p.tables.exec = Jvm.exec) (hb : c.code = cc) (hK : Kp D dA s) (hR : Rp D dA A w H) {i v : Int32} (hv : lI w a i = some v) (hdg : decode cc pc = .ok (.iaload, 1))
    (kk : W p l e R s m args below meth c H locs cells slots Q (F0 m (pc + 1) ls (.int v :: rest))) : W p l e R s m args below meth c H locs cells slots Q (F0 m pc ls (.int i :: .ref a :: rest)) := by
  obtain ⟨n, f, hw, hin, rfl⟩ := lI_some hv
  exact va_iald (ws := [(a, .inl (dA 0, n, .inl f))]) hx hb hK.1 (fz_P1 hR hw) 0 0 rfl rfl hin hdg kk
theorem fx_sI (hx : p.tables.exec = Jvm.exec) (hb : c.code = cc) (hK : Kp D dA s) (hR : Rp D dA A w H) (hS : va_S A H0 H locs) {i v : Int32} {w' : Fw} (hv : sI w a i v = some w') (hdg : decode cc pc = .ok (.iastore, 1))
    (kk : ∀ (H1 : Heap) (locs1 : List Loc), Rp D dA A w' H1 → va_S A H0 H1 locs1 → W p l e R s m args below meth c H1 locs1 cells slots Q (F0 m (pc + 1) ls rest)) : W p l e R s m args below meth c H locs cells slots Q (F0 m pc ls (.int v :: .int i :: .ref a :: rest)) := by
  obtain ⟨n, f, hw, hin, rfl⟩ := sI_some hv
  obtain ⟨hat, hAa⟩ := hR a _ hw
  refine W.iast hx hb hat ((hK.1.2 0 _ rfl).1 n (fun j => .int (f j))) (fun q => by cases q) (by show ¬ (i < 0 ∨ (arrV _ _ _).slots.size ≤ _); rw [arrV_size]; exact hin) rfl rfl hdg fun H1 e z oq => ?_
  refine kk H1 _ (hR.set hw ?_ oq) (hS.put z oq hAa)
  show H1[a]? = some (vp_cell _ _)
  rw [e]
  show some ((vp_cell _ _).setSlot _ _) = _
  rw [vp_cell_i, vp_cell_i, arrV_store]
  congr 2
  funext q
  by_cases hq : q = i.toNatClampNeg
  · subst hq
    simp [updV, upd]
  · simp [updV, upd, hq]
theorem fx_lR (hx : p.tables.exec = Jvm.exec) (hb : c.code = cc) (hK : Kp D dA s) (hR : Rp D dA A w H) {kd v : Nat} {i : Int32} {ty : FieldType} (hty : (fz_tys dA)[kd + 1]? = some (dA (kd + 1), ty)) (href : ty.isReference = true) (hv : lR w kd a i = some v) (hdg : decode cc pc = .ok (.aaload, 1))
    (kk : W p l e R s m args below meth c H locs cells slots Q (F0 m (pc + 1) ls (.ref v :: rest))) : W p l e R s m args below meth c H locs cells slots Q (F0 m pc ls (.int i :: .ref a :: rest)) := by
  obtain ⟨n, f, hw, hin, hf⟩ := lR_some hv
  have hlt : i.toNatClampNeg < n := Nat.not_le.mp fun q => hin (Or.inr q)
  exact W.aald (v := .ref v) (ty := ty) hx hb (hR a _ hw).1 ((hK.1.2 (kd + 1) _ hty).1 n (fun j => va_rf (f j))) href (fun q => by cases q) (by show ¬ (i < 0 ∨ (arrV _ _ _).slots.size ≤ _); rw [arrV_size]; exact hin) (by show (arrV _ _ (fun j => va_rf (f j))).slots[_]? = _; rw [arrV_read _ _ hlt, hf]; rfl) rfl rfl hdg kk
-- calls
variable {y : MethodName} {cy : ByteArray} {ny np fr lo nL index : Nat} {ry : Option FieldType} {w' : Fw} {As st0 : List Value} {C : String}
theorem fx_CB (hts : ∀ w ∈ lw_g, w.before args s = true) (hy : MY y cy ny ry np) (hlk : Cond.methodLink own index y ∈ lw_g) (hfr : (rz fr lo).frames + 1 ≤ R.frames ∧ 8 + (ny + 11) + (rz fr lo).locals ≤ R.locals) : CallB R s args own index y cy ny ry (wz y cy ny ry) (rz fr lo) 0 0 np :=
  callB_of (Ts := lw_g) np hts (fz_goodIn hy.1) rfl rfl rfl (hts _ hy.2.1) (hts _ hlk) hy.2.2 hfr
theorem fx_vI (hx : p.tables.exec = Jvm.exec) (hb : c.code = cc) (hml : c.maxLocals = nL) (hts : ∀ w ∈ lw_g, w.before args s = true) (hown : s.vm.findClass own = some m.cls) (hK : Kp D dA s) (hR : Rp D dA A w H) (hS : va_S A H0 H locs) {r : Int32} {b ci : Nat} {u : Unit} (hO : isO w b ci = some u)
    (hM : Met l y (wz y cy ny ry) (rz fr lo) (Pz D dA A w (.ref b :: As)) (QzI D dA A r w') 0 0 A) (hy : MY y cy ny ry np) (hV : MV y C) (hc : (vwCl[ci]?).map (fun q => q.1) = some C) (hlk : Cond.methodLink own index y ∈ lw_g) (hn : As.length = np) (hsz : ls.size = nL) (hst : st0 = As.reverse ++ .ref b :: rest) (hW : (rest.map fun v => v.category).sum ≤ 8) (hdg : decode cc pc = .ok (.invokevirtual index, 3)) (hfr : (rz fr lo).frames + 1 ≤ R.frames ∧ 8 + (ny + 11) + (rz fr lo).locals ≤ R.locals) (hcs : cells + 0 ≤ R.cells ∧ slots + 0 ≤ R.slots)
    (kk : ∀ (H1 : Heap) (locs1 : List Loc), Rp D dA A w' H1 → va_S A H0 H1 locs1 → W p l e R s m args below meth c H1 locs1 cells slots Q (F0 m (pc + 3) ls (.int r :: rest))) : W p l e R s m args below meth c H locs cells slots Q (F0 m pc ls st0) := by
  obtain ⟨fs, hw⟩ := isO_some hO
  obtain ⟨q, hq, rfl⟩ := Option.map_eq_some_iff.mp hc
  refine va_calli (va_runV (As := As) (rest := rest) ⟨hx, hb, hml, hown, hts⟩ hM ⟨fx_CB hts hy hlk hfr, hts _ hV.1, hts _ hV.2⟩ ⟨Pz.blind, va_recv hK.1 (fz_P1 hR hw) hq (q0 := 0) rfl, Pz.at hK hR⟩ rfl hn hsz hst (lv_room hW) hdg hcs) hS (fun q _ h => h) (fun q h => h) (fun r' u t H1 locs1 ht hvm hw hB hz1 hk1 hS1 => ?_)
  subst hw
  exact kk H1 locs1 (by rw [← ht]; exact hB) hS1
theorem fx_vV (hx : p.tables.exec = Jvm.exec) (hb : c.code = cc) (hml : c.maxLocals = nL) (hts : ∀ w ∈ lw_g, w.before args s = true) (hown : s.vm.findClass own = some m.cls) (hK : Kp D dA s) (hR : Rp D dA A w H) (hS : va_S A H0 H locs) {b ci : Nat} {u : Unit} (hO : isO w b ci = some u)
    (hM : Met l y (wz y cy ny ry) (rz fr lo) (Pz D dA A w (.ref b :: As)) (QzV D dA A w') 0 0 A) (hy : MY y cy ny ry np) (hV : MV y C) (hc : (vwCl[ci]?).map (fun q => q.1) = some C) (hlk : Cond.methodLink own index y ∈ lw_g) (hn : As.length = np) (hsz : ls.size = nL) (hst : st0 = As.reverse ++ .ref b :: rest) (hW : (rest.map fun v => v.category).sum ≤ 8) (hdg : decode cc pc = .ok (.invokevirtual index, 3)) (hfr : (rz fr lo).frames + 1 ≤ R.frames ∧ 8 + (ny + 11) + (rz fr lo).locals ≤ R.locals) (hcs : cells + 0 ≤ R.cells ∧ slots + 0 ≤ R.slots)
    (kk : ∀ (H1 : Heap) (locs1 : List Loc), Rp D dA A w' H1 → va_S A H0 H1 locs1 → W p l e R s m args below meth c H1 locs1 cells slots Q (F0 m (pc + 3) ls rest)) : W p l e R s m args below meth c H locs cells slots Q (F0 m pc ls st0) := by
  obtain ⟨fs, hw⟩ := isO_some hO
  obtain ⟨q, hq, rfl⟩ := Option.map_eq_some_iff.mp hc
  refine va_callv (va_runV (As := As) (rest := rest) ⟨hx, hb, hml, hown, hts⟩ hM ⟨fx_CB hts hy hlk hfr, hts _ hV.1, hts _ hV.2⟩ ⟨Pz.blind, va_recv hK.1 (fz_P1 hR hw) hq (q0 := 0) rfl, Pz.at hK hR⟩ rfl hn hsz hst (lv_room hW) hdg hcs) hS (fun q _ h => h) (fun q h => h) (fun u t H1 locs1 ht hvm hw hB hz1 hk1 hS1 => ?_)
  exact kk H1 locs1 (by rw [← ht]; exact hB) hS1
theorem fx_vR (hx : p.tables.exec = Jvm.exec) (hb : c.code = cc) (hml : c.maxLocals = nL) (hts : ∀ w ∈ lw_g, w.before args s = true) (hown : s.vm.findClass own = some m.cls) (hK : Kp D dA s) (hR : Rp D dA A w H) (hS : va_S A H0 H locs) {r : Nat} {b ci : Nat} {u : Unit} (hO : isO w b ci = some u)
    (hM : Met l y (wz y cy ny ry) (rz fr lo) (Pz D dA A w (.ref b :: As)) (QzR D dA A r w') 0 0 A) (hy : MY y cy ny ry np) (hV : MV y C) (hc : (vwCl[ci]?).map (fun q => q.1) = some C) (hlk : Cond.methodLink own index y ∈ lw_g) (hn : As.length = np) (hsz : ls.size = nL) (hst : st0 = As.reverse ++ .ref b :: rest) (hW : (rest.map fun v => v.category).sum ≤ 8) (hdg : decode cc pc = .ok (.invokevirtual index, 3)) (hfr : (rz fr lo).frames + 1 ≤ R.frames ∧ 8 + (ny + 11) + (rz fr lo).locals ≤ R.locals) (hcs : cells + 0 ≤ R.cells ∧ slots + 0 ≤ R.slots)
    (kk : ∀ (H1 : Heap) (locs1 : List Loc), Rp D dA A w' H1 → va_S A H0 H1 locs1 → W p l e R s m args below meth c H1 locs1 cells slots Q (F0 m (pc + 3) ls (.ref r :: rest))) : W p l e R s m args below meth c H locs cells slots Q (F0 m pc ls st0) := by
  obtain ⟨fs, hw⟩ := isO_some hO
  obtain ⟨q, hq, rfl⟩ := Option.map_eq_some_iff.mp hc
  refine va_callr (va_runV (As := As) (rest := rest) ⟨hx, hb, hml, hown, hts⟩ hM ⟨fx_CB hts hy hlk hfr, hts _ hV.1, hts _ hV.2⟩ ⟨Pz.blind, va_recv hK.1 (fz_P1 hR hw) hq (q0 := 0) rfl, Pz.at hK hR⟩ rfl hn hsz hst (lv_room hW) hdg hcs) hS (fun q _ h => h) (fun q h => h) (fun u ra t H1 locs1 ht hvm hw hB hz1 hk1 hS1 => ?_)
  obtain ⟨rfl, hB⟩ := hB
  exact kk H1 locs1 (by rw [← ht]; exact hB) hS1
theorem fx_sI' (hx : p.tables.exec = Jvm.exec) (hb : c.code = cc) (hml : c.maxLocals = nL) (hts : ∀ w ∈ lw_g, w.before args s = true) (hown : s.vm.findClass own = some m.cls) (hK : Kp D dA s) (hR : Rp D dA A w H) (hS : va_S A H0 H locs) {r : Int32}
    (hM : Met l y (wz y cy ny ry) (rz fr lo) (Pz D dA A w As) (QzI D dA A r w') 0 0 A) (hy : MY y cy ny ry np) (hV : Cond.static y ∈ lw_g) (hlk : Cond.methodLink own index y ∈ lw_g) (hn : As.length = np) (hsz : ls.size = nL) (hst : st0 = As.reverse ++ rest) (hW : (rest.map fun v => v.category).sum ≤ 8) (hdg : decode cc pc = .ok (.invokestatic index, 3)) (hfr : (rz fr lo).frames + 1 ≤ R.frames ∧ 8 + (ny + 11) + (rz fr lo).locals ≤ R.locals) (hcs : cells + 0 ≤ R.cells ∧ slots + 0 ≤ R.slots)
    (kk : ∀ (H1 : Heap) (locs1 : List Loc), Rp D dA A w' H1 → va_S A H0 H1 locs1 → W p l e R s m args below meth c H1 locs1 cells slots Q (F0 m (pc + 3) ls (.int r :: rest))) : W p l e R s m args below meth c H locs cells slots Q (F0 m pc ls st0) := by
  refine va_calli (va_runS (As := As) (rest := rest) ⟨hx, hb, hml, hown, hts⟩ hM ⟨fx_CB hts hy hlk hfr, hts _ hV⟩ ⟨Pz.blind, Pz.at hK hR⟩ rfl hn hsz hst (lv_room hW) hdg hcs) hS (fun q _ h => h) (fun q h => h) (fun r' u t H1 locs1 ht hvm hw hB hz1 hk1 hS1 => ?_)
  subst hw
  exact kk H1 locs1 (by rw [← ht]; exact hB) hS1
theorem fx_sN (hx : p.tables.exec = Jvm.exec) (hb : c.code = cc) (hml : c.maxLocals = nL) (hts : ∀ w ∈ lw_g, w.before args s = true) (hown : s.vm.findClass own = some m.cls) (hK : Kp D dA s) (hR : Rp D dA A w H) (hS : va_S A H0 H locs) {r : Int32} {host : String}
    (hM : Met l y (wz y cy ny ry) (rz fr lo) (Pz D dA A w As) (QzI D dA A r w') 0 0 A) (hy : MY y cy ny ry np) (hV : Cond.static y ∈ lw_g) (hlk : va_Nw (.methodLinkNest own index y host) s) (hn : As.length = np) (hsz : ls.size = nL) (hst : st0 = As.reverse ++ rest) (hW : (rest.map fun v => v.category).sum ≤ 8) (hdg : decode cc pc = .ok (.invokestatic index, 3)) (hfr : (rz fr lo).frames + 1 ≤ R.frames ∧ 8 + (ny + 11) + (rz fr lo).locals ≤ R.locals) (hcs : cells + 0 ≤ R.cells ∧ slots + 0 ≤ R.slots)
    (kk : ∀ (H1 : Heap) (locs1 : List Loc), Rp D dA A w' H1 → va_S A H0 H1 locs1 → W p l e R s m args below meth c H1 locs1 cells slots Q (F0 m (pc + 3) ls (.int r :: rest))) : W p l e R s m args below meth c H locs cells slots Q (F0 m pc ls st0) := by
  refine va_calli (va_runSN (As := As) (rest := rest) ⟨hx, hb, hml, hown, hts⟩ hM ⟨va_cnB np hts (fz_goodIn hy.1) rfl rfl rfl hlk (hts _ hy.2.1) hy.2.2 hfr, hts _ hV, trivial⟩ ⟨Pz.blind, Pz.at hK hR⟩ rfl hn hsz hst (lv_room hW) hdg hcs) hS (fun q _ h => h) (fun q h => h) (fun r' u t H1 locs1 ht hvm hw hB hz1 hk1 hS1 => ?_)
  subst hw
  exact kk H1 locs1 (by rw [← ht]; exact hB) hS1
-- returns
theorem fx_iret (hx : p.tables.exec = Jvm.exec) (hb : c.code = cc) (hr : meth.sig.returnType = some .int) (hlocks : meth.locks = false) {v r : Int32} (hv : v = r) (hw : w = w') (hR : Rp D dA A w H) (hS : va_S A s.heap H locs) (hdg : decode cc pc = .ok (.ireturn, 1)) :
    W p l e R s m args below meth c H locs cells slots (MQ below (QzI D dA A r w') args s cells slots A) (F0 m pc ls [.int v]) := by
  subst hw
  exact W.iret (v := v) hx hb hr (fun t ht hW => ⟨⟨v, (), rfl, hv, (ht.symm ▸ hR : Rp D dA A w t.heap)⟩, hS.F ht⟩) hS.2.2 hdg hlocks
theorem fx_vret (hx : p.tables.exec = Jvm.exec) (hb : c.code = cc) (hr : meth.sig.returnType = none) (hlocks : meth.locks = false) (hw : w = w') (hR : Rp D dA A w H) (hS : va_S A s.heap H locs) (hdg : decode cc pc = .ok (.return_, 1)) :
    W p l e R s m args below meth c H locs cells slots (MQ below (QzV D dA A w') args s cells slots A) (F0 m pc ls []) := by
  subst hw
  exact W.vret hx hb hr (fun t ht hW => ⟨⟨(), rfl, trivial, (ht.symm ▸ hR : Rp D dA A w t.heap)⟩, hS.F ht⟩) hS.2.2 hdg hlocks
theorem fx_zret (hx : p.tables.exec = Jvm.exec) (hb : c.code = cc) (hr : meth.sig.returnType = some .boolean) (hlocks : meth.locks = false) {v r : Int32} (hv : zb v = some r) (hw : w = w') (hR : Rp D dA A w H) (hS : va_S A s.heap H locs) (hdg : decode cc pc = .ok (.ireturn, 1)) :
    W p l e R s m args below meth c H locs cells slots (MQ below (QzI D dA A r w') args s cells slots A) (F0 m pc ls [.int v]) := by
  subst hw
  obtain ⟨hz, rfl⟩ := zb_some hv
  exact W.zret (v := v) hx hb hr (by rcases hz with rfl | rfl <;> rfl) (fun t ht hW => ⟨⟨v, (), rfl, rfl, (ht.symm ▸ hR : Rp D dA A w t.heap)⟩, hS.F ht⟩) hS.2.2 hdg hlocks
theorem fx_aret {n : String} (hx : p.tables.exec = Jvm.exec) (hb : c.code = cc) (hr : meth.sig.returnType = some (.object n)) (hlocks : meth.locks = false) {v r : Nat} (hv : v = r) (hw : w = w') (hR : Rp D dA A w H) (hS : va_S A s.heap H locs) (hdg : decode cc pc = .ok (.areturn, 1)) :
    W p l e R s m args below meth c H locs cells slots (MQ below (QzR D dA A r w') args s cells slots A) (F0 m pc ls [.ref v]) := by
  subst hw
  exact W.aret (v := .ref v) hx hb hr (Or.inl ⟨n, rfl⟩) (Or.inr ⟨v, rfl⟩) (fun t ht hW => ⟨⟨(), v, rfl, trivial, hv, (ht.symm ▸ hR : Rp D dA A w t.heap)⟩, hS.F ht⟩) hS.2.2 hdg hlocks
end FX
