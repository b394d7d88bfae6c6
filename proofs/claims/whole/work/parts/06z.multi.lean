/-! new int[33][33]: the outer row, then the inner ones behind it, one by one -/
def gz_out (cA : ClassId) (h0 i : Nat) : Cell := arrV cA 33 (fun j => va_rf (if j < i then some (h0 + 1 + j) else none))
def gz_in (cI : ClassId) : Cell := arrV cI 33 (fun _ => .int 0)
theorem gz_out_next (cA : ClassId) (h0 i : Nat) : (gz_out cA h0 i).setSlot i (.ref (h0 + 1 + i)) = gz_out cA h0 (i + 1) := by
  unfold gz_out
  rw [arrV_store]
  congr 1
  funext j
  by_cases e : j = i
  · subst e
    simp [updV, va_rf]
  · by_cases h : j < i
    · simp [updV, e, h, Nat.lt_succ_of_lt h]
    · simp [updV, e, h, show ¬ j < i + 1 by omega]
/-- the state with i inner rows -/
def gz_st (T : State) (cA cI : ClassId) : Nat → State
  | 0 => T.pushCell (gz_out cA T.heap.size 0)
  | i + 1 => ((gz_st T cA cI i).pushCell (gz_in cI)).setCell T.heap.size (gz_out cA T.heap.size (i + 1))
theorem gz_in_size (cI : ClassId) : (gz_in cI).slots.size = 33 := arrV_size _ _ _
theorem gz_out_size (cA : ClassId) (h0 i : Nat) : (gz_out cA h0 i).slots.size = 33 := arrV_size _ _ _
theorem gz_facts (T : State) (cA cI : ClassId) : ∀ i, (gz_st T cA cI i).heap.size = T.heap.size + 1 + i ∧ (gz_st T cA cI i).heap[T.heap.size]? = some (gz_out cA T.heap.size i) ∧ (gz_st T cA cI i).vm = T.vm ∧ (gz_st T cA cI i).slotsUsed = T.slotsUsed + 33 + i * 33
  | 0 => ⟨by simp [gz_st], by simp [gz_st], rfl, by simp [gz_st, gz_out_size]⟩
  | i + 1 => by
    obtain ⟨a, b, d, u⟩ := gz_facts T cA cI i
    have hlt : T.heap.size < (gz_st T cA cI i).heap.size := by omega
    have hb' : ((gz_st T cA cI i).pushCell (gz_in cI)).heap[T.heap.size]? = some (gz_out cA T.heap.size i) := by rw [State.heap_pushCell_of_lt (h := hlt)]; exact b
    refine ⟨?_, State.heap_setCell_self hb', by simp [gz_st, d], ?_⟩
    · simp [gz_st, State.setCell, a]; omega
    · simp [gz_st, u, gz_in_size]; omega
theorem gz_top (T : State) (f : JFrame) (cA cI : ClassId) : ∀ i, gz_st (T.setTop f) cA cI i = (gz_st T cA cI i).setTop f
  | 0 => rfl
  | i + 1 => by simp only [gz_st, gz_top T f cA cI i, State.heap_setTop, State.pushCell_setTop, State.setCell_setTop]
theorem gz_old (T : State) (cA cI : ClassId) {a : Addr} (ha : a < T.heap.size) : ∀ i, (gz_st T cA cI i).heap[a]? = T.heap[a]?
  | 0 => State.heap_pushCell_of_lt _ _ ha
  | i + 1 => by
    have f1 := (gz_facts T cA cI i).1
    have hlt : a < (gz_st T cA cI i).heap.size := Nat.lt_of_lt_of_le ha (by omega)
    show (((gz_st T cA cI i).pushCell (gz_in cI)).setCell T.heap.size _).heap[a]? = _
    rw [State.heap_setCell_other (Nat.ne_of_gt ha), State.heap_pushCell_of_lt (h := hlt)]
    exact gz_old T cA cI ha i
theorem gz_row (T : State) (cA cI : ClassId) : ∀ i j, j < i → (gz_st T cA cI i).heap[T.heap.size + 1 + j]? = some (gz_in cI)
  | 0, _, h => absurd h (Nat.not_lt_zero _)
  | i + 1, j, h => by
    have f1 := (gz_facts T cA cI i).1
    show (((gz_st T cA cI i).pushCell (gz_in cI)).setCell T.heap.size _).heap[T.heap.size + 1 + j]? = _
    rw [State.heap_setCell_other (show T.heap.size ≠ T.heap.size + 1 + j by omega)]
    by_cases hj : j < i
    · have hlt : T.heap.size + 1 + j < (gz_st T cA cI i).heap.size := by omega
      rw [State.heap_pushCell_of_lt (h := hlt)]
      exact gz_row T cA cI i j hj
    · have e : j = i := by omega
      subst e
      rw [← f1]
      exact State.heap_pushCell_size _ _
section GZ
variable {E : CtlPost} {e : Env} {d : Bool} {acts : List Action} {s : State}
theorem gz_newArray {c comp : ClassId} {k : Class} {type : FieldType} {len : Nat} {init : Value} (hk : s.vm.classes[c]? = some k) (hkind : k.kind = .array comp type)
    (hlimit : ¬ len > e.platform.arrayLengthLimit) (hheap : ¬ len * componentBytes type > e.platform.maxHeapBytes) (hfit : fits type init = true) (hdef : init.isDefault = true) {Q : Addr → Pre}
    (h1 : s.heap.size < e.platform.maxCells) (h2 : s.slotsUsed + len ≤ e.platform.maxSlots)
    (hq : Q s.heap.size d acts (s.pushCell (arrV c len (fun _ => init)))) :
    wp (Jvm.newArray c len init) Q E e d acts s := by
  rw [← arrV_new] at hq
  have hfits : ∀ i v, (Array.replicate len init)[i]? = some v → s.fitsSlot c .none i v = true := by
    intro i v hv
    simp only [Array.getElem?_replicate] at hv
    split at hv
    · cases hv; simp [State.fitsSlot, State.slotType?, hk, hkind, hfit]
    · cases hv
  have hda : allocActs (Array.replicate len init) s.heap.size acts = acts := by
    have hall : ((Array.replicate len init).all (·.isDefault)) = true := by
      rw [Array.all_replicate]; split <;> simp [hdef]
    unfold allocActs; rw [if_pos hall]
  simp only [Jvm.newArray, Jvm.arrayFits, wp_bind', W.ask, W.ite, hlimit, if_false, wp_pure', W.theClass, hk, hkind, hheap, W.alloc, W.stop, Option.some.injEq, exists_eq_left', Array.size_replicate, hda]
  rw [if_neg (by omega)]
  exact ⟨h1, h2, hfits, hq⟩
theorem gz_make {cA cI c0 : ClassId} {k kI : Class} (hk : s.vm.classes[cA]? = some k) (hkind : k.kind = .array cI (.array .int)) (hkI : s.vm.classes[cI]? = some kI) (hkindI : kI.kind = .array c0 .int)
    (hl : ¬ 33 > e.platform.arrayLengthLimit) (hh : ¬ 33 * 4 > e.platform.maxHeapBytes) (hc : s.heap.size + 34 ≤ e.platform.maxCells) (hs : s.slotsUsed + 33 + 33 * 33 ≤ e.platform.maxSlots)
    {Q : Addr → Pre} (hq : ∀ d' acts', Q s.heap.size d' acts' (gz_st s cA cI 33)) : wp (multianewarray.make cA [33, 33]) Q E e d acts s := by
  have h33 : (33 : Int32).toNatClampNeg = 33 := by decide
  have hn : ¬ (33 : Int32) < 0 := by decide
  have hfind : ([(33 : Int32)].find? (· < 0)) = none := by decide
  rw [multianewarray.make]
  simp only [wp_bind', W.ite, hn, if_false, wp_pure', W.theClass, hk, hkind, Option.some.injEq, exists_eq_left', h33]
  refine gz_newArray hk hkind hl hh rfl rfl (by omega) (by omega) ?_
  have h0 : arrV cA 33 (fun _ => Value.null) = gz_out cA s.heap.size 0 := by
    unfold gz_out
    congr 1
  rw [h0]
  simp only [hfind]
  rw [ite_self, wp_bind', Std.Legacy.Range.forIn_eq_forIn_range']
  have hsz : ([:33] : Std.Legacy.Range).size = 33 := by simp [Std.Legacy.Range.size]
  rw [hsz]
  show wp (forIn (List.range' 0 33 1) PUnit.unit _) _ E e d acts _
  refine wp_forIn_inv (fun rest s' => ∃ i, i ≤ 33 ∧ rest = List.range' i (33 - i) ∧ s' = gz_st s cA cI i) _ _ ⟨0, Nat.zero_le _, rfl, rfl⟩ ?_ ?_
  · rintro x rest s' d' acts' Q' ⟨i, hi, hr, rfl⟩ hnext
    have hlt : i < 33 := by
      rcases Nat.lt_or_ge i 33 with h | h
      · exact h
      · rw [show 33 - i = 0 from by omega] at hr; simp at hr
    obtain ⟨rfl, hrest⟩ : x = i ∧ rest = List.range' (i + 1) (33 - (i + 1)) := by
      rw [show 33 - i = (33 - (i + 1)) + 1 from by omega, List.range'_succ] at hr
      exact ⟨(List.cons.inj hr).1, (List.cons.inj hr).2⟩
    obtain ⟨f1, f2, f3, f4⟩ := gz_facts s cA cI x
    simp only [wp_bind']
    rw [multianewarray.make]
    simp only [wp_bind', W.ite, hn, if_false, wp_pure', W.theClass, f3, hkI, hkindI, Option.some.injEq, exists_eq_left', h33]
    refine gz_newArray (by rw [f3]; exact hkI) hkindI hl hh rfl rfl (by omega) (by omega) ?_
    have hlt0 : s.heap.size < (gz_st s cA cI x).heap.size := by omega
    simp only [wp_bind', W.writeLoc, wp_pure']
    refine ⟨gz_out cA s.heap.size x, by rw [State.heap_pushCell_of_lt (h := hlt0)]; exact f2, by simp [gz_out, arrV], by rw [gz_out_size]; exact hlt, ?_, hnext _ _ _ ⟨x + 1, hlt, hrest, ?_⟩⟩
    · simp [gz_out, arrV, State.fitsSlot, State.slotType?, f3, hk, hkind, fits]
    · rw [f1, gz_out_next]; rfl
  · rintro s' d' acts' ⟨i, hi, hr, rfl⟩
    have hiN : i = 33 := by
      rcases Nat.lt_or_ge i 33 with h | h
      · rw [show 33 - i = (33 - (i + 1)) + 1 from by omega, List.range'_succ] at hr; cases hr
      · omega
    subst hiN
    simp only [wp_pure']
    exact hq _ _
end GZ
section GZS
variable {p : Program} {l : Launch} {e : Env} {R : Room} {s : State} {m : MethodId} {args : Array Value} {below : List Frame} {meth : Method} {c : Code} {T : State} {locs : List Loc} {cells slots : Nat}
theorem gz_stand (X : Stand p l e R s m args below meth c T locs cells slots) (cA cI : ClassId) :
    ∀ i, Stand p l e R s m args below meth c (gz_st T cA cI i) (locs ++ (List.range i).map fun j => ⟨T.heap.size, j⟩) (cells + 1 + i) (slots + 33 + i * 33)
  | 0 => by
    have h := X.pushed (gz_out cA T.heap.size 0)
    rw [gz_out_size] at h
    simpa [gz_st] using h
  | i + 1 => by
    have Xi := gz_stand X cA cI i
    obtain ⟨f1, f2, f3, f4⟩ := gz_facts T cA cI i
    have hlt0 : T.heap.size < (gz_st T cA cI i).heap.size := by omega
    have hcell : ((gz_st T cA cI i).pushCell (gz_in cI)).heap[T.heap.size]? = some (gz_out cA T.heap.size i) := by rw [State.heap_pushCell_of_lt (h := hlt0)]; exact f2
    have h := (Xi.pushed (gz_in cI)).stored hcell i (.ref (T.heap.size + 1 + i))
    rw [gz_in_size, gz_out_next] at h
    have e2 : (locs ++ (List.range (i + 1)).map fun j => (⟨T.heap.size, j⟩ : Loc)) = (locs ++ (List.range i).map fun j => (⟨T.heap.size, j⟩ : Loc)) ++ [⟨T.heap.size, i⟩] := by simp [List.range_succ, List.append_assoc]
    have e3 : slots + 33 + (i + 1) * 33 = slots + 33 + i * 33 + 33 := by omega
    rw [e2, e3]
    exact h
theorem gz_step (X : Stand p l e R s m args below meth c T locs cells slots) (hexec : p.tables.exec = Jvm.exec) {own : String} {index : Nat} {cA cI : ClassId} {kA kI : Class} {c0 : ClassId}
    (hown : s.vm.findClass own = some m.cls) (hclink : (Cond.classLink own index "[[I").before args s = true) (hfA : s.vm.findClass "[[I" = some cA) (hkA : s.vm.classes[cA]? = some kA) (hkindA : kA.kind = .array cI (.array .int)) (hkI : s.vm.classes[cI]? = some kI) (hkindI : kI.kind = .array c0 .int)
    {g : JFrame} (hg : g.method = m) (hdg : decode c.code g.pc = .ok (.multianewarray index 2, 4)) {rest : List Value} (hstack : g.stack = .int 33 :: .int 33 :: rest)
    (hcells : cells + 34 ≤ R.cells) (hslots : slots + (33 + 33 * 33) ≤ R.slots) :
    ∃ vm₁ : Vm, Stand p l e R s m args below meth c (gz_st (T.setVm vm₁) cA cI 33) (locs ++ (List.range 33).map fun j => ⟨T.heap.size, j⟩) (cells + 1 + 33) (slots + 33 + 33 * 33) ∧
      ∀ target, Steps p.tables e below ((gz_st (T.setVm vm₁) cA cI 33).setTop { g with pc := g.pc + 4, stack := .ref T.heap.size :: rest }) target → Steps p.tables e below (T.setTop g) target := by
  subst hg
  have hpl : e.platform.magicAccessors = ({} : Platform).magicAccessors := by rw [X.admits.platform]
  obtain ⟨c1, hfc1, hcl⟩ := Cond.classLink_spec hown hclink e.platform hpl
  cases hfA.symm.trans hfc1
  obtain ⟨hg₁, hwarm₁, hready₁⟩ := State.classEntry (e := e) X.warmed hcl
  generalize T.vm.noted g.method.cls index (.cls cA) = vm₁ at hg₁ hwarm₁ hready₁
  have hal : s.vm.Alike vm₁ := hwarm₁.alike
  obtain ⟨kA₁, hkA₁, heA⟩ := hal.2.2 _ _ hkA
  obtain ⟨kI₁, hkI₁, heI⟩ := hal.2.2 _ _ hkI
  have hkindA₁ : kA₁.kind = .array cI (.array .int) := by rw [heA]; exact hkindA
  have hkindI₁ : kI₁.kind = .array c0 .int := by rw [heI]; exact hkindI
  have X₁ := X.noted hwarm₁
  obtain ⟨hr1, hr2⟩ := X.roomAbove hcells hslots
  refine ⟨vm₁, gz_stand X₁ cA cI 33, fun target hrest => ?_⟩
  have hl : ¬ 33 > e.platform.arrayLengthLimit := by rw [Launch.admits_arrayLengthLimit X.admits]; omega
  have hh : ¬ 33 * 4 > e.platform.maxHeapBytes := by rw [Launch.admits_maxHeapBytes X.admits]; omega
  jvm_step X.here [hexec, hdg]
  simp only [multianewarray.sem, wp_bind', W.resolveClassAt_links (State.method?_setTop g X.here.top) hg₁]
  rw [W.popN, if_neg (by decide)]
  refine ⟨g, State.topJava?_setTop' (s := T.setVm vm₁) g X.here.top, [.int 33, .int 33], rest, rfl, hstack, ?_⟩
  simp only [List.mapM_cons, List.mapM_nil, wp_bind', wp_pure']
  refine gz_make (k := kA₁) (kI := kI₁) hkA₁ hkindA₁ hkI₁ hkindI₁ hl hh (by show T.heap.size + 34 ≤ _; omega) (by show T.slotsUsed + _ + _ ≤ _; omega) (fun d' acts' => ?_)
  have XF := gz_stand X₁ cA cI 33
  have eS : ((T.setTop g).setVm vm₁).setTop { g with stack := rest } = (T.setVm vm₁).setTop { g with stack := rest } := by
    show ((T.setVm vm₁).setTop g).setTop _ = _
    rw [State.setTop_setTop]
  rw [eS, gz_top]
  simp only [wp_bind', W.mark, W.pushRef, State.topJava?_setTop' _ XF.here.top, Option.some.injEq, exists_eq_left', State.setTop_setTop, State.heap_setTop]
  intro acts
  simp [jvm, XF.here.top]
  exact hrest
end GZS
