def fX1_size (w : Fw) (a0 : Nat) : Option (Int32) := ((gI w a0 1 0).bind fun v1 => some v1)
set_option maxRecDepth 100000 in
set_option maxHeartbeats 4000000 in
theorem mX1_size (l : Launch) (D : va_G) (dA : Nat → ClassId) (A : Nat → Prop) {w : Fw} {a0 : Nat} {res : Int32} (h : fX1_size w a0 = some res) : Met l yX1_size (wz yX1_size cX1_size 1 (some .int)) (rz 0 0) (Pz D dA A w [.ref a0]) (QzI D dA A res w) 0 0 A := by
  refine Met.ofW (cc := cX1_size) (maxL := 1) (ret := (some .int)) (by decide) rfl ?_
  intro p e s m args below meth c s₁ B hml hv
  obtain ⟨rfl, hR, hK⟩ := hv
  have hx := B.exec
  have hb := B.bytes
  have hr := B.returns
  have hts : ∀ w ∈ lw_g, w.before [.ref a0].toArray s = true := fun w hw => atoms_spec (ws := wz yX1_size cX1_size 1 (some .int)) B.pre w (List.mem_cons_of_mem _ hw)
  have hown : s.vm.findClass RX1 = some m.cls := findClass_of_methodNamed B.named
  have hlocks := B.notSynchronized
  have C : Cx p s m [.ref a0].toArray meth c D dA RX1 cX1_size 1 (some .int) := ⟨hx, hb, hr, hml, hown, hts, hK, hlocks⟩
  have hS : va_S A s.heap s.heap [] := va_S.rf
  have hl := lv_entry ([.ref a0]) (n := 1) (Nat.le_of_ble_eq_true rfl)
  rw [lg_entry_eq]
  generalize (lg_sl ([.ref a0]) ++ List.replicate (1 - (lg_sl ([.ref a0])).length) Slot.unset).toArray = ls at hl ⊢
  have hl : lv_has ls 1 [(0, .ref a0)] := hl
  unfold fX1_size at h
  show W p l e (rz 0 0) s m _ below meth c s.heap [] 0 0 _ _
  refine lv_aload_n hx hb dX1_size_0 rfl (lv_at hl 0 rfl) ?_
  obtain ⟨v1, e, h⟩ := bd h
  refine fx_gI hx hb hts hown hK hR fl_X1_24 e dX1_size_1 ?_
  exact fx_iret hx hb hr hlocks (Option.some.inj h) rfl hR hS dX1_size_4
def fX1_add_b63  (w : Fw) (a0 : Nat) (s0 : Nat) (s1 : Int32) : Option (Fw) := ((pF w s0 1 1 (.int s1)).bind fun w1 => ((gI w1 a0 1 0).bind fun v2 => ((pF w1 a0 1 0 (.int (if 60 < (v2 + 1) then 60 else (v2 + 1)))).bind fun w3 => some w3)))
set_option maxRecDepth 100000 in
set_option maxHeartbeats 4000000 in
theorem qX1_add_b63 {p : Program} {l : Launch} {e : Env} {s : State} {m : MethodId} {args : Array Value} {below : List Frame} {meth : Method} {c : Code} {D : va_G} {dA : Nat → ClassId} {A : Nat → Prop} (C : Cx p s m args meth c D dA RX1 cX1_add 5 none) {w : Fw} {res : Fw}   {H : Heap} {locs : List Loc} {ls : Array Slot} {a0 : Nat} {s0 : Nat} {s1 : Int32} (hR : Rp D dA A w H) (hS : va_S A s.heap H locs) (hl : lv_has ls 5 [(0, .ref a0)]) (h : fX1_add_b63 w a0 s0 s1 = some res) : W p l e (rz 1 21) s m args below meth c H locs 0 0 (MQ below (QzV D dA A res) args s 0 0 A) (F0 m 63 ls [.int s1, .ref s0]) := by
  obtain ⟨hx, hb, hr, hml, hown, hts, hK, hlocks⟩ := id C
  unfold fX1_add_b63 at h
  obtain ⟨w1, e, h⟩ := bd h
  refine fx_p hx hb hts hown hK hR hS fp_X1_28 e rfl rfl dX1_add_63 (fun H locs hR hS => ?_)
  refine lv_aload_n hx hb dX1_add_66 rfl (lv_at hl 0 rfl) ?_
  refine lv_aload_n hx hb dX1_add_67 rfl (lv_at hl 0 rfl) ?_
  obtain ⟨v2, e, h⟩ := bd h
  refine fx_gI hx hb hts hown hK hR fl_X1_24 e dX1_add_68 ?_
  refine lv_iconst (v := 1) hx hb dX1_add_71 (by decide) ?_
  refine lv_iadd hx hb dX1_add_72 ?_
  refine lv_bipush (v := 60) hx hb dX1_add_73 (by decide) ?_
  refine va_mmin hx hb (by rw [hml]; exact hl.1.symm) hown (hts _ ml_X1_31) (hts _ ms_min) (hts _ mi_Math) (hts _ mc_min) (Nat.le_of_ble_eq_true rfl) (Nat.le_of_ble_eq_true rfl) (Nat.le_refl _) (Nat.le_refl _) dX1_add_75 ?_
  obtain ⟨w3, e, h⟩ := bd h
  refine fx_p hx hb hts hown hK hR hS fp_X1_24 e rfl rfl dX1_add_78 (fun H locs hR hS => ?_)
  exact fx_vret hx hb hr hlocks (Option.some.inj h) hR hS dX1_add_81
def fX1_add (w : Fw) (a0 : Nat) (x1 : Int32) (x2 : Int32) (x3 : Int32) (x4 : Int32) : Option (Fw) := ((gR w a0 1 2).bind fun r4 => ((gI w a0 1 1).bind fun v5 => ((sI w r4 v5 x1).bind fun w6 => ((gR w6 a0 1 3).bind fun r7 => ((gI w6 a0 1 1).bind fun v8 => ((sI w6 r7 v8 x2).bind fun w9 => ((gR w9 a0 1 4).bind fun r10 => ((gI w9 a0 1 1).bind fun v11 => ((sI w9 r10 v11 x3).bind fun w12 => ((gR w12 a0 1 5).bind fun r13 => ((gI w12 a0 1 1).bind fun v14 => ((sI w12 r13 v14 x4).bind fun w15 => ((gI w15 a0 1 1).bind fun v16 => (if 60 ≤ (v16 + 1) then (fX1_add_b63 w15 a0 a0 0) else ((gI w15 a0 1 1).bind fun v17 => (fX1_add_b63 w15 a0 a0 (v17 + 1)))))))))))))))))
set_option maxRecDepth 100000 in
set_option maxHeartbeats 4000000 in
theorem mX1_add (l : Launch) (D : va_G) (dA : Nat → ClassId) (A : Nat → Prop) {w : Fw} {a0 : Nat} {x1 : Int32} {x2 : Int32} {x3 : Int32} {x4 : Int32} {res : Fw} (h : fX1_add w a0 x1 x2 x3 x4 = some res) : Met l yX1_add (wz yX1_add cX1_add 5 none) (rz 1 21) (Pz D dA A w [.ref a0, .int x1, .int x2, .int x3, .int x4]) (QzV D dA A res) 0 0 A := by
  refine Met.ofW (cc := cX1_add) (maxL := 5) (ret := none) (by decide) rfl ?_
  intro p e s m args below meth c s₁ B hml hv
  obtain ⟨rfl, hR, hK⟩ := hv
  have hx := B.exec
  have hb := B.bytes
  have hr := B.returns
  have hts : ∀ w ∈ lw_g, w.before [.ref a0, .int x1, .int x2, .int x3, .int x4].toArray s = true := fun w hw => atoms_spec (ws := wz yX1_add cX1_add 5 none) B.pre w (List.mem_cons_of_mem _ hw)
  have hown : s.vm.findClass RX1 = some m.cls := findClass_of_methodNamed B.named
  have hlocks := B.notSynchronized
  have C : Cx p s m [.ref a0, .int x1, .int x2, .int x3, .int x4].toArray meth c D dA RX1 cX1_add 5 none := ⟨hx, hb, hr, hml, hown, hts, hK, hlocks⟩
  have hS : va_S A s.heap s.heap [] := va_S.rf
  have hl := lv_entry ([.ref a0, .int x1, .int x2, .int x3, .int x4]) (n := 5) (Nat.le_of_ble_eq_true rfl)
  rw [lg_entry_eq]
  generalize (lg_sl ([.ref a0, .int x1, .int x2, .int x3, .int x4]) ++ List.replicate (5 - (lg_sl ([.ref a0, .int x1, .int x2, .int x3, .int x4])).length) Slot.unset).toArray = ls at hl ⊢
  have hl : lv_has ls 5 [(0, .ref a0), (1, .int x1), (2, .int x2), (3, .int x3), (4, .int x4)] := hl
  unfold fX1_add at h
  show W p l e (rz 1 21) s m _ below meth c s.heap [] 0 0 _ _
  refine lv_aload_n hx hb dX1_add_0 rfl (lv_at hl 0 rfl) ?_
  obtain ⟨r4, e, h⟩ := bd h
  refine fx_gR hx hb hts hown hK hR fl_X1_9 e dX1_add_1 ?_
  refine lv_aload_n hx hb dX1_add_4 rfl (lv_at hl 0 rfl) ?_
  obtain ⟨v5, e, h⟩ := bd h
  refine fx_gI hx hb hts hown hK hR fl_X1_28 e dX1_add_5 ?_
  refine lv_iload_n hx hb dX1_add_8 rfl (lv_at hl 1 rfl) ?_
  obtain ⟨w6, e, h⟩ := bd h
  refine fx_sI hx hb hK hR hS e dX1_add_9 (fun H locs hR hS => ?_)
  refine lv_aload_n hx hb dX1_add_10 rfl (lv_at hl 0 rfl) ?_
  obtain ⟨r7, e, h⟩ := bd h
  refine fx_gR hx hb hts hown hK hR fl_X1_15 e dX1_add_11 ?_
  refine lv_aload_n hx hb dX1_add_14 rfl (lv_at hl 0 rfl) ?_
  obtain ⟨v8, e, h⟩ := bd h
  refine fx_gI hx hb hts hown hK hR fl_X1_28 e dX1_add_15 ?_
  refine lv_iload_n hx hb dX1_add_18 rfl (lv_at hl 2 rfl) ?_
  obtain ⟨w9, e, h⟩ := bd h
  refine fx_sI hx hb hK hR hS e dX1_add_19 (fun H locs hR hS => ?_)
  refine lv_aload_n hx hb dX1_add_20 rfl (lv_at hl 0 rfl) ?_
  obtain ⟨r10, e, h⟩ := bd h
  refine fx_gR hx hb hts hown hK hR fl_X1_18 e dX1_add_21 ?_
  refine lv_aload_n hx hb dX1_add_24 rfl (lv_at hl 0 rfl) ?_
  obtain ⟨v11, e, h⟩ := bd h
  refine fx_gI hx hb hts hown hK hR fl_X1_28 e dX1_add_25 ?_
  refine lv_iload_n hx hb dX1_add_28 rfl (lv_at hl 3 rfl) ?_
  obtain ⟨w12, e, h⟩ := bd h
  refine fx_sI hx hb hK hR hS e dX1_add_29 (fun H locs hR hS => ?_)
  refine lv_aload_n hx hb dX1_add_30 rfl (lv_at hl 0 rfl) ?_
  obtain ⟨r13, e, h⟩ := bd h
  refine fx_gR hx hb hts hown hK hR fl_X1_21 e dX1_add_31 ?_
  refine lv_aload_n hx hb dX1_add_34 rfl (lv_at hl 0 rfl) ?_
  obtain ⟨v14, e, h⟩ := bd h
  refine fx_gI hx hb hts hown hK hR fl_X1_28 e dX1_add_35 ?_
  refine lv_iload hx hb dX1_add_38 (lv_at hl 4 rfl) ?_
  obtain ⟨w15, e, h⟩ := bd h
  refine fx_sI hx hb hK hR hS e dX1_add_40 (fun H locs hR hS => ?_)
  refine lv_aload_n hx hb dX1_add_41 rfl (lv_at hl 0 rfl) ?_
  refine lv_aload_n hx hb dX1_add_42 rfl (lv_at hl 0 rfl) ?_
  obtain ⟨v16, e, h⟩ := bd h
  refine fx_gI hx hb hts hown hK hR fl_X1_28 e dX1_add_43 ?_
  refine lv_iconst (v := 1) hx hb dX1_add_46 (by decide) ?_
  refine lv_iadd hx hb dX1_add_47 ?_
  refine lv_bipush (v := 60) hx hb dX1_add_48 (by decide) ?_
  refine lv_icmp_ge (tgt := 62) hx hb dX1_add_50 (by decide) (fun c => ?_) (fun c => ?_)
  · have h := it c h
    refine lv_iconst (v := 0) hx hb dX1_add_62 (by decide) ?_
    exact qX1_add_b63 C   hR hS (lv_sub hl [0] rfl) h
  · have h := ie c h
    refine lv_aload_n hx hb dX1_add_53 rfl (lv_at hl 0 rfl) ?_
    obtain ⟨v17, e, h⟩ := bd h
    refine fx_gI hx hb hts hown hK hR fl_X1_28 e dX1_add_54 ?_
    refine lv_iconst (v := 1) hx hb dX1_add_57 (by decide) ?_
    refine lv_iadd hx hb dX1_add_58 ?_
    refine lv_goto (tgt := 63) hx hb dX1_add_59 (by decide) ?_
    exact qX1_add_b63 C   hR hS (lv_sub hl [0] rfl) h
def fX1_placeOf_b21 (w : Fw)  (s0 : Int32) : Option (Int32) := some s0
set_option maxRecDepth 100000 in
set_option maxHeartbeats 4000000 in
theorem qX1_placeOf_b21 {p : Program} {l : Launch} {e : Env} {s : State} {m : MethodId} {args : Array Value} {below : List Frame} {meth : Method} {c : Code} {D : va_G} {dA : Nat → ClassId} {A : Nat → Prop} (C : Cx p s m args meth c D dA RX1 cX1_placeOf 3 (some .int)) {w : Fw} {res : Int32}   {H : Heap} {locs : List Loc} {ls : Array Slot} {s0 : Int32} (hR : Rp D dA A w H) (hS : va_S A s.heap H locs) (hl : lv_has ls 3 []) (h : fX1_placeOf_b21 w s0 = some res) : W p l e (rz 0 0) s m args below meth c H locs 0 0 (MQ below (QzI D dA A res w) args s 0 0 A) (F0 m 21 ls [.int s0]) := by
  obtain ⟨hx, hb, hr, hml, hown, hts, hK, hlocks⟩ := id C
  unfold fX1_placeOf_b21 at h
  exact fx_iret hx hb hr hlocks (Option.some.inj h) rfl hR hS dX1_placeOf_21
def fX1_placeOf (w : Fw) (a0 : Nat) (x1 : Int32) : Option (Int32) := ((gI w a0 1 1).bind fun v1 => (if ((v1 - 1) - x1) < 0 then (fX1_placeOf_b21 w (((v1 - 1) - x1) + 60)) else (fX1_placeOf_b21 w ((v1 - 1) - x1))))
set_option maxRecDepth 100000 in
set_option maxHeartbeats 4000000 in
theorem mX1_placeOf (l : Launch) (D : va_G) (dA : Nat → ClassId) (A : Nat → Prop) {w : Fw} {a0 : Nat} {x1 : Int32} {res : Int32} (h : fX1_placeOf w a0 x1 = some res) : Met l yX1_placeOf (wz yX1_placeOf cX1_placeOf 3 (some .int)) (rz 0 0) (Pz D dA A w [.ref a0, .int x1]) (QzI D dA A res w) 0 0 A := by
  refine Met.ofW (cc := cX1_placeOf) (maxL := 3) (ret := (some .int)) (by decide) rfl ?_
  intro p e s m args below meth c s₁ B hml hv
  obtain ⟨rfl, hR, hK⟩ := hv
  have hx := B.exec
  have hb := B.bytes
  have hr := B.returns
  have hts : ∀ w ∈ lw_g, w.before [.ref a0, .int x1].toArray s = true := fun w hw => atoms_spec (ws := wz yX1_placeOf cX1_placeOf 3 (some .int)) B.pre w (List.mem_cons_of_mem _ hw)
  have hown : s.vm.findClass RX1 = some m.cls := findClass_of_methodNamed B.named
  have hlocks := B.notSynchronized
  have C : Cx p s m [.ref a0, .int x1].toArray meth c D dA RX1 cX1_placeOf 3 (some .int) := ⟨hx, hb, hr, hml, hown, hts, hK, hlocks⟩
  have hS : va_S A s.heap s.heap [] := va_S.rf
  have hl := lv_entry ([.ref a0, .int x1]) (n := 3) (Nat.le_of_ble_eq_true rfl)
  rw [lg_entry_eq]
  generalize (lg_sl ([.ref a0, .int x1]) ++ List.replicate (3 - (lg_sl ([.ref a0, .int x1])).length) Slot.unset).toArray = ls at hl ⊢
  have hl : lv_has ls 3 [(0, .ref a0), (1, .int x1)] := hl
  unfold fX1_placeOf at h
  show W p l e (rz 0 0) s m _ below meth c s.heap [] 0 0 _ _
  refine lv_aload_n hx hb dX1_placeOf_0 rfl (lv_at hl 0 rfl) ?_
  obtain ⟨v1, e, h⟩ := bd h
  refine fx_gI hx hb hts hown hK hR fl_X1_28 e dX1_placeOf_1 ?_
  refine lv_iconst (v := 1) hx hb dX1_placeOf_4 (by decide) ?_
  refine lv_isub hx hb dX1_placeOf_5 ?_
  refine lv_iload_n hx hb dX1_placeOf_6 rfl (lv_at hl 1 rfl) ?_
  refine lv_isub hx hb dX1_placeOf_7 ?_
  refine lv_istore_n (lv' := [(2, .int ((v1 - 1) - x1)), (0, .ref a0), (1, .int x1)]) hx hb dX1_placeOf_8 rfl hl (by decide) rfl (fun ls hl => ?_)
  refine lv_iload_n hx hb dX1_placeOf_9 rfl (lv_at hl 0 rfl) ?_
  refine lv_if_lt (tgt := 17) hx hb dX1_placeOf_10 (by decide) (fun c => ?_) (fun c => ?_)
  · have h := it c h
    refine lv_iload_n hx hb dX1_placeOf_17 rfl (lv_at hl 0 rfl) ?_
    refine lv_bipush (v := 60) hx hb dX1_placeOf_18 (by decide) ?_
    refine lv_iadd hx hb dX1_placeOf_20 ?_
    exact qX1_placeOf_b21 C   hR hS (lv_sub hl [] rfl) h
  · have h := ie c h
    refine lv_iload_n hx hb dX1_placeOf_13 rfl (lv_at hl 0 rfl) ?_
    refine lv_goto (tgt := 21) hx hb dX1_placeOf_14 (by decide) ?_
    exact qX1_placeOf_b21 C   hR hS (lv_sub hl [] rfl) h
def fX1_ruleAt (w : Fw) (a0 : Nat) (x1 : Int32) : Option (Int32) := ((gR w a0 1 2).bind fun r1 => ((lI w r1 x1).bind fun v2 => some v2))
set_option maxRecDepth 100000 in
set_option maxHeartbeats 4000000 in
theorem mX1_ruleAt (l : Launch) (D : va_G) (dA : Nat → ClassId) (A : Nat → Prop) {w : Fw} {a0 : Nat} {x1 : Int32} {res : Int32} (h : fX1_ruleAt w a0 x1 = some res) : Met l yX1_ruleAt (wz yX1_ruleAt cX1_ruleAt 2 (some .int)) (rz 0 0) (Pz D dA A w [.ref a0, .int x1]) (QzI D dA A res w) 0 0 A := by
  refine Met.ofW (cc := cX1_ruleAt) (maxL := 2) (ret := (some .int)) (by decide) rfl ?_
  intro p e s m args below meth c s₁ B hml hv
  obtain ⟨rfl, hR, hK⟩ := hv
  have hx := B.exec
  have hb := B.bytes
  have hr := B.returns
  have hts : ∀ w ∈ lw_g, w.before [.ref a0, .int x1].toArray s = true := fun w hw => atoms_spec (ws := wz yX1_ruleAt cX1_ruleAt 2 (some .int)) B.pre w (List.mem_cons_of_mem _ hw)
  have hown : s.vm.findClass RX1 = some m.cls := findClass_of_methodNamed B.named
  have hlocks := B.notSynchronized
  have C : Cx p s m [.ref a0, .int x1].toArray meth c D dA RX1 cX1_ruleAt 2 (some .int) := ⟨hx, hb, hr, hml, hown, hts, hK, hlocks⟩
  have hS : va_S A s.heap s.heap [] := va_S.rf
  have hl := lv_entry ([.ref a0, .int x1]) (n := 2) (Nat.le_of_ble_eq_true rfl)
  rw [lg_entry_eq]
  generalize (lg_sl ([.ref a0, .int x1]) ++ List.replicate (2 - (lg_sl ([.ref a0, .int x1])).length) Slot.unset).toArray = ls at hl ⊢
  have hl : lv_has ls 2 [(0, .ref a0), (1, .int x1)] := hl
  unfold fX1_ruleAt at h
  show W p l e (rz 0 0) s m _ below meth c s.heap [] 0 0 _ _
  refine lv_aload_n hx hb dX1_ruleAt_0 rfl (lv_at hl 0 rfl) ?_
  obtain ⟨r1, e, h⟩ := bd h
  refine fx_gR hx hb hts hown hK hR fl_X1_9 e dX1_ruleAt_1 ?_
  refine lv_iload_n hx hb dX1_ruleAt_4 rfl (lv_at hl 1 rfl) ?_
  obtain ⟨v2, e, h⟩ := bd h
  refine fx_lI hx hb hK hR e dX1_ruleAt_5 ?_
  exact fx_iret hx hb hr hlocks (Option.some.inj h) rfl hR hS dX1_ruleAt_6
def fX1_idAt (w : Fw) (a0 : Nat) (x1 : Int32) : Option (Int32) := ((gR w a0 1 3).bind fun r1 => ((lI w r1 x1).bind fun v2 => some v2))
set_option maxRecDepth 100000 in
set_option maxHeartbeats 4000000 in
theorem mX1_idAt (l : Launch) (D : va_G) (dA : Nat → ClassId) (A : Nat → Prop) {w : Fw} {a0 : Nat} {x1 : Int32} {res : Int32} (h : fX1_idAt w a0 x1 = some res) : Met l yX1_idAt (wz yX1_idAt cX1_idAt 2 (some .int)) (rz 0 0) (Pz D dA A w [.ref a0, .int x1]) (QzI D dA A res w) 0 0 A := by
  refine Met.ofW (cc := cX1_idAt) (maxL := 2) (ret := (some .int)) (by decide) rfl ?_
  intro p e s m args below meth c s₁ B hml hv
  obtain ⟨rfl, hR, hK⟩ := hv
  have hx := B.exec
  have hb := B.bytes
  have hr := B.returns
  have hts : ∀ w ∈ lw_g, w.before [.ref a0, .int x1].toArray s = true := fun w hw => atoms_spec (ws := wz yX1_idAt cX1_idAt 2 (some .int)) B.pre w (List.mem_cons_of_mem _ hw)
  have hown : s.vm.findClass RX1 = some m.cls := findClass_of_methodNamed B.named
  have hlocks := B.notSynchronized
  have C : Cx p s m [.ref a0, .int x1].toArray meth c D dA RX1 cX1_idAt 2 (some .int) := ⟨hx, hb, hr, hml, hown, hts, hK, hlocks⟩
  have hS : va_S A s.heap s.heap [] := va_S.rf
  have hl := lv_entry ([.ref a0, .int x1]) (n := 2) (Nat.le_of_ble_eq_true rfl)
  rw [lg_entry_eq]
  generalize (lg_sl ([.ref a0, .int x1]) ++ List.replicate (2 - (lg_sl ([.ref a0, .int x1])).length) Slot.unset).toArray = ls at hl ⊢
  have hl : lv_has ls 2 [(0, .ref a0), (1, .int x1)] := hl
  unfold fX1_idAt at h
  show W p l e (rz 0 0) s m _ below meth c s.heap [] 0 0 _ _
  refine lv_aload_n hx hb dX1_idAt_0 rfl (lv_at hl 0 rfl) ?_
  obtain ⟨r1, e, h⟩ := bd h
  refine fx_gR hx hb hts hown hK hR fl_X1_15 e dX1_idAt_1 ?_
  refine lv_iload_n hx hb dX1_idAt_4 rfl (lv_at hl 1 rfl) ?_
  obtain ⟨v2, e, h⟩ := bd h
  refine fx_lI hx hb hK hR e dX1_idAt_5 ?_
  exact fx_iret hx hb hr hlocks (Option.some.inj h) rfl hR hS dX1_idAt_6
def fX1_sinceAt (w : Fw) (a0 : Nat) (x1 : Int32) : Option (Int32) := ((gR w a0 1 4).bind fun r1 => ((lI w r1 x1).bind fun v2 => some v2))
set_option maxRecDepth 100000 in
set_option maxHeartbeats 4000000 in
theorem mX1_sinceAt (l : Launch) (D : va_G) (dA : Nat → ClassId) (A : Nat → Prop) {w : Fw} {a0 : Nat} {x1 : Int32} {res : Int32} (h : fX1_sinceAt w a0 x1 = some res) : Met l yX1_sinceAt (wz yX1_sinceAt cX1_sinceAt 2 (some .int)) (rz 0 0) (Pz D dA A w [.ref a0, .int x1]) (QzI D dA A res w) 0 0 A := by
  refine Met.ofW (cc := cX1_sinceAt) (maxL := 2) (ret := (some .int)) (by decide) rfl ?_
  intro p e s m args below meth c s₁ B hml hv
  obtain ⟨rfl, hR, hK⟩ := hv
  have hx := B.exec
  have hb := B.bytes
  have hr := B.returns
  have hts : ∀ w ∈ lw_g, w.before [.ref a0, .int x1].toArray s = true := fun w hw => atoms_spec (ws := wz yX1_sinceAt cX1_sinceAt 2 (some .int)) B.pre w (List.mem_cons_of_mem _ hw)
  have hown : s.vm.findClass RX1 = some m.cls := findClass_of_methodNamed B.named
  have hlocks := B.notSynchronized
  have C : Cx p s m [.ref a0, .int x1].toArray meth c D dA RX1 cX1_sinceAt 2 (some .int) := ⟨hx, hb, hr, hml, hown, hts, hK, hlocks⟩
  have hS : va_S A s.heap s.heap [] := va_S.rf
  have hl := lv_entry ([.ref a0, .int x1]) (n := 2) (Nat.le_of_ble_eq_true rfl)
  rw [lg_entry_eq]
  generalize (lg_sl ([.ref a0, .int x1]) ++ List.replicate (2 - (lg_sl ([.ref a0, .int x1])).length) Slot.unset).toArray = ls at hl ⊢
  have hl : lv_has ls 2 [(0, .ref a0), (1, .int x1)] := hl
  unfold fX1_sinceAt at h
  show W p l e (rz 0 0) s m _ below meth c s.heap [] 0 0 _ _
  refine lv_aload_n hx hb dX1_sinceAt_0 rfl (lv_at hl 0 rfl) ?_
  obtain ⟨r1, e, h⟩ := bd h
  refine fx_gR hx hb hts hown hK hR fl_X1_18 e dX1_sinceAt_1 ?_
  refine lv_iload_n hx hb dX1_sinceAt_4 rfl (lv_at hl 1 rfl) ?_
  obtain ⟨v2, e, h⟩ := bd h
  refine fx_lI hx hb hK hR e dX1_sinceAt_5 ?_
  exact fx_iret hx hb hr hlocks (Option.some.inj h) rfl hR hS dX1_sinceAt_6
def fX1_endAt (w : Fw) (a0 : Nat) (x1 : Int32) : Option (Int32) := ((gR w a0 1 5).bind fun r1 => ((lI w r1 x1).bind fun v2 => some v2))
set_option maxRecDepth 100000 in
set_option maxHeartbeats 4000000 in
theorem mX1_endAt (l : Launch) (D : va_G) (dA : Nat → ClassId) (A : Nat → Prop) {w : Fw} {a0 : Nat} {x1 : Int32} {res : Int32} (h : fX1_endAt w a0 x1 = some res) : Met l yX1_endAt (wz yX1_endAt cX1_endAt 2 (some .int)) (rz 0 0) (Pz D dA A w [.ref a0, .int x1]) (QzI D dA A res w) 0 0 A := by
  refine Met.ofW (cc := cX1_endAt) (maxL := 2) (ret := (some .int)) (by decide) rfl ?_
  intro p e s m args below meth c s₁ B hml hv
  obtain ⟨rfl, hR, hK⟩ := hv
  have hx := B.exec
  have hb := B.bytes
  have hr := B.returns
  have hts : ∀ w ∈ lw_g, w.before [.ref a0, .int x1].toArray s = true := fun w hw => atoms_spec (ws := wz yX1_endAt cX1_endAt 2 (some .int)) B.pre w (List.mem_cons_of_mem _ hw)
  have hown : s.vm.findClass RX1 = some m.cls := findClass_of_methodNamed B.named
  have hlocks := B.notSynchronized
  have C : Cx p s m [.ref a0, .int x1].toArray meth c D dA RX1 cX1_endAt 2 (some .int) := ⟨hx, hb, hr, hml, hown, hts, hK, hlocks⟩
  have hS : va_S A s.heap s.heap [] := va_S.rf
  have hl := lv_entry ([.ref a0, .int x1]) (n := 2) (Nat.le_of_ble_eq_true rfl)
  rw [lg_entry_eq]
  generalize (lg_sl ([.ref a0, .int x1]) ++ List.replicate (2 - (lg_sl ([.ref a0, .int x1])).length) Slot.unset).toArray = ls at hl ⊢
  have hl : lv_has ls 2 [(0, .ref a0), (1, .int x1)] := hl
  unfold fX1_endAt at h
  show W p l e (rz 0 0) s m _ below meth c s.heap [] 0 0 _ _
  refine lv_aload_n hx hb dX1_endAt_0 rfl (lv_at hl 0 rfl) ?_
  obtain ⟨r1, e, h⟩ := bd h
  refine fx_gR hx hb hts hown hK hR fl_X1_21 e dX1_endAt_1 ?_
  refine lv_iload_n hx hb dX1_endAt_4 rfl (lv_at hl 1 rfl) ?_
  obtain ⟨v2, e, h⟩ := bd h
  refine fx_lI hx hb hK hR e dX1_endAt_5 ?_
  exact fx_iret hx hb hr hlocks (Option.some.inj h) rfl hR hS dX1_endAt_6
def fX2_size (w : Fw) (a0 : Nat) : Option (Int32) := ((gI w a0 2 0).bind fun v1 => some v1)
set_option maxRecDepth 100000 in
set_option maxHeartbeats 4000000 in
theorem mX2_size (l : Launch) (D : va_G) (dA : Nat → ClassId) (A : Nat → Prop) {w : Fw} {a0 : Nat} {res : Int32} (h : fX2_size w a0 = some res) : Met l yX2_size (wz yX2_size cX2_size 1 (some .int)) (rz 0 0) (Pz D dA A w [.ref a0]) (QzI D dA A res w) 0 0 A := by
  refine Met.ofW (cc := cX2_size) (maxL := 1) (ret := (some .int)) (by decide) rfl ?_
  intro p e s m args below meth c s₁ B hml hv
  obtain ⟨rfl, hR, hK⟩ := hv
  have hx := B.exec
  have hb := B.bytes
  have hr := B.returns
  have hts : ∀ w ∈ lw_g, w.before [.ref a0].toArray s = true := fun w hw => atoms_spec (ws := wz yX2_size cX2_size 1 (some .int)) B.pre w (List.mem_cons_of_mem _ hw)
  have hown : s.vm.findClass RX2 = some m.cls := findClass_of_methodNamed B.named
  have hlocks := B.notSynchronized
  have C : Cx p s m [.ref a0].toArray meth c D dA RX2 cX2_size 1 (some .int) := ⟨hx, hb, hr, hml, hown, hts, hK, hlocks⟩
  have hS : va_S A s.heap s.heap [] := va_S.rf
  have hl := lv_entry ([.ref a0]) (n := 1) (Nat.le_of_ble_eq_true rfl)
  rw [lg_entry_eq]
  generalize (lg_sl ([.ref a0]) ++ List.replicate (1 - (lg_sl ([.ref a0])).length) Slot.unset).toArray = ls at hl ⊢
  have hl : lv_has ls 1 [(0, .ref a0)] := hl
  unfold fX2_size at h
  show W p l e (rz 0 0) s m _ below meth c s.heap [] 0 0 _ _
  refine lv_aload_n hx hb dX2_size_0 rfl (lv_at hl 0 rfl) ?_
  obtain ⟨v1, e, h⟩ := bd h
  refine fx_gI hx hb hts hown hK hR fl_X2_30 e dX2_size_1 ?_
  exact fx_iret hx hb hr hlocks (Option.some.inj h) rfl hR hS dX2_size_4
def fX2_ruleAt (w : Fw) (a0 : Nat) (x1 : Int32) : Option (Int32) := ((gR w a0 2 1).bind fun r1 => ((lI w r1 x1).bind fun v2 => some v2))
set_option maxRecDepth 100000 in
set_option maxHeartbeats 4000000 in
theorem mX2_ruleAt (l : Launch) (D : va_G) (dA : Nat → ClassId) (A : Nat → Prop) {w : Fw} {a0 : Nat} {x1 : Int32} {res : Int32} (h : fX2_ruleAt w a0 x1 = some res) : Met l yX2_ruleAt (wz yX2_ruleAt cX2_ruleAt 2 (some .int)) (rz 0 0) (Pz D dA A w [.ref a0, .int x1]) (QzI D dA A res w) 0 0 A := by
  refine Met.ofW (cc := cX2_ruleAt) (maxL := 2) (ret := (some .int)) (by decide) rfl ?_
  intro p e s m args below meth c s₁ B hml hv
  obtain ⟨rfl, hR, hK⟩ := hv
  have hx := B.exec
  have hb := B.bytes
  have hr := B.returns
  have hts : ∀ w ∈ lw_g, w.before [.ref a0, .int x1].toArray s = true := fun w hw => atoms_spec (ws := wz yX2_ruleAt cX2_ruleAt 2 (some .int)) B.pre w (List.mem_cons_of_mem _ hw)
  have hown : s.vm.findClass RX2 = some m.cls := findClass_of_methodNamed B.named
  have hlocks := B.notSynchronized
  have C : Cx p s m [.ref a0, .int x1].toArray meth c D dA RX2 cX2_ruleAt 2 (some .int) := ⟨hx, hb, hr, hml, hown, hts, hK, hlocks⟩
  have hS : va_S A s.heap s.heap [] := va_S.rf
  have hl := lv_entry ([.ref a0, .int x1]) (n := 2) (Nat.le_of_ble_eq_true rfl)
  rw [lg_entry_eq]
  generalize (lg_sl ([.ref a0, .int x1]) ++ List.replicate (2 - (lg_sl ([.ref a0, .int x1])).length) Slot.unset).toArray = ls at hl ⊢
  have hl : lv_has ls 2 [(0, .ref a0), (1, .int x1)] := hl
  unfold fX2_ruleAt at h
  show W p l e (rz 0 0) s m _ below meth c s.heap [] 0 0 _ _
  refine lv_aload_n hx hb dX2_ruleAt_0 rfl (lv_at hl 0 rfl) ?_
  obtain ⟨r1, e, h⟩ := bd h
  refine fx_gR hx hb hts hown hK hR fl_X2_9 e dX2_ruleAt_1 ?_
  refine lv_iload_n hx hb dX2_ruleAt_4 rfl (lv_at hl 1 rfl) ?_
  obtain ⟨v2, e, h⟩ := bd h
  refine fx_lI hx hb hK hR e dX2_ruleAt_5 ?_
  exact fx_iret hx hb hr hlocks (Option.some.inj h) rfl hR hS dX2_ruleAt_6
def fX2_lineAt (w : Fw) (a0 : Nat) (x1 : Int32) : Option (Int32) := ((gR w a0 2 2).bind fun r1 => ((lI w r1 x1).bind fun v2 => some v2))
set_option maxRecDepth 100000 in
set_option maxHeartbeats 4000000 in
theorem mX2_lineAt (l : Launch) (D : va_G) (dA : Nat → ClassId) (A : Nat → Prop) {w : Fw} {a0 : Nat} {x1 : Int32} {res : Int32} (h : fX2_lineAt w a0 x1 = some res) : Met l yX2_lineAt (wz yX2_lineAt cX2_lineAt 2 (some .int)) (rz 0 0) (Pz D dA A w [.ref a0, .int x1]) (QzI D dA A res w) 0 0 A := by
  refine Met.ofW (cc := cX2_lineAt) (maxL := 2) (ret := (some .int)) (by decide) rfl ?_
  intro p e s m args below meth c s₁ B hml hv
  obtain ⟨rfl, hR, hK⟩ := hv
  have hx := B.exec
  have hb := B.bytes
  have hr := B.returns
  have hts : ∀ w ∈ lw_g, w.before [.ref a0, .int x1].toArray s = true := fun w hw => atoms_spec (ws := wz yX2_lineAt cX2_lineAt 2 (some .int)) B.pre w (List.mem_cons_of_mem _ hw)
  have hown : s.vm.findClass RX2 = some m.cls := findClass_of_methodNamed B.named
  have hlocks := B.notSynchronized
  have C : Cx p s m [.ref a0, .int x1].toArray meth c D dA RX2 cX2_lineAt 2 (some .int) := ⟨hx, hb, hr, hml, hown, hts, hK, hlocks⟩
  have hS : va_S A s.heap s.heap [] := va_S.rf
  have hl := lv_entry ([.ref a0, .int x1]) (n := 2) (Nat.le_of_ble_eq_true rfl)
  rw [lg_entry_eq]
  generalize (lg_sl ([.ref a0, .int x1]) ++ List.replicate (2 - (lg_sl ([.ref a0, .int x1])).length) Slot.unset).toArray = ls at hl ⊢
  have hl : lv_has ls 2 [(0, .ref a0), (1, .int x1)] := hl
  unfold fX2_lineAt at h
  show W p l e (rz 0 0) s m _ below meth c s.heap [] 0 0 _ _
  refine lv_aload_n hx hb dX2_lineAt_0 rfl (lv_at hl 0 rfl) ?_
  obtain ⟨r1, e, h⟩ := bd h
  refine fx_gR hx hb hts hown hK hR fl_X2_15 e dX2_lineAt_1 ?_
  refine lv_iload_n hx hb dX2_lineAt_4 rfl (lv_at hl 1 rfl) ?_
  obtain ⟨v2, e, h⟩ := bd h
  refine fx_lI hx hb hK hR e dX2_lineAt_5 ?_
  exact fx_iret hx hb hr hlocks (Option.some.inj h) rfl hR hS dX2_lineAt_6
def fX2_idAt (w : Fw) (a0 : Nat) (x1 : Int32) : Option (Int32) := ((gR w a0 2 3).bind fun r1 => ((lI w r1 x1).bind fun v2 => some v2))
set_option maxRecDepth 100000 in
set_option maxHeartbeats 4000000 in
theorem mX2_idAt (l : Launch) (D : va_G) (dA : Nat → ClassId) (A : Nat → Prop) {w : Fw} {a0 : Nat} {x1 : Int32} {res : Int32} (h : fX2_idAt w a0 x1 = some res) : Met l yX2_idAt (wz yX2_idAt cX2_idAt 2 (some .int)) (rz 0 0) (Pz D dA A w [.ref a0, .int x1]) (QzI D dA A res w) 0 0 A := by
  refine Met.ofW (cc := cX2_idAt) (maxL := 2) (ret := (some .int)) (by decide) rfl ?_
  intro p e s m args below meth c s₁ B hml hv
  obtain ⟨rfl, hR, hK⟩ := hv
  have hx := B.exec
  have hb := B.bytes
  have hr := B.returns
  have hts : ∀ w ∈ lw_g, w.before [.ref a0, .int x1].toArray s = true := fun w hw => atoms_spec (ws := wz yX2_idAt cX2_idAt 2 (some .int)) B.pre w (List.mem_cons_of_mem _ hw)
  have hown : s.vm.findClass RX2 = some m.cls := findClass_of_methodNamed B.named
  have hlocks := B.notSynchronized
  have C : Cx p s m [.ref a0, .int x1].toArray meth c D dA RX2 cX2_idAt 2 (some .int) := ⟨hx, hb, hr, hml, hown, hts, hK, hlocks⟩
  have hS : va_S A s.heap s.heap [] := va_S.rf
  have hl := lv_entry ([.ref a0, .int x1]) (n := 2) (Nat.le_of_ble_eq_true rfl)
  rw [lg_entry_eq]
  generalize (lg_sl ([.ref a0, .int x1]) ++ List.replicate (2 - (lg_sl ([.ref a0, .int x1])).length) Slot.unset).toArray = ls at hl ⊢
  have hl : lv_has ls 2 [(0, .ref a0), (1, .int x1)] := hl
  unfold fX2_idAt at h
  show W p l e (rz 0 0) s m _ below meth c s.heap [] 0 0 _ _
  refine lv_aload_n hx hb dX2_idAt_0 rfl (lv_at hl 0 rfl) ?_
  obtain ⟨r1, e, h⟩ := bd h
  refine fx_gR hx hb hts hown hK hR fl_X2_18 e dX2_idAt_1 ?_
  refine lv_iload_n hx hb dX2_idAt_4 rfl (lv_at hl 1 rfl) ?_
  obtain ⟨v2, e, h⟩ := bd h
  refine fx_lI hx hb hK hR e dX2_idAt_5 ?_
  exact fx_iret hx hb hr hlocks (Option.some.inj h) rfl hR hS dX2_idAt_6
def fX2_sinceAt (w : Fw) (a0 : Nat) (x1 : Int32) : Option (Int32) := ((gR w a0 2 4).bind fun r1 => ((lI w r1 x1).bind fun v2 => some v2))
set_option maxRecDepth 100000 in
set_option maxHeartbeats 4000000 in
theorem mX2_sinceAt (l : Launch) (D : va_G) (dA : Nat → ClassId) (A : Nat → Prop) {w : Fw} {a0 : Nat} {x1 : Int32} {res : Int32} (h : fX2_sinceAt w a0 x1 = some res) : Met l yX2_sinceAt (wz yX2_sinceAt cX2_sinceAt 2 (some .int)) (rz 0 0) (Pz D dA A w [.ref a0, .int x1]) (QzI D dA A res w) 0 0 A := by
  refine Met.ofW (cc := cX2_sinceAt) (maxL := 2) (ret := (some .int)) (by decide) rfl ?_
  intro p e s m args below meth c s₁ B hml hv
  obtain ⟨rfl, hR, hK⟩ := hv
  have hx := B.exec
  have hb := B.bytes
  have hr := B.returns
  have hts : ∀ w ∈ lw_g, w.before [.ref a0, .int x1].toArray s = true := fun w hw => atoms_spec (ws := wz yX2_sinceAt cX2_sinceAt 2 (some .int)) B.pre w (List.mem_cons_of_mem _ hw)
  have hown : s.vm.findClass RX2 = some m.cls := findClass_of_methodNamed B.named
  have hlocks := B.notSynchronized
  have C : Cx p s m [.ref a0, .int x1].toArray meth c D dA RX2 cX2_sinceAt 2 (some .int) := ⟨hx, hb, hr, hml, hown, hts, hK, hlocks⟩
  have hS : va_S A s.heap s.heap [] := va_S.rf
  have hl := lv_entry ([.ref a0, .int x1]) (n := 2) (Nat.le_of_ble_eq_true rfl)
  rw [lg_entry_eq]
  generalize (lg_sl ([.ref a0, .int x1]) ++ List.replicate (2 - (lg_sl ([.ref a0, .int x1])).length) Slot.unset).toArray = ls at hl ⊢
  have hl : lv_has ls 2 [(0, .ref a0), (1, .int x1)] := hl
  unfold fX2_sinceAt at h
  show W p l e (rz 0 0) s m _ below meth c s.heap [] 0 0 _ _
  refine lv_aload_n hx hb dX2_sinceAt_0 rfl (lv_at hl 0 rfl) ?_
  obtain ⟨r1, e, h⟩ := bd h
  refine fx_gR hx hb hts hown hK hR fl_X2_21 e dX2_sinceAt_1 ?_
  refine lv_iload_n hx hb dX2_sinceAt_4 rfl (lv_at hl 1 rfl) ?_
  obtain ⟨v2, e, h⟩ := bd h
  refine fx_lI hx hb hK hR e dX2_sinceAt_5 ?_
  exact fx_iret hx hb hr hlocks (Option.some.inj h) rfl hR hS dX2_sinceAt_6
def fX2_isSilenced_b15 (w : Fw)  (s0 : Int32) : Option (Int32) := zb s0
set_option maxRecDepth 100000 in
set_option maxHeartbeats 4000000 in
theorem qX2_isSilenced_b15 {p : Program} {l : Launch} {e : Env} {s : State} {m : MethodId} {args : Array Value} {below : List Frame} {meth : Method} {c : Code} {D : va_G} {dA : Nat → ClassId} {A : Nat → Prop} (C : Cx p s m args meth c D dA RX2 cX2_isSilenced 3 (some .boolean)) {w : Fw} {res : Int32}   {H : Heap} {locs : List Loc} {ls : Array Slot} {s0 : Int32} (hR : Rp D dA A w H) (hS : va_S A s.heap H locs) (hl : lv_has ls 3 []) (h : fX2_isSilenced_b15 w s0 = some res) : W p l e (rz 0 0) s m args below meth c H locs 0 0 (MQ below (QzI D dA A res w) args s 0 0 A) (F0 m 15 ls [.int s0]) := by
  obtain ⟨hx, hb, hr, hml, hown, hts, hK, hlocks⟩ := id C
  unfold fX2_isSilenced_b15 at h
  exact fx_zret hx hb hr hlocks h rfl hR hS dX2_isSilenced_15
def fX2_isSilenced (w : Fw) (a0 : Nat) (x1 : Int32) (x2 : Int32) : Option (Int32) := ((gR w a0 2 5).bind fun r1 => ((lI w r1 x1).bind fun v2 => (if v2 ≤ x2 then (fX2_isSilenced_b15 w 0) else (fX2_isSilenced_b15 w 1))))
set_option maxRecDepth 100000 in
set_option maxHeartbeats 4000000 in
theorem mX2_isSilenced (l : Launch) (D : va_G) (dA : Nat → ClassId) (A : Nat → Prop) {w : Fw} {a0 : Nat} {x1 : Int32} {x2 : Int32} {res : Int32} (h : fX2_isSilenced w a0 x1 x2 = some res) : Met l yX2_isSilenced (wz yX2_isSilenced cX2_isSilenced 3 (some .boolean)) (rz 0 0) (Pz D dA A w [.ref a0, .int x1, .int x2]) (QzI D dA A res w) 0 0 A := by
  refine Met.ofW (cc := cX2_isSilenced) (maxL := 3) (ret := (some .boolean)) (by decide) rfl ?_
  intro p e s m args below meth c s₁ B hml hv
  obtain ⟨rfl, hR, hK⟩ := hv
  have hx := B.exec
  have hb := B.bytes
  have hr := B.returns
  have hts : ∀ w ∈ lw_g, w.before [.ref a0, .int x1, .int x2].toArray s = true := fun w hw => atoms_spec (ws := wz yX2_isSilenced cX2_isSilenced 3 (some .boolean)) B.pre w (List.mem_cons_of_mem _ hw)
  have hown : s.vm.findClass RX2 = some m.cls := findClass_of_methodNamed B.named
  have hlocks := B.notSynchronized
  have C : Cx p s m [.ref a0, .int x1, .int x2].toArray meth c D dA RX2 cX2_isSilenced 3 (some .boolean) := ⟨hx, hb, hr, hml, hown, hts, hK, hlocks⟩
  have hS : va_S A s.heap s.heap [] := va_S.rf
  have hl := lv_entry ([.ref a0, .int x1, .int x2]) (n := 3) (Nat.le_of_ble_eq_true rfl)
  rw [lg_entry_eq]
  generalize (lg_sl ([.ref a0, .int x1, .int x2]) ++ List.replicate (3 - (lg_sl ([.ref a0, .int x1, .int x2])).length) Slot.unset).toArray = ls at hl ⊢
  have hl : lv_has ls 3 [(0, .ref a0), (1, .int x1), (2, .int x2)] := hl
  unfold fX2_isSilenced at h
  show W p l e (rz 0 0) s m _ below meth c s.heap [] 0 0 _ _
  refine lv_aload_n hx hb dX2_isSilenced_0 rfl (lv_at hl 0 rfl) ?_
  obtain ⟨r1, e, h⟩ := bd h
  refine fx_gR hx hb hts hown hK hR fl_X2_24 e dX2_isSilenced_1 ?_
  refine lv_iload_n hx hb dX2_isSilenced_4 rfl (lv_at hl 1 rfl) ?_
  obtain ⟨v2, e, h⟩ := bd h
  refine fx_lI hx hb hK hR e dX2_isSilenced_5 ?_
  refine lv_iload_n hx hb dX2_isSilenced_6 rfl (lv_at hl 2 rfl) ?_
  refine lv_icmp_le (tgt := 14) hx hb dX2_isSilenced_7 (by decide) (fun c => ?_) (fun c => ?_)
  · have h := it c h
    refine lv_iconst (v := 0) hx hb dX2_isSilenced_14 (by decide) ?_
    exact qX2_isSilenced_b15 C   hR hS (lv_sub hl [] rfl) h
  · have h := ie c h
    refine lv_iconst (v := 1) hx hb dX2_isSilenced_10 (by decide) ?_
    refine lv_goto (tgt := 15) hx hb dX2_isSilenced_11 (by decide) ?_
    exact qX2_isSilenced_b15 C   hR hS (lv_sub hl [] rfl) h
def fX2_daysLeft_b21 (w : Fw)  (s0 : Int32) : Option (Int32) := some s0
set_option maxRecDepth 100000 in
set_option maxHeartbeats 4000000 in
theorem qX2_daysLeft_b21 {p : Program} {l : Launch} {e : Env} {s : State} {m : MethodId} {args : Array Value} {below : List Frame} {meth : Method} {c : Code} {D : va_G} {dA : Nat → ClassId} {A : Nat → Prop} (C : Cx p s m args meth c D dA RX2 cX2_daysLeft 3 (some .int)) {w : Fw} {res : Int32}   {H : Heap} {locs : List Loc} {ls : Array Slot} {s0 : Int32} (hR : Rp D dA A w H) (hS : va_S A s.heap H locs) (hl : lv_has ls 3 []) (h : fX2_daysLeft_b21 w s0 = some res) : W p l e (rz 1 22) s m args below meth c H locs 0 0 (MQ below (QzI D dA A res w) args s 0 0 A) (F0 m 21 ls [.int s0]) := by
  obtain ⟨hx, hb, hr, hml, hown, hts, hK, hlocks⟩ := id C
  unfold fX2_daysLeft_b21 at h
  exact fx_iret hx hb hr hlocks (Option.some.inj h) rfl hR hS dX2_daysLeft_21
def fX2_daysLeft (w : Fw) (a0 : Nat) (x1 : Int32) (x2 : Int32) : Option (Int32) := ((isO w a0 2).bind fun _ => ((fX2_isSilenced w a0 x1 x2).bind fun v1 => (if v1 = 0 then (fX2_daysLeft_b21 w 0) else ((gR w a0 2 5).bind fun r2 => ((lI w r2 x1).bind fun v3 => (fX2_daysLeft_b21 w (v3 - x2)))))))
set_option maxRecDepth 100000 in
set_option maxHeartbeats 4000000 in
theorem mX2_daysLeft (l : Launch) (D : va_G) (dA : Nat → ClassId) (A : Nat → Prop) {w : Fw} {a0 : Nat} {x1 : Int32} {x2 : Int32} {res : Int32} (h : fX2_daysLeft w a0 x1 x2 = some res) : Met l yX2_daysLeft (wz yX2_daysLeft cX2_daysLeft 3 (some .int)) (rz 1 22) (Pz D dA A w [.ref a0, .int x1, .int x2]) (QzI D dA A res w) 0 0 A := by
  refine Met.ofW (cc := cX2_daysLeft) (maxL := 3) (ret := (some .int)) (by decide) rfl ?_
  intro p e s m args below meth c s₁ B hml hv
  obtain ⟨rfl, hR, hK⟩ := hv
  have hx := B.exec
  have hb := B.bytes
  have hr := B.returns
  have hts : ∀ w ∈ lw_g, w.before [.ref a0, .int x1, .int x2].toArray s = true := fun w hw => atoms_spec (ws := wz yX2_daysLeft cX2_daysLeft 3 (some .int)) B.pre w (List.mem_cons_of_mem _ hw)
  have hown : s.vm.findClass RX2 = some m.cls := findClass_of_methodNamed B.named
  have hlocks := B.notSynchronized
  have C : Cx p s m [.ref a0, .int x1, .int x2].toArray meth c D dA RX2 cX2_daysLeft 3 (some .int) := ⟨hx, hb, hr, hml, hown, hts, hK, hlocks⟩
  have hS : va_S A s.heap s.heap [] := va_S.rf
  have hl := lv_entry ([.ref a0, .int x1, .int x2]) (n := 3) (Nat.le_of_ble_eq_true rfl)
  rw [lg_entry_eq]
  generalize (lg_sl ([.ref a0, .int x1, .int x2]) ++ List.replicate (3 - (lg_sl ([.ref a0, .int x1, .int x2])).length) Slot.unset).toArray = ls at hl ⊢
  have hl : lv_has ls 3 [(0, .ref a0), (1, .int x1), (2, .int x2)] := hl
  unfold fX2_daysLeft at h
  show W p l e (rz 1 22) s m _ below meth c s.heap [] 0 0 _ _
  refine lv_aload_n hx hb dX2_daysLeft_0 rfl (lv_at hl 0 rfl) ?_
  refine lv_iload_n hx hb dX2_daysLeft_1 rfl (lv_at hl 1 rfl) ?_
  refine lv_iload_n hx hb dX2_daysLeft_2 rfl (lv_at hl 2 rfl) ?_
  obtain ⟨_, eO, h⟩ := bd h
  obtain ⟨v1, e, h⟩ := bd h
  refine fx_vI (As := [.int x1, .int x2]) (rest := []) hx hb hml hts hown hK hR hS eO (mX2_isSilenced l D dA A e) my_X2_isSilenced mv_X2_isSilenced rfl ml_X2_34 rfl hl.1 rfl (Nat.le_of_ble_eq_true rfl) dX2_daysLeft_3 ⟨Nat.le_of_ble_eq_true rfl, Nat.le_of_ble_eq_true rfl⟩ ⟨Nat.le_refl _, Nat.le_refl _⟩ (fun H locs hR hS => ?_)
  refine lv_if_eq (tgt := 20) hx hb dX2_daysLeft_6 (by decide) (fun c => ?_) (fun c => ?_)
  · have h := it c h
    refine lv_iconst (v := 0) hx hb dX2_daysLeft_20 (by decide) ?_
    exact qX2_daysLeft_b21 C   hR hS (lv_sub hl [] rfl) h
  · have h := ie c h
    refine lv_aload_n hx hb dX2_daysLeft_9 rfl (lv_at hl 0 rfl) ?_
    obtain ⟨r2, e, h⟩ := bd h
    refine fx_gR hx hb hts hown hK hR fl_X2_24 e dX2_daysLeft_10 ?_
    refine lv_iload_n hx hb dX2_daysLeft_13 rfl (lv_at hl 1 rfl) ?_
    obtain ⟨v3, e, h⟩ := bd h
    refine fx_lI hx hb hK hR e dX2_daysLeft_14 ?_
    refine lv_iload_n hx hb dX2_daysLeft_15 rfl (lv_at hl 2 rfl) ?_
    refine lv_isub hx hb dX2_daysLeft_16 ?_
    refine lv_goto (tgt := 21) hx hb dX2_daysLeft_17 (by decide) ?_
    exact qX2_daysLeft_b21 C   hR hS (lv_sub hl [] rfl) h
def fX2_reasonAt_b19 (w : Fw)  (s0 : Int32) : Option (Int32) := some s0
set_option maxRecDepth 100000 in
set_option maxHeartbeats 4000000 in
theorem qX2_reasonAt_b19 {p : Program} {l : Launch} {e : Env} {s : State} {m : MethodId} {args : Array Value} {below : List Frame} {meth : Method} {c : Code} {D : va_G} {dA : Nat → ClassId} {A : Nat → Prop} (C : Cx p s m args meth c D dA RX2 cX2_reasonAt 3 (some .int)) {w : Fw} {res : Int32}   {H : Heap} {locs : List Loc} {ls : Array Slot} {s0 : Int32} (hR : Rp D dA A w H) (hS : va_S A s.heap H locs) (hl : lv_has ls 3 []) (h : fX2_reasonAt_b19 w s0 = some res) : W p l e (rz 1 22) s m args below meth c H locs 0 0 (MQ below (QzI D dA A res w) args s 0 0 A) (F0 m 19 ls [.int s0]) := by
  obtain ⟨hx, hb, hr, hml, hown, hts, hK, hlocks⟩ := id C
  unfold fX2_reasonAt_b19 at h
  exact fx_iret hx hb hr hlocks (Option.some.inj h) rfl hR hS dX2_reasonAt_19
def fX2_reasonAt (w : Fw) (a0 : Nat) (x1 : Int32) (x2 : Int32) : Option (Int32) := ((isO w a0 2).bind fun _ => ((fX2_isSilenced w a0 x1 x2).bind fun v1 => (if v1 = 0 then (fX2_reasonAt_b19 w (-1)) else ((gR w a0 2 6).bind fun r2 => ((lI w r2 x1).bind fun v3 => (fX2_reasonAt_b19 w v3))))))
set_option maxRecDepth 100000 in
set_option maxHeartbeats 4000000 in
theorem mX2_reasonAt (l : Launch) (D : va_G) (dA : Nat → ClassId) (A : Nat → Prop) {w : Fw} {a0 : Nat} {x1 : Int32} {x2 : Int32} {res : Int32} (h : fX2_reasonAt w a0 x1 x2 = some res) : Met l yX2_reasonAt (wz yX2_reasonAt cX2_reasonAt 3 (some .int)) (rz 1 22) (Pz D dA A w [.ref a0, .int x1, .int x2]) (QzI D dA A res w) 0 0 A := by
  refine Met.ofW (cc := cX2_reasonAt) (maxL := 3) (ret := (some .int)) (by decide) rfl ?_
  intro p e s m args below meth c s₁ B hml hv
  obtain ⟨rfl, hR, hK⟩ := hv
  have hx := B.exec
  have hb := B.bytes
  have hr := B.returns
  have hts : ∀ w ∈ lw_g, w.before [.ref a0, .int x1, .int x2].toArray s = true := fun w hw => atoms_spec (ws := wz yX2_reasonAt cX2_reasonAt 3 (some .int)) B.pre w (List.mem_cons_of_mem _ hw)
  have hown : s.vm.findClass RX2 = some m.cls := findClass_of_methodNamed B.named
  have hlocks := B.notSynchronized
  have C : Cx p s m [.ref a0, .int x1, .int x2].toArray meth c D dA RX2 cX2_reasonAt 3 (some .int) := ⟨hx, hb, hr, hml, hown, hts, hK, hlocks⟩
  have hS : va_S A s.heap s.heap [] := va_S.rf
  have hl := lv_entry ([.ref a0, .int x1, .int x2]) (n := 3) (Nat.le_of_ble_eq_true rfl)
  rw [lg_entry_eq]
  generalize (lg_sl ([.ref a0, .int x1, .int x2]) ++ List.replicate (3 - (lg_sl ([.ref a0, .int x1, .int x2])).length) Slot.unset).toArray = ls at hl ⊢
  have hl : lv_has ls 3 [(0, .ref a0), (1, .int x1), (2, .int x2)] := hl
  unfold fX2_reasonAt at h
  show W p l e (rz 1 22) s m _ below meth c s.heap [] 0 0 _ _
  refine lv_aload_n hx hb dX2_reasonAt_0 rfl (lv_at hl 0 rfl) ?_
  refine lv_iload_n hx hb dX2_reasonAt_1 rfl (lv_at hl 1 rfl) ?_
  refine lv_iload_n hx hb dX2_reasonAt_2 rfl (lv_at hl 2 rfl) ?_
  obtain ⟨_, eO, h⟩ := bd h
  obtain ⟨v1, e, h⟩ := bd h
  refine fx_vI (As := [.int x1, .int x2]) (rest := []) hx hb hml hts hown hK hR hS eO (mX2_isSilenced l D dA A e) my_X2_isSilenced mv_X2_isSilenced rfl ml_X2_34 rfl hl.1 rfl (Nat.le_of_ble_eq_true rfl) dX2_reasonAt_3 ⟨Nat.le_of_ble_eq_true rfl, Nat.le_of_ble_eq_true rfl⟩ ⟨Nat.le_refl _, Nat.le_refl _⟩ (fun H locs hR hS => ?_)
  refine lv_if_eq (tgt := 18) hx hb dX2_reasonAt_6 (by decide) (fun c => ?_) (fun c => ?_)
  · have h := it c h
    refine lv_iconst (v := (-1)) hx hb dX2_reasonAt_18 (by decide) ?_
    exact qX2_reasonAt_b19 C   hR hS (lv_sub hl [] rfl) h
  · have h := ie c h
    refine lv_aload_n hx hb dX2_reasonAt_9 rfl (lv_at hl 0 rfl) ?_
    obtain ⟨r2, e, h⟩ := bd h
    refine fx_gR hx hb hts hown hK hR fl_X2_27 e dX2_reasonAt_10 ?_
    refine lv_iload_n hx hb dX2_reasonAt_13 rfl (lv_at hl 1 rfl) ?_
    obtain ⟨v3, e, h⟩ := bd h
    refine fx_lI hx hb hK hR e dX2_reasonAt_14 ?_
    refine lv_goto (tgt := 19) hx hb dX2_reasonAt_15 (by decide) ?_
    exact qX2_reasonAt_b19 C   hR hS (lv_sub hl [] rfl) h
def fX2_hush (w : Fw) (a0 : Nat) (x1 : Int32) (x2 : Int32) (x3 : Int32) : Option (Fw) := ((gR w a0 2 5).bind fun r1 => ((sI w r1 x1 x2).bind fun w2 => ((gR w2 a0 2 6).bind fun r3 => ((sI w2 r3 x1 x3).bind fun w4 => some w4))))
set_option maxRecDepth 100000 in
set_option maxHeartbeats 4000000 in
theorem mX2_hush (l : Launch) (D : va_G) (dA : Nat → ClassId) (A : Nat → Prop) {w : Fw} {a0 : Nat} {x1 : Int32} {x2 : Int32} {x3 : Int32} {res : Fw} (h : fX2_hush w a0 x1 x2 x3 = some res) : Met l yX2_hush (wz yX2_hush cX2_hush 4 none) (rz 0 0) (Pz D dA A w [.ref a0, .int x1, .int x2, .int x3]) (QzV D dA A res) 0 0 A := by
  refine Met.ofW (cc := cX2_hush) (maxL := 4) (ret := none) (by decide) rfl ?_
  intro p e s m args below meth c s₁ B hml hv
  obtain ⟨rfl, hR, hK⟩ := hv
  have hx := B.exec
  have hb := B.bytes
  have hr := B.returns
  have hts : ∀ w ∈ lw_g, w.before [.ref a0, .int x1, .int x2, .int x3].toArray s = true := fun w hw => atoms_spec (ws := wz yX2_hush cX2_hush 4 none) B.pre w (List.mem_cons_of_mem _ hw)
  have hown : s.vm.findClass RX2 = some m.cls := findClass_of_methodNamed B.named
  have hlocks := B.notSynchronized
  have C : Cx p s m [.ref a0, .int x1, .int x2, .int x3].toArray meth c D dA RX2 cX2_hush 4 none := ⟨hx, hb, hr, hml, hown, hts, hK, hlocks⟩
  have hS : va_S A s.heap s.heap [] := va_S.rf
  have hl := lv_entry ([.ref a0, .int x1, .int x2, .int x3]) (n := 4) (Nat.le_of_ble_eq_true rfl)
  rw [lg_entry_eq]
  generalize (lg_sl ([.ref a0, .int x1, .int x2, .int x3]) ++ List.replicate (4 - (lg_sl ([.ref a0, .int x1, .int x2, .int x3])).length) Slot.unset).toArray = ls at hl ⊢
  have hl : lv_has ls 4 [(0, .ref a0), (1, .int x1), (2, .int x2), (3, .int x3)] := hl
  unfold fX2_hush at h
  show W p l e (rz 0 0) s m _ below meth c s.heap [] 0 0 _ _
  refine lv_aload_n hx hb dX2_hush_0 rfl (lv_at hl 0 rfl) ?_
  obtain ⟨r1, e, h⟩ := bd h
  refine fx_gR hx hb hts hown hK hR fl_X2_24 e dX2_hush_1 ?_
  refine lv_iload_n hx hb dX2_hush_4 rfl (lv_at hl 1 rfl) ?_
  refine lv_iload_n hx hb dX2_hush_5 rfl (lv_at hl 2 rfl) ?_
  obtain ⟨w2, e, h⟩ := bd h
  refine fx_sI hx hb hK hR hS e dX2_hush_6 (fun H locs hR hS => ?_)
  refine lv_aload_n hx hb dX2_hush_7 rfl (lv_at hl 0 rfl) ?_
  obtain ⟨r3, e, h⟩ := bd h
  refine fx_gR hx hb hts hown hK hR fl_X2_27 e dX2_hush_8 ?_
  refine lv_iload_n hx hb dX2_hush_11 rfl (lv_at hl 1 rfl) ?_
  refine lv_iload_n hx hb dX2_hush_12 rfl (lv_at hl 3 rfl) ?_
  obtain ⟨w4, e, h⟩ := bd h
  refine fx_sI hx hb hK hR hS e dX2_hush_13 (fun H locs hR hS => ?_)
  exact fx_vret hx hb hr hlocks (Option.some.inj h) hR hS dX2_hush_14
def fX2_unhush (w : Fw) (a0 : Nat) (x1 : Int32) : Option (Fw) := ((gR w a0 2 5).bind fun r1 => ((sI w r1 x1 0).bind fun w2 => some w2))
set_option maxRecDepth 100000 in
set_option maxHeartbeats 4000000 in
theorem mX2_unhush (l : Launch) (D : va_G) (dA : Nat → ClassId) (A : Nat → Prop) {w : Fw} {a0 : Nat} {x1 : Int32} {res : Fw} (h : fX2_unhush w a0 x1 = some res) : Met l yX2_unhush (wz yX2_unhush cX2_unhush 2 none) (rz 0 0) (Pz D dA A w [.ref a0, .int x1]) (QzV D dA A res) 0 0 A := by
  refine Met.ofW (cc := cX2_unhush) (maxL := 2) (ret := none) (by decide) rfl ?_
  intro p e s m args below meth c s₁ B hml hv
  obtain ⟨rfl, hR, hK⟩ := hv
  have hx := B.exec
  have hb := B.bytes
  have hr := B.returns
  have hts : ∀ w ∈ lw_g, w.before [.ref a0, .int x1].toArray s = true := fun w hw => atoms_spec (ws := wz yX2_unhush cX2_unhush 2 none) B.pre w (List.mem_cons_of_mem _ hw)
  have hown : s.vm.findClass RX2 = some m.cls := findClass_of_methodNamed B.named
  have hlocks := B.notSynchronized
  have C : Cx p s m [.ref a0, .int x1].toArray meth c D dA RX2 cX2_unhush 2 none := ⟨hx, hb, hr, hml, hown, hts, hK, hlocks⟩
  have hS : va_S A s.heap s.heap [] := va_S.rf
  have hl := lv_entry ([.ref a0, .int x1]) (n := 2) (Nat.le_of_ble_eq_true rfl)
  rw [lg_entry_eq]
  generalize (lg_sl ([.ref a0, .int x1]) ++ List.replicate (2 - (lg_sl ([.ref a0, .int x1])).length) Slot.unset).toArray = ls at hl ⊢
  have hl : lv_has ls 2 [(0, .ref a0), (1, .int x1)] := hl
  unfold fX2_unhush at h
  show W p l e (rz 0 0) s m _ below meth c s.heap [] 0 0 _ _
  refine lv_aload_n hx hb dX2_unhush_0 rfl (lv_at hl 0 rfl) ?_
  obtain ⟨r1, e, h⟩ := bd h
  refine fx_gR hx hb hts hown hK hR fl_X2_24 e dX2_unhush_1 ?_
  refine lv_iload_n hx hb dX2_unhush_4 rfl (lv_at hl 1 rfl) ?_
  refine lv_iconst (v := 0) hx hb dX2_unhush_5 (by decide) ?_
  obtain ⟨w2, e, h⟩ := bd h
  refine fx_sI hx hb hK hR hS e dX2_unhush_6 (fun H locs hR hS => ?_)
  exact fx_vret hx hb hr hlocks (Option.some.inj h) hR hS dX2_unhush_7
def fX2_clear (w : Fw) (a0 : Nat) : Option (Fw) := ((pF w a0 2 0 (.int 0)).bind fun w1 => some w1)
set_option maxRecDepth 100000 in
set_option maxHeartbeats 4000000 in
theorem mX2_clear (l : Launch) (D : va_G) (dA : Nat → ClassId) (A : Nat → Prop) {w : Fw} {a0 : Nat} {res : Fw} (h : fX2_clear w a0 = some res) : Met l yX2_clear (wz yX2_clear cX2_clear 1 none) (rz 0 0) (Pz D dA A w [.ref a0]) (QzV D dA A res) 0 0 A := by
  refine Met.ofW (cc := cX2_clear) (maxL := 1) (ret := none) (by decide) rfl ?_
  intro p e s m args below meth c s₁ B hml hv
  obtain ⟨rfl, hR, hK⟩ := hv
  have hx := B.exec
  have hb := B.bytes
  have hr := B.returns
  have hts : ∀ w ∈ lw_g, w.before [.ref a0].toArray s = true := fun w hw => atoms_spec (ws := wz yX2_clear cX2_clear 1 none) B.pre w (List.mem_cons_of_mem _ hw)
  have hown : s.vm.findClass RX2 = some m.cls := findClass_of_methodNamed B.named
  have hlocks := B.notSynchronized
  have C : Cx p s m [.ref a0].toArray meth c D dA RX2 cX2_clear 1 none := ⟨hx, hb, hr, hml, hown, hts, hK, hlocks⟩
  have hS : va_S A s.heap s.heap [] := va_S.rf
  have hl := lv_entry ([.ref a0]) (n := 1) (Nat.le_of_ble_eq_true rfl)
  rw [lg_entry_eq]
  generalize (lg_sl ([.ref a0]) ++ List.replicate (1 - (lg_sl ([.ref a0])).length) Slot.unset).toArray = ls at hl ⊢
  have hl : lv_has ls 1 [(0, .ref a0)] := hl
  unfold fX2_clear at h
  show W p l e (rz 0 0) s m _ below meth c s.heap [] 0 0 _ _
  refine lv_aload_n hx hb dX2_clear_0 rfl (lv_at hl 0 rfl) ?_
  refine lv_iconst (v := 0) hx hb dX2_clear_1 (by decide) ?_
  obtain ⟨w1, e, h⟩ := bd h
  refine fx_p hx hb hts hown hK hR hS fp_X2_30 e rfl rfl dX2_clear_2 (fun H locs hR hS => ?_)
  exact fx_vret hx hb hr hlocks (Option.some.inj h) hR hS dX2_clear_5
def fX2_add (w : Fw) (a0 : Nat) (x1 : Int32) (x2 : Int32) (x3 : Int32) (x4 : Int32) : Option (Fw) := ((gI w a0 2 0).bind fun v1 => (if v1 < 32 then ((gR w a0 2 1).bind fun r2 => ((gI w a0 2 0).bind fun v3 => ((sI w r2 v3 x1).bind fun w4 => ((gR w4 a0 2 2).bind fun r5 => ((gI w4 a0 2 0).bind fun v6 => ((sI w4 r5 v6 x2).bind fun w7 => ((gR w7 a0 2 3).bind fun r8 => ((gI w7 a0 2 0).bind fun v9 => ((sI w7 r8 v9 x3).bind fun w10 => ((gR w10 a0 2 4).bind fun r11 => ((gI w10 a0 2 0).bind fun v12 => ((sI w10 r11 v12 x4).bind fun w13 => ((gR w13 a0 2 5).bind fun r14 => ((gI w13 a0 2 0).bind fun v15 => ((sI w13 r14 v15 0).bind fun w16 => ((gR w16 a0 2 6).bind fun r17 => ((gI w16 a0 2 0).bind fun v18 => ((sI w16 r17 v18 (-1)).bind fun w19 => ((gI w19 a0 2 0).bind fun v20 => ((pF w19 a0 2 0 (.int (v20 + 1))).bind fun w21 => some w21)))))))))))))))))))) else some w))
set_option maxRecDepth 100000 in
set_option maxHeartbeats 4000000 in
theorem mX2_add (l : Launch) (D : va_G) (dA : Nat → ClassId) (A : Nat → Prop) {w : Fw} {a0 : Nat} {x1 : Int32} {x2 : Int32} {x3 : Int32} {x4 : Int32} {res : Fw} (h : fX2_add w a0 x1 x2 x3 x4 = some res) : Met l yX2_add (wz yX2_add cX2_add 5 none) (rz 0 0) (Pz D dA A w [.ref a0, .int x1, .int x2, .int x3, .int x4]) (QzV D dA A res) 0 0 A := by
  refine Met.ofW (cc := cX2_add) (maxL := 5) (ret := none) (by decide) rfl ?_
  intro p e s m args below meth c s₁ B hml hv
  obtain ⟨rfl, hR, hK⟩ := hv
  have hx := B.exec
  have hb := B.bytes
  have hr := B.returns
  have hts : ∀ w ∈ lw_g, w.before [.ref a0, .int x1, .int x2, .int x3, .int x4].toArray s = true := fun w hw => atoms_spec (ws := wz yX2_add cX2_add 5 none) B.pre w (List.mem_cons_of_mem _ hw)
  have hown : s.vm.findClass RX2 = some m.cls := findClass_of_methodNamed B.named
  have hlocks := B.notSynchronized
  have C : Cx p s m [.ref a0, .int x1, .int x2, .int x3, .int x4].toArray meth c D dA RX2 cX2_add 5 none := ⟨hx, hb, hr, hml, hown, hts, hK, hlocks⟩
  have hS : va_S A s.heap s.heap [] := va_S.rf
  have hl := lv_entry ([.ref a0, .int x1, .int x2, .int x3, .int x4]) (n := 5) (Nat.le_of_ble_eq_true rfl)
  rw [lg_entry_eq]
  generalize (lg_sl ([.ref a0, .int x1, .int x2, .int x3, .int x4]) ++ List.replicate (5 - (lg_sl ([.ref a0, .int x1, .int x2, .int x3, .int x4])).length) Slot.unset).toArray = ls at hl ⊢
  have hl : lv_has ls 5 [(0, .ref a0), (1, .int x1), (2, .int x2), (3, .int x3), (4, .int x4)] := hl
  unfold fX2_add at h
  show W p l e (rz 0 0) s m _ below meth c s.heap [] 0 0 _ _
  refine lv_aload_n hx hb dX2_add_0 rfl (lv_at hl 0 rfl) ?_
  obtain ⟨v1, e, h⟩ := bd h
  refine fx_gI hx hb hts hown hK hR fl_X2_30 e dX2_add_1 ?_
  refine lv_bipush (v := 32) hx hb dX2_add_4 (by decide) ?_
  refine lv_icmp_lt (tgt := 10) hx hb dX2_add_6 (by decide) (fun c => ?_) (fun c => ?_)
  · have h := it c h
    refine lv_aload_n hx hb dX2_add_10 rfl (lv_at hl 0 rfl) ?_
    obtain ⟨r2, e, h⟩ := bd h
    refine fx_gR hx hb hts hown hK hR fl_X2_9 e dX2_add_11 ?_
    refine lv_aload_n hx hb dX2_add_14 rfl (lv_at hl 0 rfl) ?_
    obtain ⟨v3, e, h⟩ := bd h
    refine fx_gI hx hb hts hown hK hR fl_X2_30 e dX2_add_15 ?_
    refine lv_iload_n hx hb dX2_add_18 rfl (lv_at hl 1 rfl) ?_
    obtain ⟨w4, e, h⟩ := bd h
    refine fx_sI hx hb hK hR hS e dX2_add_19 (fun H locs hR hS => ?_)
    refine lv_aload_n hx hb dX2_add_20 rfl (lv_at hl 0 rfl) ?_
    obtain ⟨r5, e, h⟩ := bd h
    refine fx_gR hx hb hts hown hK hR fl_X2_15 e dX2_add_21 ?_
    refine lv_aload_n hx hb dX2_add_24 rfl (lv_at hl 0 rfl) ?_
    obtain ⟨v6, e, h⟩ := bd h
    refine fx_gI hx hb hts hown hK hR fl_X2_30 e dX2_add_25 ?_
    refine lv_iload_n hx hb dX2_add_28 rfl (lv_at hl 2 rfl) ?_
    obtain ⟨w7, e, h⟩ := bd h
    refine fx_sI hx hb hK hR hS e dX2_add_29 (fun H locs hR hS => ?_)
    refine lv_aload_n hx hb dX2_add_30 rfl (lv_at hl 0 rfl) ?_
    obtain ⟨r8, e, h⟩ := bd h
    refine fx_gR hx hb hts hown hK hR fl_X2_18 e dX2_add_31 ?_
    refine lv_aload_n hx hb dX2_add_34 rfl (lv_at hl 0 rfl) ?_
    obtain ⟨v9, e, h⟩ := bd h
    refine fx_gI hx hb hts hown hK hR fl_X2_30 e dX2_add_35 ?_
    refine lv_iload_n hx hb dX2_add_38 rfl (lv_at hl 3 rfl) ?_
    obtain ⟨w10, e, h⟩ := bd h
    refine fx_sI hx hb hK hR hS e dX2_add_39 (fun H locs hR hS => ?_)
    refine lv_aload_n hx hb dX2_add_40 rfl (lv_at hl 0 rfl) ?_
    obtain ⟨r11, e, h⟩ := bd h
    refine fx_gR hx hb hts hown hK hR fl_X2_21 e dX2_add_41 ?_
    refine lv_aload_n hx hb dX2_add_44 rfl (lv_at hl 0 rfl) ?_
    obtain ⟨v12, e, h⟩ := bd h
    refine fx_gI hx hb hts hown hK hR fl_X2_30 e dX2_add_45 ?_
    refine lv_iload hx hb dX2_add_48 (lv_at hl 4 rfl) ?_
    obtain ⟨w13, e, h⟩ := bd h
    refine fx_sI hx hb hK hR hS e dX2_add_50 (fun H locs hR hS => ?_)
    refine lv_aload_n hx hb dX2_add_51 rfl (lv_at hl 0 rfl) ?_
    obtain ⟨r14, e, h⟩ := bd h
    refine fx_gR hx hb hts hown hK hR fl_X2_24 e dX2_add_52 ?_
    refine lv_aload_n hx hb dX2_add_55 rfl (lv_at hl 0 rfl) ?_
    obtain ⟨v15, e, h⟩ := bd h
    refine fx_gI hx hb hts hown hK hR fl_X2_30 e dX2_add_56 ?_
    refine lv_iconst (v := 0) hx hb dX2_add_59 (by decide) ?_
    obtain ⟨w16, e, h⟩ := bd h
    refine fx_sI hx hb hK hR hS e dX2_add_60 (fun H locs hR hS => ?_)
    refine lv_aload_n hx hb dX2_add_61 rfl (lv_at hl 0 rfl) ?_
    obtain ⟨r17, e, h⟩ := bd h
    refine fx_gR hx hb hts hown hK hR fl_X2_27 e dX2_add_62 ?_
    refine lv_aload_n hx hb dX2_add_65 rfl (lv_at hl 0 rfl) ?_
    obtain ⟨v18, e, h⟩ := bd h
    refine fx_gI hx hb hts hown hK hR fl_X2_30 e dX2_add_66 ?_
    refine lv_iconst (v := (-1)) hx hb dX2_add_69 (by decide) ?_
    obtain ⟨w19, e, h⟩ := bd h
    refine fx_sI hx hb hK hR hS e dX2_add_70 (fun H locs hR hS => ?_)
    refine lv_aload_n hx hb dX2_add_71 rfl (lv_at hl 0 rfl) ?_
    refine lv_dup hx hb dX2_add_72 rfl ?_
    obtain ⟨v20, e, h⟩ := bd h
    refine fx_gI hx hb hts hown hK hR fl_X2_30 e dX2_add_73 ?_
    refine lv_iconst (v := 1) hx hb dX2_add_76 (by decide) ?_
    refine lv_iadd hx hb dX2_add_77 ?_
    obtain ⟨w21, e, h⟩ := bd h
    refine fx_p hx hb hts hown hK hR hS fp_X2_30 e rfl rfl dX2_add_78 (fun H locs hR hS => ?_)
    exact fx_vret hx hb hr hlocks (Option.some.inj h) hR hS dX2_add_81
  · have h := ie c h
    exact fx_vret hx hb hr hlocks (Option.some.inj h) hR hS dX2_add_9
def fX2_placeOf_b32 (w : Fw) (K2 : Nat → Int32 → Int32 → Int32 → Option (Int32)) (a0 : Nat) (x1 : Int32) (x2 : Int32) (x3 : Int32) : Option (Int32) := (K2 a0 x1 x2 (x3 + 1))
set_option maxRecDepth 100000 in
set_option maxHeartbeats 4000000 in
theorem qX2_placeOf_b32 {p : Program} {l : Launch} {e : Env} {s : State} {m : MethodId} {args : Array Value} {below : List Frame} {meth : Method} {c : Code} {D : va_G} {dA : Nat → ClassId} {A : Nat → Prop} (C : Cx p s m args meth c D dA RX2 cX2_placeOf 4 (some .int)) {w : Fw} {res : Int32} {K2 : Nat → Int32 → Int32 → Int32 → Option (Int32)} (hK2 : ∀ {H : Heap} {locs : List Loc} {ls : Array Slot} {a0 : Nat} {x1 : Int32} {x2 : Int32} {x3 : Int32}, Rp D dA A w H → va_S A s.heap H locs → lv_has ls 4 [(0, .ref a0), (1, .int x1), (2, .int x2), (3, .int x3)] → K2 a0 x1 x2 x3 = some res → W p l e (rz 0 0) s m args below meth c H locs 0 0 (MQ below (QzI D dA A res w) args s 0 0 A) (F0 m 2 ls [])) {H : Heap} {locs : List Loc} {ls : Array Slot} {a0 : Nat} {x1 : Int32} {x2 : Int32} {x3 : Int32} (hR : Rp D dA A w H) (hS : va_S A s.heap H locs) (hl : lv_has ls 4 [(0, .ref a0), (1, .int x1), (2, .int x2), (3, .int x3)]) (h : fX2_placeOf_b32 w K2 a0 x1 x2 x3 = some res) : W p l e (rz 0 0) s m args below meth c H locs 0 0 (MQ below (QzI D dA A res w) args s 0 0 A) (F0 m 32 ls []) := by
  obtain ⟨hx, hb, hr, hml, hown, hts, hK, hlocks⟩ := id C
  unfold fX2_placeOf_b32 at h
  refine lv_iinc (v := (x3 + 1)) (lv' := [(3, .int (x3 + 1)), (0, .ref a0), (1, .int x1), (2, .int x2)]) hx hb dX2_placeOf_32 hl (k := 3) rfl rfl (by decide) rfl (fun ls hl => ?_)
  refine lv_goto (tgt := 2) hx hb dX2_placeOf_35 (by decide) ?_
  exact hK2 hR hS (lv_sub hl [1, 2, 3, 0] rfl) h
def fX2_placeOf_L2 (w : Fw)  : Nat → Nat → Int32 → Int32 → Int32 → Option (Int32)
  | 0, _, _, _, _ => none
  | n + 1, a0, x1, x2, x3 => ((gI w a0 2 0).bind fun v1 => (if v1 ≤ x3 then some ((-1) : Int32) else ((gR w a0 2 1).bind fun r2 => ((lI w r2 x3).bind fun v3 => (if v3 = x1 then ((gR w a0 2 3).bind fun r4 => ((lI w r4 x3).bind fun v5 => (if v5 = x2 then some x3 else (fX2_placeOf_b32 w (fX2_placeOf_L2 w n) a0 x1 x2 x3)))) else (fX2_placeOf_b32 w (fX2_placeOf_L2 w n) a0 x1 x2 x3))))))
set_option maxRecDepth 100000 in
set_option maxHeartbeats 4000000 in
theorem qX2_placeOf_L2 {p : Program} {l : Launch} {e : Env} {s : State} {m : MethodId} {args : Array Value} {below : List Frame} {meth : Method} {c : Code} {D : va_G} {dA : Nat → ClassId} {A : Nat → Prop} (C : Cx p s m args meth c D dA RX2 cX2_placeOf 4 (some .int)) {w : Fw} {res : Int32}   : ∀ (n : Nat) {H : Heap} {locs : List Loc} {ls : Array Slot} {a0 : Nat} {x1 : Int32} {x2 : Int32} {x3 : Int32}, Rp D dA A w H → va_S A s.heap H locs → lv_has ls 4 [(0, .ref a0), (1, .int x1), (2, .int x2), (3, .int x3)] → fX2_placeOf_L2 w n a0 x1 x2 x3 = some res → W p l e (rz 0 0) s m args below meth c H locs 0 0 (MQ below (QzI D dA A res w) args s 0 0 A) (F0 m 2 ls []) := by
  obtain ⟨hx, hb, hr, hml, hown, hts, hK, hlocks⟩ := id C
  intro n
  induction n with
  | zero =>
    intro H locs ls a0 x1 x2 x3 hR hS hl h
    rw [fX2_placeOf_L2.eq_1] at h
    cases h
  | succ n ih =>
    intro H locs ls a0 x1 x2 x3 hR hS hl h
    rw [fX2_placeOf_L2.eq_2] at h
    refine lv_iload_n hx hb dX2_placeOf_2 rfl (lv_at hl 3 rfl) ?_
    refine lv_aload_n hx hb dX2_placeOf_3 rfl (lv_at hl 0 rfl) ?_
    obtain ⟨v1, e, h⟩ := bd h
    refine fx_gI hx hb hts hown hK hR fl_X2_30 e dX2_placeOf_4 ?_
    refine lv_icmp_ge (tgt := 38) hx hb dX2_placeOf_7 (by decide) (fun c => ?_) (fun c => ?_)
    · have h := it c h
      refine lv_iconst (v := (-1)) hx hb dX2_placeOf_38 (by decide) ?_
      exact fx_iret hx hb hr hlocks (Option.some.inj h) rfl hR hS dX2_placeOf_39
    · have h := ie c h
      refine lv_aload_n hx hb dX2_placeOf_10 rfl (lv_at hl 0 rfl) ?_
      obtain ⟨r2, e, h⟩ := bd h
      refine fx_gR hx hb hts hown hK hR fl_X2_9 e dX2_placeOf_11 ?_
      refine lv_iload_n hx hb dX2_placeOf_14 rfl (lv_at hl 3 rfl) ?_
      obtain ⟨v3, e, h⟩ := bd h
      refine fx_lI hx hb hK hR e dX2_placeOf_15 ?_
      refine lv_iload_n hx hb dX2_placeOf_16 rfl (lv_at hl 1 rfl) ?_
      refine lv_icmp_ne (tgt := 32) hx hb dX2_placeOf_17 (by decide) (fun c => ?_) (fun c => ?_)
      · have h := ie c h
        exact qX2_placeOf_b32 C (K2 := fX2_placeOf_L2 w n) (hK2 := @ih) hR hS (lv_sub hl [0, 1, 2, 3] rfl) h
      · have h := it c h
        refine lv_aload_n hx hb dX2_placeOf_20 rfl (lv_at hl 0 rfl) ?_
        obtain ⟨r4, e, h⟩ := bd h
        refine fx_gR hx hb hts hown hK hR fl_X2_18 e dX2_placeOf_21 ?_
        refine lv_iload_n hx hb dX2_placeOf_24 rfl (lv_at hl 3 rfl) ?_
        obtain ⟨v5, e, h⟩ := bd h
        refine fx_lI hx hb hK hR e dX2_placeOf_25 ?_
        refine lv_iload_n hx hb dX2_placeOf_26 rfl (lv_at hl 2 rfl) ?_
        refine lv_icmp_ne (tgt := 32) hx hb dX2_placeOf_27 (by decide) (fun c => ?_) (fun c => ?_)
        · have h := ie c h
          exact qX2_placeOf_b32 C (K2 := fX2_placeOf_L2 w n) (hK2 := @ih) hR hS (lv_sub hl [0, 1, 2, 3] rfl) h
        · have h := it c h
          refine lv_iload_n hx hb dX2_placeOf_30 rfl (lv_at hl 3 rfl) ?_
          exact fx_iret hx hb hr hlocks (Option.some.inj h) rfl hR hS dX2_placeOf_31
def fX2_placeOf (w : Fw) (a0 : Nat) (x1 : Int32) (x2 : Int32) : Option (Int32) := (fX2_placeOf_L2 w 1000 a0 x1 x2 0)
set_option maxRecDepth 100000 in
set_option maxHeartbeats 4000000 in
theorem mX2_placeOf (l : Launch) (D : va_G) (dA : Nat → ClassId) (A : Nat → Prop) {w : Fw} {a0 : Nat} {x1 : Int32} {x2 : Int32} {res : Int32} (h : fX2_placeOf w a0 x1 x2 = some res) : Met l yX2_placeOf (wz yX2_placeOf cX2_placeOf 4 (some .int)) (rz 0 0) (Pz D dA A w [.ref a0, .int x1, .int x2]) (QzI D dA A res w) 0 0 A := by
  refine Met.ofW (cc := cX2_placeOf) (maxL := 4) (ret := (some .int)) (by decide) rfl ?_
  intro p e s m args below meth c s₁ B hml hv
  obtain ⟨rfl, hR, hK⟩ := hv
  have hx := B.exec
  have hb := B.bytes
  have hr := B.returns
  have hts : ∀ w ∈ lw_g, w.before [.ref a0, .int x1, .int x2].toArray s = true := fun w hw => atoms_spec (ws := wz yX2_placeOf cX2_placeOf 4 (some .int)) B.pre w (List.mem_cons_of_mem _ hw)
  have hown : s.vm.findClass RX2 = some m.cls := findClass_of_methodNamed B.named
  have hlocks := B.notSynchronized
  have C : Cx p s m [.ref a0, .int x1, .int x2].toArray meth c D dA RX2 cX2_placeOf 4 (some .int) := ⟨hx, hb, hr, hml, hown, hts, hK, hlocks⟩
  have hS : va_S A s.heap s.heap [] := va_S.rf
  have hl := lv_entry ([.ref a0, .int x1, .int x2]) (n := 4) (Nat.le_of_ble_eq_true rfl)
  rw [lg_entry_eq]
  generalize (lg_sl ([.ref a0, .int x1, .int x2]) ++ List.replicate (4 - (lg_sl ([.ref a0, .int x1, .int x2])).length) Slot.unset).toArray = ls at hl ⊢
  have hl : lv_has ls 4 [(0, .ref a0), (1, .int x1), (2, .int x2)] := hl
  unfold fX2_placeOf at h
  show W p l e (rz 0 0) s m _ below meth c s.heap [] 0 0 _ _
  refine lv_iconst (v := 0) hx hb dX2_placeOf_0 (by decide) ?_
  refine lv_istore_n (lv' := [(3, .int 0), (0, .ref a0), (1, .int x1), (2, .int x2)]) hx hb dX2_placeOf_1 rfl hl (by decide) rfl (fun ls hl => ?_)
  exact qX2_placeOf_L2 C   1000 hR hS (lv_sub hl [1, 2, 3, 0] rfl) h
def fX2_takeOver_b70  (w : Fw)  : Option (Fw) := some w
set_option maxRecDepth 100000 in
set_option maxHeartbeats 4000000 in
theorem qX2_takeOver_b70 {p : Program} {l : Launch} {e : Env} {s : State} {m : MethodId} {args : Array Value} {below : List Frame} {meth : Method} {c : Code} {D : va_G} {dA : Nat → ClassId} {A : Nat → Prop} (C : Cx p s m args meth c D dA RX2 cX2_takeOver 4 none) {w : Fw} {res : Fw}   {H : Heap} {locs : List Loc} {ls : Array Slot}  (hR : Rp D dA A w H) (hS : va_S A s.heap H locs) (hl : lv_has ls 4 []) (h : fX2_takeOver_b70 w = some res) : W p l e (rz 1 23) s m args below meth c H locs 0 0 (MQ below (QzV D dA A res) args s 0 0 A) (F0 m 70 ls []) := by
  obtain ⟨hx, hb, hr, hml, hown, hts, hK, hlocks⟩ := id C
  unfold fX2_takeOver_b70 at h
  exact fx_vret hx hb hr hlocks (Option.some.inj h) hR hS dX2_takeOver_70
def fX2_takeOver (w : Fw) (a0 : Nat) (a1 : Nat) : Option (Fw) := ((gI w a0 2 0).bind fun v1 => (if 0 ≤ (v1 - 1) then ((gR w a0 2 1).bind fun r2 => ((lI w r2 (v1 - 1)).bind fun v3 => ((gR w a0 2 3).bind fun r4 => ((lI w r4 (v1 - 1)).bind fun v5 => ((isO w a1 2).bind fun _ => ((fX2_placeOf w a1 v3 v5).bind fun v6 => (if v6 = (-1) then (fX2_takeOver_b70 w) else ((gR w a0 2 4).bind fun r7 => ((gR w a1 2 4).bind fun r8 => ((lI w r8 v6).bind fun v9 => ((sI w r7 (v1 - 1) v9).bind fun w10 => ((gR w10 a0 2 5).bind fun r11 => ((gR w10 a1 2 5).bind fun r12 => ((lI w10 r12 v6).bind fun v13 => ((sI w10 r11 (v1 - 1) v13).bind fun w14 => ((gR w14 a0 2 6).bind fun r15 => ((gR w14 a1 2 6).bind fun r16 => ((lI w14 r16 v6).bind fun v17 => ((sI w14 r15 (v1 - 1) v17).bind fun w18 => (fX2_takeOver_b70 w18)))))))))))))))))))) else some w))
set_option maxRecDepth 100000 in
set_option maxHeartbeats 4000000 in
theorem mX2_takeOver (l : Launch) (D : va_G) (dA : Nat → ClassId) (A : Nat → Prop) {w : Fw} {a0 : Nat} {a1 : Nat} {res : Fw} (h : fX2_takeOver w a0 a1 = some res) : Met l yX2_takeOver (wz yX2_takeOver cX2_takeOver 4 none) (rz 1 23) (Pz D dA A w [.ref a0, .ref a1]) (QzV D dA A res) 0 0 A := by
  refine Met.ofW (cc := cX2_takeOver) (maxL := 4) (ret := none) (by decide) rfl ?_
  intro p e s m args below meth c s₁ B hml hv
  obtain ⟨rfl, hR, hK⟩ := hv
  have hx := B.exec
  have hb := B.bytes
  have hr := B.returns
  have hts : ∀ w ∈ lw_g, w.before [.ref a0, .ref a1].toArray s = true := fun w hw => atoms_spec (ws := wz yX2_takeOver cX2_takeOver 4 none) B.pre w (List.mem_cons_of_mem _ hw)
  have hown : s.vm.findClass RX2 = some m.cls := findClass_of_methodNamed B.named
  have hlocks := B.notSynchronized
  have C : Cx p s m [.ref a0, .ref a1].toArray meth c D dA RX2 cX2_takeOver 4 none := ⟨hx, hb, hr, hml, hown, hts, hK, hlocks⟩
  have hS : va_S A s.heap s.heap [] := va_S.rf
  have hl := lv_entry ([.ref a0, .ref a1]) (n := 4) (Nat.le_of_ble_eq_true rfl)
  rw [lg_entry_eq]
  generalize (lg_sl ([.ref a0, .ref a1]) ++ List.replicate (4 - (lg_sl ([.ref a0, .ref a1])).length) Slot.unset).toArray = ls at hl ⊢
  have hl : lv_has ls 4 [(0, .ref a0), (1, .ref a1)] := hl
  unfold fX2_takeOver at h
  show W p l e (rz 1 23) s m _ below meth c s.heap [] 0 0 _ _
  refine lv_aload_n hx hb dX2_takeOver_0 rfl (lv_at hl 0 rfl) ?_
  obtain ⟨v1, e, h⟩ := bd h
  refine fx_gI hx hb hts hown hK hR fl_X2_30 e dX2_takeOver_1 ?_
  refine lv_iconst (v := 1) hx hb dX2_takeOver_4 (by decide) ?_
  refine lv_isub hx hb dX2_takeOver_5 ?_
  refine lv_istore_n (lv' := [(2, .int (v1 - 1)), (0, .ref a0), (1, .ref a1)]) hx hb dX2_takeOver_6 rfl hl (by decide) rfl (fun ls hl => ?_)
  refine lv_iload_n hx hb dX2_takeOver_7 rfl (lv_at hl 0 rfl) ?_
  refine lv_if_ge (tgt := 12) hx hb dX2_takeOver_8 (by decide) (fun c => ?_) (fun c => ?_)
  · have h := it c h
    refine lv_aload_n hx hb dX2_takeOver_12 rfl (lv_at hl 2 rfl) ?_
    refine lv_aload_n hx hb dX2_takeOver_13 rfl (lv_at hl 1 rfl) ?_
    obtain ⟨r2, e, h⟩ := bd h
    refine fx_gR hx hb hts hown hK hR fl_X2_9 e dX2_takeOver_14 ?_
    refine lv_iload_n hx hb dX2_takeOver_17 rfl (lv_at hl 0 rfl) ?_
    obtain ⟨v3, e, h⟩ := bd h
    refine fx_lI hx hb hK hR e dX2_takeOver_18 ?_
    refine lv_aload_n hx hb dX2_takeOver_19 rfl (lv_at hl 1 rfl) ?_
    obtain ⟨r4, e, h⟩ := bd h
    refine fx_gR hx hb hts hown hK hR fl_X2_18 e dX2_takeOver_20 ?_
    refine lv_iload_n hx hb dX2_takeOver_23 rfl (lv_at hl 0 rfl) ?_
    obtain ⟨v5, e, h⟩ := bd h
    refine fx_lI hx hb hK hR e dX2_takeOver_24 ?_
    obtain ⟨_, eO, h⟩ := bd h
    obtain ⟨v6, e, h⟩ := bd h
    refine fx_vI (As := [.int v3, .int v5]) (rest := []) hx hb hml hts hown hK hR hS eO (mX2_placeOf l D dA A e) my_X2_placeOf mv_X2_placeOf rfl ml_X2_38 rfl hl.1 rfl (Nat.le_of_ble_eq_true rfl) dX2_takeOver_25 ⟨Nat.le_of_ble_eq_true rfl, Nat.le_of_ble_eq_true rfl⟩ ⟨Nat.le_refl _, Nat.le_refl _⟩ (fun H locs hR hS => ?_)
    refine lv_istore_n (lv' := [(3, .int v6), (2, .int (v1 - 1)), (0, .ref a0), (1, .ref a1)]) hx hb dX2_takeOver_28 rfl hl (by decide) rfl (fun ls hl => ?_)
    refine lv_iload_n hx hb dX2_takeOver_29 rfl (lv_at hl 0 rfl) ?_
    refine lv_iconst (v := (-1)) hx hb dX2_takeOver_30 (by decide) ?_
    refine lv_icmp_eq (tgt := 70) hx hb dX2_takeOver_31 (by decide) (fun c => ?_) (fun c => ?_)
    · have h := it c h
      exact qX2_takeOver_b70 C   hR hS (lv_sub hl [] rfl) h
    · have h := ie c h
      refine lv_aload_n hx hb dX2_takeOver_34 rfl (lv_at hl 2 rfl) ?_
      obtain ⟨r7, e, h⟩ := bd h
      refine fx_gR hx hb hts hown hK hR fl_X2_21 e dX2_takeOver_35 ?_
      refine lv_iload_n hx hb dX2_takeOver_38 rfl (lv_at hl 1 rfl) ?_
      refine lv_aload_n hx hb dX2_takeOver_39 rfl (lv_at hl 3 rfl) ?_
      obtain ⟨r8, e, h⟩ := bd h
      refine fx_gR hx hb hts hown hK hR fl_X2_21 e dX2_takeOver_40 ?_
      refine lv_iload_n hx hb dX2_takeOver_43 rfl (lv_at hl 0 rfl) ?_
      obtain ⟨v9, e, h⟩ := bd h
      refine fx_lI hx hb hK hR e dX2_takeOver_44 ?_
      obtain ⟨w10, e, h⟩ := bd h
      refine fx_sI hx hb hK hR hS e dX2_takeOver_45 (fun H locs hR hS => ?_)
      refine lv_aload_n hx hb dX2_takeOver_46 rfl (lv_at hl 2 rfl) ?_
      obtain ⟨r11, e, h⟩ := bd h
      refine fx_gR hx hb hts hown hK hR fl_X2_24 e dX2_takeOver_47 ?_
      refine lv_iload_n hx hb dX2_takeOver_50 rfl (lv_at hl 1 rfl) ?_
      refine lv_aload_n hx hb dX2_takeOver_51 rfl (lv_at hl 3 rfl) ?_
      obtain ⟨r12, e, h⟩ := bd h
      refine fx_gR hx hb hts hown hK hR fl_X2_24 e dX2_takeOver_52 ?_
      refine lv_iload_n hx hb dX2_takeOver_55 rfl (lv_at hl 0 rfl) ?_
      obtain ⟨v13, e, h⟩ := bd h
      refine fx_lI hx hb hK hR e dX2_takeOver_56 ?_
      obtain ⟨w14, e, h⟩ := bd h
      refine fx_sI hx hb hK hR hS e dX2_takeOver_57 (fun H locs hR hS => ?_)
      refine lv_aload_n hx hb dX2_takeOver_58 rfl (lv_at hl 2 rfl) ?_
      obtain ⟨r15, e, h⟩ := bd h
      refine fx_gR hx hb hts hown hK hR fl_X2_27 e dX2_takeOver_59 ?_
      refine lv_iload_n hx hb dX2_takeOver_62 rfl (lv_at hl 1 rfl) ?_
      refine lv_aload_n hx hb dX2_takeOver_63 rfl (lv_at hl 3 rfl) ?_
      obtain ⟨r16, e, h⟩ := bd h
      refine fx_gR hx hb hts hown hK hR fl_X2_27 e dX2_takeOver_64 ?_
      refine lv_iload_n hx hb dX2_takeOver_67 rfl (lv_at hl 0 rfl) ?_
      obtain ⟨v17, e, h⟩ := bd h
      refine fx_lI hx hb hK hR e dX2_takeOver_68 ?_
      obtain ⟨w18, e, h⟩ := bd h
      refine fx_sI hx hb hK hR hS e dX2_takeOver_69 (fun H locs hR hS => ?_)
      exact qX2_takeOver_b70 C   hR hS (lv_sub hl [] rfl) h
  · have h := ie c h
    exact fx_vret hx hb hr hlocks (Option.some.inj h) hR hS dX2_takeOver_11
def fX2_logEnded_b60 (K3 : Fw → Nat → Nat → Int32 → Nat → Int32 → Option (Fw)) (w : Fw) (a0 : Nat) (a1 : Nat) (x2 : Int32) (a3 : Nat) (x4 : Int32) : Option (Fw) := (K3 w a0 a1 x2 a3 (x4 + 1))
set_option maxRecDepth 100000 in
set_option maxHeartbeats 4000000 in
theorem qX2_logEnded_b60 {p : Program} {l : Launch} {e : Env} {s : State} {m : MethodId} {args : Array Value} {below : List Frame} {meth : Method} {c : Code} {D : va_G} {dA : Nat → ClassId} {A : Nat → Prop} (C : Cx p s m args meth c D dA RX2 cX2_logEnded 5 none) {w : Fw} {res : Fw} {K3 : Fw → Nat → Nat → Int32 → Nat → Int32 → Option (Fw)} (hK3 : ∀ {w : Fw} {H : Heap} {locs : List Loc} {ls : Array Slot} {a0 : Nat} {a1 : Nat} {x2 : Int32} {a3 : Nat} {x4 : Int32}, Rp D dA A w H → va_S A s.heap H locs → lv_has ls 5 [(0, .ref a0), (1, .ref a1), (2, .int x2), (3, .ref a3), (4, .int x4)] → K3 w a0 a1 x2 a3 x4 = some res → W p l e (rz 2 45) s m args below meth c H locs 0 0 (MQ below (QzV D dA A res) args s 0 0 A) (F0 m 3 ls [])) {H : Heap} {locs : List Loc} {ls : Array Slot} {a0 : Nat} {a1 : Nat} {x2 : Int32} {a3 : Nat} {x4 : Int32} (hR : Rp D dA A w H) (hS : va_S A s.heap H locs) (hl : lv_has ls 5 [(0, .ref a0), (1, .ref a1), (2, .int x2), (3, .ref a3), (4, .int x4)]) (h : fX2_logEnded_b60 K3 w a0 a1 x2 a3 x4 = some res) : W p l e (rz 2 45) s m args below meth c H locs 0 0 (MQ below (QzV D dA A res) args s 0 0 A) (F0 m 60 ls []) := by
  obtain ⟨hx, hb, hr, hml, hown, hts, hK, hlocks⟩ := id C
  unfold fX2_logEnded_b60 at h
  refine lv_iinc (v := (x4 + 1)) (lv' := [(4, .int (x4 + 1)), (0, .ref a0), (1, .ref a1), (2, .int x2), (3, .ref a3)]) hx hb dX2_logEnded_60 hl (k := 4) rfl rfl (by decide) rfl (fun ls hl => ?_)
  refine lv_goto (tgt := 3) hx hb dX2_logEnded_63 (by decide) ?_
  exact hK3 hR hS (lv_sub hl [1, 2, 3, 4, 0] rfl) h
def fX2_logEnded_L3  : Nat → Fw → Nat → Nat → Int32 → Nat → Int32 → Option (Fw)
  | 0, _, _, _, _, _, _ => none
  | n + 1, w, a0, a1, x2, a3, x4 => ((gI w a0 2 0).bind fun v1 => (if v1 ≤ x4 then some w else ((gR w a0 2 1).bind fun r2 => ((lI w r2 x4).bind fun v3 => ((gR w a0 2 3).bind fun r4 => ((lI w r4 x4).bind fun v5 => ((isO w a1 2).bind fun _ => ((fX2_placeOf w a1 v3 v5).bind fun v6 => (if v6 = (-1) then ((gR w a0 2 1).bind fun r7 => ((lI w r7 x4).bind fun v8 => ((gR w a0 2 3).bind fun r9 => ((lI w r9 x4).bind fun v10 => ((gR w a0 2 4).bind fun r11 => ((lI w r11 x4).bind fun v12 => ((isO w a3 1).bind fun _ => ((fX1_add w a3 v8 v10 v12 x2).bind fun w13 => (fX2_logEnded_b60 (fX2_logEnded_L3  n) w13 a0 a1 x2 a3 x4))))))))) else (fX2_logEnded_b60 (fX2_logEnded_L3  n) w a0 a1 x2 a3 x4))))))))))
set_option maxRecDepth 100000 in
set_option maxHeartbeats 4000000 in
theorem qX2_logEnded_L3 {p : Program} {l : Launch} {e : Env} {s : State} {m : MethodId} {args : Array Value} {below : List Frame} {meth : Method} {c : Code} {D : va_G} {dA : Nat → ClassId} {A : Nat → Prop} (C : Cx p s m args meth c D dA RX2 cX2_logEnded 5 none) {res : Fw}   : ∀ (n : Nat) {w : Fw} {H : Heap} {locs : List Loc} {ls : Array Slot} {a0 : Nat} {a1 : Nat} {x2 : Int32} {a3 : Nat} {x4 : Int32}, Rp D dA A w H → va_S A s.heap H locs → lv_has ls 5 [(0, .ref a0), (1, .ref a1), (2, .int x2), (3, .ref a3), (4, .int x4)] → fX2_logEnded_L3 n w a0 a1 x2 a3 x4 = some res → W p l e (rz 2 45) s m args below meth c H locs 0 0 (MQ below (QzV D dA A res) args s 0 0 A) (F0 m 3 ls []) := by
  obtain ⟨hx, hb, hr, hml, hown, hts, hK, hlocks⟩ := id C
  intro n
  induction n with
  | zero =>
    intro w H locs ls a0 a1 x2 a3 x4 hR hS hl h
    rw [fX2_logEnded_L3.eq_1] at h
    cases h
  | succ n ih =>
    intro w H locs ls a0 a1 x2 a3 x4 hR hS hl h
    rw [fX2_logEnded_L3.eq_2] at h
    refine lv_iload hx hb dX2_logEnded_3 (lv_at hl 4 rfl) ?_
    refine lv_aload_n hx hb dX2_logEnded_5 rfl (lv_at hl 0 rfl) ?_
    obtain ⟨v1, e, h⟩ := bd h
    refine fx_gI hx hb hts hown hK hR fl_X2_30 e dX2_logEnded_6 ?_
    refine lv_icmp_ge (tgt := 66) hx hb dX2_logEnded_9 (by decide) (fun c => ?_) (fun c => ?_)
    · have h := it c h
      exact fx_vret hx hb hr hlocks (Option.some.inj h) hR hS dX2_logEnded_66
    · have h := ie c h
      refine lv_aload_n hx hb dX2_logEnded_12 rfl (lv_at hl 1 rfl) ?_
      refine lv_aload_n hx hb dX2_logEnded_13 rfl (lv_at hl 0 rfl) ?_
      obtain ⟨r2, e, h⟩ := bd h
      refine fx_gR hx hb hts hown hK hR fl_X2_9 e dX2_logEnded_14 ?_
      refine lv_iload hx hb dX2_logEnded_17 (lv_at hl 4 rfl) ?_
      obtain ⟨v3, e, h⟩ := bd h
      refine fx_lI hx hb hK hR e dX2_logEnded_19 ?_
      refine lv_aload_n hx hb dX2_logEnded_20 rfl (lv_at hl 0 rfl) ?_
      obtain ⟨r4, e, h⟩ := bd h
      refine fx_gR hx hb hts hown hK hR fl_X2_18 e dX2_logEnded_21 ?_
      refine lv_iload hx hb dX2_logEnded_24 (lv_at hl 4 rfl) ?_
      obtain ⟨v5, e, h⟩ := bd h
      refine fx_lI hx hb hK hR e dX2_logEnded_26 ?_
      obtain ⟨_, eO, h⟩ := bd h
      obtain ⟨v6, e, h⟩ := bd h
      refine fx_vI (As := [.int v3, .int v5]) (rest := []) hx hb hml hts hown hK hR hS eO (mX2_placeOf l D dA A e) my_X2_placeOf mv_X2_placeOf rfl ml_X2_38 rfl hl.1 rfl (Nat.le_of_ble_eq_true rfl) dX2_logEnded_27 ⟨Nat.le_of_ble_eq_true rfl, Nat.le_of_ble_eq_true rfl⟩ ⟨Nat.le_refl _, Nat.le_refl _⟩ (fun H locs hR hS => ?_)
      refine lv_iconst (v := (-1)) hx hb dX2_logEnded_30 (by decide) ?_
      refine lv_icmp_ne (tgt := 60) hx hb dX2_logEnded_31 (by decide) (fun c => ?_) (fun c => ?_)
      · have h := ie c h
        exact qX2_logEnded_b60 C (K3 := fX2_logEnded_L3  n) (hK3 := @ih) hR hS (lv_sub hl [0, 1, 2, 3, 4] rfl) h
      · have h := it c h
        refine lv_aload_n hx hb dX2_logEnded_34 rfl (lv_at hl 3 rfl) ?_
        refine lv_aload_n hx hb dX2_logEnded_35 rfl (lv_at hl 0 rfl) ?_
        obtain ⟨r7, e, h⟩ := bd h
        refine fx_gR hx hb hts hown hK hR fl_X2_9 e dX2_logEnded_36 ?_
        refine lv_iload hx hb dX2_logEnded_39 (lv_at hl 4 rfl) ?_
        obtain ⟨v8, e, h⟩ := bd h
        refine fx_lI hx hb hK hR e dX2_logEnded_41 ?_
        refine lv_aload_n hx hb dX2_logEnded_42 rfl (lv_at hl 0 rfl) ?_
        obtain ⟨r9, e, h⟩ := bd h
        refine fx_gR hx hb hts hown hK hR fl_X2_18 e dX2_logEnded_43 ?_
        refine lv_iload hx hb dX2_logEnded_46 (lv_at hl 4 rfl) ?_
        obtain ⟨v10, e, h⟩ := bd h
        refine fx_lI hx hb hK hR e dX2_logEnded_48 ?_
        refine lv_aload_n hx hb dX2_logEnded_49 rfl (lv_at hl 0 rfl) ?_
        obtain ⟨r11, e, h⟩ := bd h
        refine fx_gR hx hb hts hown hK hR fl_X2_21 e dX2_logEnded_50 ?_
        refine lv_iload hx hb dX2_logEnded_53 (lv_at hl 4 rfl) ?_
        obtain ⟨v12, e, h⟩ := bd h
        refine fx_lI hx hb hK hR e dX2_logEnded_55 ?_
        refine lv_iload_n hx hb dX2_logEnded_56 rfl (lv_at hl 2 rfl) ?_
        obtain ⟨_, eO, h⟩ := bd h
        obtain ⟨w13, e, h⟩ := bd h
        refine fx_vV (As := [.int v8, .int v10, .int v12, .int x2]) (rest := []) hx hb hml hts hown hK hR hS eO (mX1_add l D dA A e) my_X1_add mv_X1_add rfl ml_X2_42 rfl hl.1 rfl (Nat.le_of_ble_eq_true rfl) dX2_logEnded_57 ⟨Nat.le_of_ble_eq_true rfl, Nat.le_of_ble_eq_true rfl⟩ ⟨Nat.le_refl _, Nat.le_refl _⟩ (fun H locs hR hS => ?_)
        exact qX2_logEnded_b60 C (K3 := fX2_logEnded_L3  n) (hK3 := @ih) hR hS (lv_sub hl [0, 1, 2, 3, 4] rfl) h
def fX2_logEnded (w : Fw) (a0 : Nat) (a1 : Nat) (x2 : Int32) (a3 : Nat) : Option (Fw) := (fX2_logEnded_L3 1000 w a0 a1 x2 a3 0)
set_option maxRecDepth 100000 in
set_option maxHeartbeats 4000000 in
theorem mX2_logEnded (l : Launch) (D : va_G) (dA : Nat → ClassId) (A : Nat → Prop) {w : Fw} {a0 : Nat} {a1 : Nat} {x2 : Int32} {a3 : Nat} {res : Fw} (h : fX2_logEnded w a0 a1 x2 a3 = some res) : Met l yX2_logEnded (wz yX2_logEnded cX2_logEnded 5 none) (rz 2 45) (Pz D dA A w [.ref a0, .ref a1, .int x2, .ref a3]) (QzV D dA A res) 0 0 A := by
  refine Met.ofW (cc := cX2_logEnded) (maxL := 5) (ret := none) (by decide) rfl ?_
  intro p e s m args below meth c s₁ B hml hv
  obtain ⟨rfl, hR, hK⟩ := hv
  have hx := B.exec
  have hb := B.bytes
  have hr := B.returns
  have hts : ∀ w ∈ lw_g, w.before [.ref a0, .ref a1, .int x2, .ref a3].toArray s = true := fun w hw => atoms_spec (ws := wz yX2_logEnded cX2_logEnded 5 none) B.pre w (List.mem_cons_of_mem _ hw)
  have hown : s.vm.findClass RX2 = some m.cls := findClass_of_methodNamed B.named
  have hlocks := B.notSynchronized
  have C : Cx p s m [.ref a0, .ref a1, .int x2, .ref a3].toArray meth c D dA RX2 cX2_logEnded 5 none := ⟨hx, hb, hr, hml, hown, hts, hK, hlocks⟩
  have hS : va_S A s.heap s.heap [] := va_S.rf
  have hl := lv_entry ([.ref a0, .ref a1, .int x2, .ref a3]) (n := 5) (Nat.le_of_ble_eq_true rfl)
  rw [lg_entry_eq]
  generalize (lg_sl ([.ref a0, .ref a1, .int x2, .ref a3]) ++ List.replicate (5 - (lg_sl ([.ref a0, .ref a1, .int x2, .ref a3])).length) Slot.unset).toArray = ls at hl ⊢
  have hl : lv_has ls 5 [(0, .ref a0), (1, .ref a1), (2, .int x2), (3, .ref a3)] := hl
  unfold fX2_logEnded at h
  show W p l e (rz 2 45) s m _ below meth c s.heap [] 0 0 _ _
  refine lv_iconst (v := 0) hx hb dX2_logEnded_0 (by decide) ?_
  refine lv_istore (lv' := [(4, .int 0), (0, .ref a0), (1, .ref a1), (2, .int x2), (3, .ref a3)]) hx hb dX2_logEnded_1 hl (by decide) rfl (fun ls hl => ?_)
  exact qX2_logEnded_L3 C   1000 hR hS (lv_sub hl [1, 2, 3, 4, 0] rfl) h
def fX2_countSilenced_b24 (w : Fw) (K4 : Nat → Int32 → Int32 → Int32 → Option (Int32)) (a0 : Nat) (x1 : Int32) (x2 : Int32) (x3 : Int32) : Option (Int32) := (K4 a0 x1 x2 (x3 + 1))
set_option maxRecDepth 100000 in
set_option maxHeartbeats 4000000 in
theorem qX2_countSilenced_b24 {p : Program} {l : Launch} {e : Env} {s : State} {m : MethodId} {args : Array Value} {below : List Frame} {meth : Method} {c : Code} {D : va_G} {dA : Nat → ClassId} {A : Nat → Prop} (C : Cx p s m args meth c D dA RX2 cX2_countSilenced 4 (some .int)) {w : Fw} {res : Int32} {K4 : Nat → Int32 → Int32 → Int32 → Option (Int32)} (hK4 : ∀ {H : Heap} {locs : List Loc} {ls : Array Slot} {a0 : Nat} {x1 : Int32} {x2 : Int32} {x3 : Int32}, Rp D dA A w H → va_S A s.heap H locs → lv_has ls 4 [(0, .ref a0), (1, .int x1), (2, .int x2), (3, .int x3)] → K4 a0 x1 x2 x3 = some res → W p l e (rz 1 22) s m args below meth c H locs 0 0 (MQ below (QzI D dA A res w) args s 0 0 A) (F0 m 4 ls [])) {H : Heap} {locs : List Loc} {ls : Array Slot} {a0 : Nat} {x1 : Int32} {x2 : Int32} {x3 : Int32} (hR : Rp D dA A w H) (hS : va_S A s.heap H locs) (hl : lv_has ls 4 [(0, .ref a0), (1, .int x1), (2, .int x2), (3, .int x3)]) (h : fX2_countSilenced_b24 w K4 a0 x1 x2 x3 = some res) : W p l e (rz 1 22) s m args below meth c H locs 0 0 (MQ below (QzI D dA A res w) args s 0 0 A) (F0 m 24 ls []) := by
  obtain ⟨hx, hb, hr, hml, hown, hts, hK, hlocks⟩ := id C
  unfold fX2_countSilenced_b24 at h
  refine lv_iinc (v := (x3 + 1)) (lv' := [(3, .int (x3 + 1)), (0, .ref a0), (1, .int x1), (2, .int x2)]) hx hb dX2_countSilenced_24 hl (k := 3) rfl rfl (by decide) rfl (fun ls hl => ?_)
  refine lv_goto (tgt := 4) hx hb dX2_countSilenced_27 (by decide) ?_
  exact hK4 hR hS (lv_sub hl [1, 2, 3, 0] rfl) h
def fX2_countSilenced_L4 (w : Fw)  : Nat → Nat → Int32 → Int32 → Int32 → Option (Int32)
  | 0, _, _, _, _ => none
  | n + 1, a0, x1, x2, x3 => ((gI w a0 2 0).bind fun v1 => (if v1 ≤ x3 then some x2 else ((isO w a0 2).bind fun _ => ((fX2_isSilenced w a0 x3 x1).bind fun v2 => (if v2 = 0 then (fX2_countSilenced_b24 w (fX2_countSilenced_L4 w n) a0 x1 x2 x3) else (fX2_countSilenced_b24 w (fX2_countSilenced_L4 w n) a0 x1 (x2 + 1) x3))))))
set_option maxRecDepth 100000 in
set_option maxHeartbeats 4000000 in
theorem qX2_countSilenced_L4 {p : Program} {l : Launch} {e : Env} {s : State} {m : MethodId} {args : Array Value} {below : List Frame} {meth : Method} {c : Code} {D : va_G} {dA : Nat → ClassId} {A : Nat → Prop} (C : Cx p s m args meth c D dA RX2 cX2_countSilenced 4 (some .int)) {w : Fw} {res : Int32}   : ∀ (n : Nat) {H : Heap} {locs : List Loc} {ls : Array Slot} {a0 : Nat} {x1 : Int32} {x2 : Int32} {x3 : Int32}, Rp D dA A w H → va_S A s.heap H locs → lv_has ls 4 [(0, .ref a0), (1, .int x1), (2, .int x2), (3, .int x3)] → fX2_countSilenced_L4 w n a0 x1 x2 x3 = some res → W p l e (rz 1 22) s m args below meth c H locs 0 0 (MQ below (QzI D dA A res w) args s 0 0 A) (F0 m 4 ls []) := by
  obtain ⟨hx, hb, hr, hml, hown, hts, hK, hlocks⟩ := id C
  intro n
  induction n with
  | zero =>
    intro H locs ls a0 x1 x2 x3 hR hS hl h
    rw [fX2_countSilenced_L4.eq_1] at h
    cases h
  | succ n ih =>
    intro H locs ls a0 x1 x2 x3 hR hS hl h
    rw [fX2_countSilenced_L4.eq_2] at h
    refine lv_iload_n hx hb dX2_countSilenced_4 rfl (lv_at hl 3 rfl) ?_
    refine lv_aload_n hx hb dX2_countSilenced_5 rfl (lv_at hl 0 rfl) ?_
    obtain ⟨v1, e, h⟩ := bd h
    refine fx_gI hx hb hts hown hK hR fl_X2_30 e dX2_countSilenced_6 ?_
    refine lv_icmp_ge (tgt := 30) hx hb dX2_countSilenced_9 (by decide) (fun c => ?_) (fun c => ?_)
    · have h := it c h
      refine lv_iload_n hx hb dX2_countSilenced_30 rfl (lv_at hl 2 rfl) ?_
      exact fx_iret hx hb hr hlocks (Option.some.inj h) rfl hR hS dX2_countSilenced_31
    · have h := ie c h
      refine lv_aload_n hx hb dX2_countSilenced_12 rfl (lv_at hl 0 rfl) ?_
      refine lv_iload_n hx hb dX2_countSilenced_13 rfl (lv_at hl 3 rfl) ?_
      refine lv_iload_n hx hb dX2_countSilenced_14 rfl (lv_at hl 1 rfl) ?_
      obtain ⟨_, eO, h⟩ := bd h
      obtain ⟨v2, e, h⟩ := bd h
      refine fx_vI (As := [.int x3, .int x1]) (rest := []) hx hb hml hts hown hK hR hS eO (mX2_isSilenced l D dA A e) my_X2_isSilenced mv_X2_isSilenced rfl ml_X2_34 rfl hl.1 rfl (Nat.le_of_ble_eq_true rfl) dX2_countSilenced_15 ⟨Nat.le_of_ble_eq_true rfl, Nat.le_of_ble_eq_true rfl⟩ ⟨Nat.le_refl _, Nat.le_refl _⟩ (fun H locs hR hS => ?_)
      refine lv_if_eq (tgt := 24) hx hb dX2_countSilenced_18 (by decide) (fun c => ?_) (fun c => ?_)
      · have h := it c h
        exact qX2_countSilenced_b24 C (K4 := fX2_countSilenced_L4 w n) (hK4 := @ih) hR hS (lv_sub hl [0, 1, 2, 3] rfl) h
      · have h := ie c h
        refine lv_iinc (v := (x2 + 1)) (lv' := [(2, .int (x2 + 1)), (0, .ref a0), (1, .int x1), (3, .int x3)]) hx hb dX2_countSilenced_21 hl (k := 2) rfl rfl (by decide) rfl (fun ls hl => ?_)
        exact qX2_countSilenced_b24 C (K4 := fX2_countSilenced_L4 w n) (hK4 := @ih) hR hS (lv_sub hl [1, 2, 0, 3] rfl) h
def fX2_countSilenced (w : Fw) (a0 : Nat) (x1 : Int32) : Option (Int32) := (fX2_countSilenced_L4 w 1000 a0 x1 0 0)
set_option maxRecDepth 100000 in
set_option maxHeartbeats 4000000 in
theorem mX2_countSilenced (l : Launch) (D : va_G) (dA : Nat → ClassId) (A : Nat → Prop) {w : Fw} {a0 : Nat} {x1 : Int32} {res : Int32} (h : fX2_countSilenced w a0 x1 = some res) : Met l yX2_countSilenced (wz yX2_countSilenced cX2_countSilenced 4 (some .int)) (rz 1 22) (Pz D dA A w [.ref a0, .int x1]) (QzI D dA A res w) 0 0 A := by
  refine Met.ofW (cc := cX2_countSilenced) (maxL := 4) (ret := (some .int)) (by decide) rfl ?_
  intro p e s m args below meth c s₁ B hml hv
  obtain ⟨rfl, hR, hK⟩ := hv
  have hx := B.exec
  have hb := B.bytes
  have hr := B.returns
  have hts : ∀ w ∈ lw_g, w.before [.ref a0, .int x1].toArray s = true := fun w hw => atoms_spec (ws := wz yX2_countSilenced cX2_countSilenced 4 (some .int)) B.pre w (List.mem_cons_of_mem _ hw)
  have hown : s.vm.findClass RX2 = some m.cls := findClass_of_methodNamed B.named
  have hlocks := B.notSynchronized
  have C : Cx p s m [.ref a0, .int x1].toArray meth c D dA RX2 cX2_countSilenced 4 (some .int) := ⟨hx, hb, hr, hml, hown, hts, hK, hlocks⟩
  have hS : va_S A s.heap s.heap [] := va_S.rf
  have hl := lv_entry ([.ref a0, .int x1]) (n := 4) (Nat.le_of_ble_eq_true rfl)
  rw [lg_entry_eq]
  generalize (lg_sl ([.ref a0, .int x1]) ++ List.replicate (4 - (lg_sl ([.ref a0, .int x1])).length) Slot.unset).toArray = ls at hl ⊢
  have hl : lv_has ls 4 [(0, .ref a0), (1, .int x1)] := hl
  unfold fX2_countSilenced at h
  show W p l e (rz 1 22) s m _ below meth c s.heap [] 0 0 _ _
  refine lv_iconst (v := 0) hx hb dX2_countSilenced_0 (by decide) ?_
  refine lv_istore_n (lv' := [(2, .int 0), (0, .ref a0), (1, .int x1)]) hx hb dX2_countSilenced_1 rfl hl (by decide) rfl (fun ls hl => ?_)
  refine lv_iconst (v := 0) hx hb dX2_countSilenced_2 (by decide) ?_
  refine lv_istore_n (lv' := [(3, .int 0), (2, .int 0), (0, .ref a0), (1, .int x1)]) hx hb dX2_countSilenced_3 rfl hl (by decide) rfl (fun ls hl => ?_)
  exact qX2_countSilenced_L4 C   1000 hR hS (lv_sub hl [2, 3, 1, 0] rfl) h
