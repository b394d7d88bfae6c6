def fX4_kindAt (w : Fw) (a0 : Nat) (x1 : Int32) : Option (Int32) := ((gR w a0 4 1).bind fun r1 => ((lI w r1 x1).bind fun v2 => some (v2 >>> ((5 : Int32) &&& 31))))
set_option maxRecDepth 100000 in
set_option maxHeartbeats 4000000 in
theorem mX4_kindAt (l : Launch) (D : va_G) (dA : Nat → ClassId) (A : Nat → Prop) {w : Fw} {a0 : Nat} {x1 : Int32} {res : Int32} (h : fX4_kindAt w a0 x1 = some res) : Met l yX4_kindAt (wz yX4_kindAt cX4_kindAt 2 (some .int)) (rz 0 0) (Pz D dA A w [.ref a0, .int x1]) (QzI D dA A res w) 0 0 A := by
  refine Met.ofW (cc := cX4_kindAt) (maxL := 2) (ret := (some .int)) (by decide) rfl ?_
  intro p e s m args below meth c s₁ B hml hv
  obtain ⟨rfl, hR, hK⟩ := hv
  have hx := B.exec
  have hb := B.bytes
  have hr := B.returns
  have hts : ∀ w ∈ lw_g, w.before [.ref a0, .int x1].toArray s = true := fun w hw => atoms_spec (ws := wz yX4_kindAt cX4_kindAt 2 (some .int)) B.pre w (List.mem_cons_of_mem _ hw)
  have hown : s.vm.findClass RX4 = some m.cls := findClass_of_methodNamed B.named
  have hlocks := B.notSynchronized
  have C : Cx p s m [.ref a0, .int x1].toArray meth c D dA RX4 cX4_kindAt 2 (some .int) := ⟨hx, hb, hr, hml, hown, hts, hK, hlocks⟩
  have hS : va_S A s.heap s.heap [] := va_S.rf
  have hl := lv_entry ([.ref a0, .int x1]) (n := 2) (Nat.le_of_ble_eq_true rfl)
  rw [lg_entry_eq]
  generalize (lg_sl ([.ref a0, .int x1]) ++ List.replicate (2 - (lg_sl ([.ref a0, .int x1])).length) Slot.unset).toArray = ls at hl ⊢
  have hl : lv_has ls 2 [(0, .ref a0), (1, .int x1)] := hl
  unfold fX4_kindAt at h
  show W p l e (rz 0 0) s m _ below meth c s.heap [] 0 0 _ _
  refine lv_aload_n hx hb dX4_kindAt_0 rfl (lv_at hl 0 rfl) ?_
  obtain ⟨r1, e, h⟩ := bd h
  refine fx_gR hx hb hts hown hK hR fl_X4_9 e dX4_kindAt_1 ?_
  refine lv_iload_n hx hb dX4_kindAt_4 rfl (lv_at hl 1 rfl) ?_
  obtain ⟨v2, e, h⟩ := bd h
  refine fx_lI hx hb hK hR e dX4_kindAt_5 ?_
  refine lv_iconst (v := 5) hx hb dX4_kindAt_6 (by decide) ?_
  refine lv_ishr hx hb dX4_kindAt_7 ?_
  exact fx_iret hx hb hr hlocks (Option.some.inj h) rfl hR hS dX4_kindAt_8
def fX4_numberAt (w : Fw) (a0 : Nat) (x1 : Int32) : Option (Int32) := ((gR w a0 4 1).bind fun r1 => ((lI w r1 x1).bind fun v2 => some (v2 &&& 31)))
set_option maxRecDepth 100000 in
set_option maxHeartbeats 4000000 in
theorem mX4_numberAt (l : Launch) (D : va_G) (dA : Nat → ClassId) (A : Nat → Prop) {w : Fw} {a0 : Nat} {x1 : Int32} {res : Int32} (h : fX4_numberAt w a0 x1 = some res) : Met l yX4_numberAt (wz yX4_numberAt cX4_numberAt 2 (some .int)) (rz 0 0) (Pz D dA A w [.ref a0, .int x1]) (QzI D dA A res w) 0 0 A := by
  refine Met.ofW (cc := cX4_numberAt) (maxL := 2) (ret := (some .int)) (by decide) rfl ?_
  intro p e s m args below meth c s₁ B hml hv
  obtain ⟨rfl, hR, hK⟩ := hv
  have hx := B.exec
  have hb := B.bytes
  have hr := B.returns
  have hts : ∀ w ∈ lw_g, w.before [.ref a0, .int x1].toArray s = true := fun w hw => atoms_spec (ws := wz yX4_numberAt cX4_numberAt 2 (some .int)) B.pre w (List.mem_cons_of_mem _ hw)
  have hown : s.vm.findClass RX4 = some m.cls := findClass_of_methodNamed B.named
  have hlocks := B.notSynchronized
  have C : Cx p s m [.ref a0, .int x1].toArray meth c D dA RX4 cX4_numberAt 2 (some .int) := ⟨hx, hb, hr, hml, hown, hts, hK, hlocks⟩
  have hS : va_S A s.heap s.heap [] := va_S.rf
  have hl := lv_entry ([.ref a0, .int x1]) (n := 2) (Nat.le_of_ble_eq_true rfl)
  rw [lg_entry_eq]
  generalize (lg_sl ([.ref a0, .int x1]) ++ List.replicate (2 - (lg_sl ([.ref a0, .int x1])).length) Slot.unset).toArray = ls at hl ⊢
  have hl : lv_has ls 2 [(0, .ref a0), (1, .int x1)] := hl
  unfold fX4_numberAt at h
  show W p l e (rz 0 0) s m _ below meth c s.heap [] 0 0 _ _
  refine lv_aload_n hx hb dX4_numberAt_0 rfl (lv_at hl 0 rfl) ?_
  obtain ⟨r1, e, h⟩ := bd h
  refine fx_gR hx hb hts hown hK hR fl_X4_9 e dX4_numberAt_1 ?_
  refine lv_iload_n hx hb dX4_numberAt_4 rfl (lv_at hl 1 rfl) ?_
  obtain ⟨v2, e, h⟩ := bd h
  refine fx_lI hx hb hK hR e dX4_numberAt_5 ?_
  refine lv_bipush (v := 31) hx hb dX4_numberAt_6 (by decide) ?_
  refine lv_iand hx hb dX4_numberAt_8 ?_
  exact fx_iret hx hb hr hlocks (Option.some.inj h) rfl hR hS dX4_numberAt_9
def fX4_numbersOf_b31 (w : Fw) (K4 : Nat → Int32 → Int32 → Int32 → Option (Int32)) (a0 : Nat) (x1 : Int32) (x2 : Int32) (x3 : Int32) : Option (Int32) := (K4 a0 x1 x2 (x3 + 1))
set_option maxRecDepth 100000 in
set_option maxHeartbeats 4000000 in
theorem qX4_numbersOf_b31 {p : Program} {l : Launch} {e : Env} {s : State} {m : MethodId} {args : Array Value} {below : List Frame} {meth : Method} {c : Code} {D : va_G} {dA : Nat → ClassId} {A : Nat → Prop} (C : Cx p s m args meth c D dA RX4 cX4_numbersOf 4 (some .int)) {w : Fw} {res : Int32} {K4 : Nat → Int32 → Int32 → Int32 → Option (Int32)} (hK4 : ∀ {H : Heap} {locs : List Loc} {ls : Array Slot} {a0 : Nat} {x1 : Int32} {x2 : Int32} {x3 : Int32}, Rp D dA A w H → va_S A s.heap H locs → lv_has ls 4 [(0, .ref a0), (1, .int x1), (2, .int x2), (3, .int x3)] → K4 a0 x1 x2 x3 = some res → W p l e (rz 1 21) s m args below meth c H locs 0 0 (MQ below (QzI D dA A res w) args s 0 0 A) (F0 m 4 ls [])) {H : Heap} {locs : List Loc} {ls : Array Slot} {a0 : Nat} {x1 : Int32} {x2 : Int32} {x3 : Int32} (hR : Rp D dA A w H) (hS : va_S A s.heap H locs) (hl : lv_has ls 4 [(0, .ref a0), (1, .int x1), (2, .int x2), (3, .int x3)]) (h : fX4_numbersOf_b31 w K4 a0 x1 x2 x3 = some res) : W p l e (rz 1 21) s m args below meth c H locs 0 0 (MQ below (QzI D dA A res w) args s 0 0 A) (F0 m 31 ls []) := by
  obtain ⟨hx, hb, hr, hml, hown, hts, hK, hlocks⟩ := id C
  unfold fX4_numbersOf_b31 at h
  refine lv_iinc (v := (x3 + 1)) (lv' := [(3, .int (x3 + 1)), (0, .ref a0), (1, .int x1), (2, .int x2)]) hx hb dX4_numbersOf_31 hl (k := 3) rfl rfl (by decide) rfl (fun ls hl => ?_)
  refine lv_goto (tgt := 4) hx hb dX4_numbersOf_34 (by decide) ?_
  exact hK4 hR hS (lv_sub hl [1, 2, 3, 0] rfl) h
def fX4_numbersOf_L4 (w : Fw)  : Nat → Nat → Int32 → Int32 → Int32 → Option (Int32)
  | 0, _, _, _, _ => none
  | n + 1, a0, x1, x2, x3 => ((gI w a0 4 0).bind fun v1 => (if v1 ≤ x3 then some x2 else ((isO w a0 4).bind fun _ => ((fX4_kindAt w a0 x3).bind fun v2 => (if v2 = x1 then ((isO w a0 4).bind fun _ => ((fX4_numberAt w a0 x3).bind fun v3 => (fX4_numbersOf_b31 w (fX4_numbersOf_L4 w n) a0 x1 (x2 ||| ((1 : Int32) <<< (v3 &&& 31))) x3))) else (fX4_numbersOf_b31 w (fX4_numbersOf_L4 w n) a0 x1 x2 x3))))))
set_option maxRecDepth 100000 in
set_option maxHeartbeats 4000000 in
theorem qX4_numbersOf_L4 {p : Program} {l : Launch} {e : Env} {s : State} {m : MethodId} {args : Array Value} {below : List Frame} {meth : Method} {c : Code} {D : va_G} {dA : Nat → ClassId} {A : Nat → Prop} (C : Cx p s m args meth c D dA RX4 cX4_numbersOf 4 (some .int)) {w : Fw} {res : Int32}   : ∀ (n : Nat) {H : Heap} {locs : List Loc} {ls : Array Slot} {a0 : Nat} {x1 : Int32} {x2 : Int32} {x3 : Int32}, Rp D dA A w H → va_S A s.heap H locs → lv_has ls 4 [(0, .ref a0), (1, .int x1), (2, .int x2), (3, .int x3)] → fX4_numbersOf_L4 w n a0 x1 x2 x3 = some res → W p l e (rz 1 21) s m args below meth c H locs 0 0 (MQ below (QzI D dA A res w) args s 0 0 A) (F0 m 4 ls []) := by
  obtain ⟨hx, hb, hr, hml, hown, hts, hK, hlocks⟩ := id C
  intro n
  induction n with
  | zero =>
    intro H locs ls a0 x1 x2 x3 hR hS hl h
    rw [fX4_numbersOf_L4.eq_1] at h
    cases h
  | succ n ih =>
    intro H locs ls a0 x1 x2 x3 hR hS hl h
    rw [fX4_numbersOf_L4.eq_2] at h
    refine lv_iload_n hx hb dX4_numbersOf_4 rfl (lv_at hl 3 rfl) ?_
    refine lv_aload_n hx hb dX4_numbersOf_5 rfl (lv_at hl 0 rfl) ?_
    obtain ⟨v1, e, h⟩ := bd h
    refine fx_gI hx hb hts hown hK hR fl_X4_28 e dX4_numbersOf_6 ?_
    refine lv_icmp_ge (tgt := 37) hx hb dX4_numbersOf_9 (by decide) (fun c => ?_) (fun c => ?_)
    · have h := it c h
      refine lv_iload_n hx hb dX4_numbersOf_37 rfl (lv_at hl 2 rfl) ?_
      exact fx_iret hx hb hr hlocks (Option.some.inj h) rfl hR hS dX4_numbersOf_38
    · have h := ie c h
      refine lv_aload_n hx hb dX4_numbersOf_12 rfl (lv_at hl 0 rfl) ?_
      refine lv_iload_n hx hb dX4_numbersOf_13 rfl (lv_at hl 3 rfl) ?_
      obtain ⟨_, eO, h⟩ := bd h
      obtain ⟨v2, e, h⟩ := bd h
      refine fx_vI (As := [.int x3]) (rest := []) hx hb hml hts hown hK hR hS eO (mX4_kindAt l D dA A e) my_X4_kindAt mv_X4_kindAt rfl ml_X4_47 rfl hl.1 rfl (Nat.le_of_ble_eq_true rfl) dX4_numbersOf_14 ⟨Nat.le_of_ble_eq_true rfl, Nat.le_of_ble_eq_true rfl⟩ ⟨Nat.le_refl _, Nat.le_refl _⟩ (fun H locs hR hS => ?_)
      refine lv_iload_n hx hb dX4_numbersOf_17 rfl (lv_at hl 1 rfl) ?_
      refine lv_icmp_ne (tgt := 31) hx hb dX4_numbersOf_18 (by decide) (fun c => ?_) (fun c => ?_)
      · have h := ie c h
        exact qX4_numbersOf_b31 C (K4 := fX4_numbersOf_L4 w n) (hK4 := @ih) hR hS (lv_sub hl [0, 1, 2, 3] rfl) h
      · have h := it c h
        refine lv_iload_n hx hb dX4_numbersOf_21 rfl (lv_at hl 2 rfl) ?_
        refine lv_iconst (v := 1) hx hb dX4_numbersOf_22 (by decide) ?_
        refine lv_aload_n hx hb dX4_numbersOf_23 rfl (lv_at hl 0 rfl) ?_
        refine lv_iload_n hx hb dX4_numbersOf_24 rfl (lv_at hl 3 rfl) ?_
        obtain ⟨_, eO, h⟩ := bd h
        obtain ⟨v3, e, h⟩ := bd h
        refine fx_vI (As := [.int x3]) (rest := [.int 1, .int x2]) hx hb hml hts hown hK hR hS eO (mX4_numberAt l D dA A e) my_X4_numberAt mv_X4_numberAt rfl ml_X4_50 rfl hl.1 rfl (Nat.le_of_ble_eq_true rfl) dX4_numbersOf_25 ⟨Nat.le_of_ble_eq_true rfl, Nat.le_of_ble_eq_true rfl⟩ ⟨Nat.le_refl _, Nat.le_refl _⟩ (fun H locs hR hS => ?_)
        refine lv_ishl hx hb dX4_numbersOf_28 ?_
        refine lv_ior hx hb dX4_numbersOf_29 ?_
        refine lv_istore_n (lv' := [(2, .int (x2 ||| ((1 : Int32) <<< (v3 &&& 31)))), (0, .ref a0), (1, .int x1), (3, .int x3)]) hx hb dX4_numbersOf_30 rfl hl (by decide) rfl (fun ls hl => ?_)
        exact qX4_numbersOf_b31 C (K4 := fX4_numbersOf_L4 w n) (hK4 := @ih) hR hS (lv_sub hl [1, 2, 0, 3] rfl) h
def fX4_numbersOf (w : Fw) (a0 : Nat) (x1 : Int32) : Option (Int32) := (fX4_numbersOf_L4 w 1000 a0 x1 0 0)
set_option maxRecDepth 100000 in
set_option maxHeartbeats 4000000 in
theorem mX4_numbersOf (l : Launch) (D : va_G) (dA : Nat → ClassId) (A : Nat → Prop) {w : Fw} {a0 : Nat} {x1 : Int32} {res : Int32} (h : fX4_numbersOf w a0 x1 = some res) : Met l yX4_numbersOf (wz yX4_numbersOf cX4_numbersOf 4 (some .int)) (rz 1 21) (Pz D dA A w [.ref a0, .int x1]) (QzI D dA A res w) 0 0 A := by
  refine Met.ofW (cc := cX4_numbersOf) (maxL := 4) (ret := (some .int)) (by decide) rfl ?_
  intro p e s m args below meth c s₁ B hml hv
  obtain ⟨rfl, hR, hK⟩ := hv
  have hx := B.exec
  have hb := B.bytes
  have hr := B.returns
  have hts : ∀ w ∈ lw_g, w.before [.ref a0, .int x1].toArray s = true := fun w hw => atoms_spec (ws := wz yX4_numbersOf cX4_numbersOf 4 (some .int)) B.pre w (List.mem_cons_of_mem _ hw)
  have hown : s.vm.findClass RX4 = some m.cls := findClass_of_methodNamed B.named
  have hlocks := B.notSynchronized
  have C : Cx p s m [.ref a0, .int x1].toArray meth c D dA RX4 cX4_numbersOf 4 (some .int) := ⟨hx, hb, hr, hml, hown, hts, hK, hlocks⟩
  have hS : va_S A s.heap s.heap [] := va_S.rf
  have hl := lv_entry ([.ref a0, .int x1]) (n := 4) (Nat.le_of_ble_eq_true rfl)
  rw [lg_entry_eq]
  generalize (lg_sl ([.ref a0, .int x1]) ++ List.replicate (4 - (lg_sl ([.ref a0, .int x1])).length) Slot.unset).toArray = ls at hl ⊢
  have hl : lv_has ls 4 [(0, .ref a0), (1, .int x1)] := hl
  unfold fX4_numbersOf at h
  show W p l e (rz 1 21) s m _ below meth c s.heap [] 0 0 _ _
  refine lv_iconst (v := 0) hx hb dX4_numbersOf_0 (by decide) ?_
  refine lv_istore_n (lv' := [(2, .int 0), (0, .ref a0), (1, .int x1)]) hx hb dX4_numbersOf_1 rfl hl (by decide) rfl (fun ls hl => ?_)
  refine lv_iconst (v := 0) hx hb dX4_numbersOf_2 (by decide) ?_
  refine lv_istore_n (lv' := [(3, .int 0), (2, .int 0), (0, .ref a0), (1, .int x1)]) hx hb dX4_numbersOf_3 rfl hl (by decide) rfl (fun ls hl => ?_)
  exact qX4_numbersOf_L4 C   1000 hR hS (lv_sub hl [2, 3, 1, 0] rfl) h
def fX4_importedFiles_b34 (w : Fw) (K4 : Nat → Int32 → Int32 → Option (Int32)) (a0 : Nat) (x1 : Int32) (x2 : Int32) : Option (Int32) := (K4 a0 x1 (x2 + 1))
set_option maxRecDepth 100000 in
set_option maxHeartbeats 4000000 in
theorem qX4_importedFiles_b34 {p : Program} {l : Launch} {e : Env} {s : State} {m : MethodId} {args : Array Value} {below : List Frame} {meth : Method} {c : Code} {D : va_G} {dA : Nat → ClassId} {A : Nat → Prop} (C : Cx p s m args meth c D dA RX4 cX4_importedFiles 3 (some .int)) {w : Fw} {res : Int32} {K4 : Nat → Int32 → Int32 → Option (Int32)} (hK4 : ∀ {H : Heap} {locs : List Loc} {ls : Array Slot} {a0 : Nat} {x1 : Int32} {x2 : Int32}, Rp D dA A w H → va_S A s.heap H locs → lv_has ls 3 [(0, .ref a0), (1, .int x1), (2, .int x2)] → K4 a0 x1 x2 = some res → W p l e (rz 1 21) s m args below meth c H locs 0 0 (MQ below (QzI D dA A res w) args s 0 0 A) (F0 m 4 ls [])) {H : Heap} {locs : List Loc} {ls : Array Slot} {a0 : Nat} {x1 : Int32} {x2 : Int32} (hR : Rp D dA A w H) (hS : va_S A s.heap H locs) (hl : lv_has ls 3 [(0, .ref a0), (1, .int x1), (2, .int x2)]) (h : fX4_importedFiles_b34 w K4 a0 x1 x2 = some res) : W p l e (rz 1 21) s m args below meth c H locs 0 0 (MQ below (QzI D dA A res w) args s 0 0 A) (F0 m 34 ls []) := by
  obtain ⟨hx, hb, hr, hml, hown, hts, hK, hlocks⟩ := id C
  unfold fX4_importedFiles_b34 at h
  refine lv_iinc (v := (x2 + 1)) (lv' := [(2, .int (x2 + 1)), (0, .ref a0), (1, .int x1)]) hx hb dX4_importedFiles_34 hl (k := 2) rfl rfl (by decide) rfl (fun ls hl => ?_)
  refine lv_goto (tgt := 4) hx hb dX4_importedFiles_37 (by decide) ?_
  exact hK4 hR hS (lv_sub hl [1, 2, 0] rfl) h
def fX4_importedFiles_L4 (w : Fw)  : Nat → Nat → Int32 → Int32 → Option (Int32)
  | 0, _, _, _ => none
  | n + 1, a0, x1, x2 => ((gI w a0 4 0).bind fun v1 => (if v1 ≤ x2 then some x1 else ((isO w a0 4).bind fun _ => ((fX4_kindAt w a0 x2).bind fun v2 => (if v2 = 5 then ((isO w a0 4).bind fun _ => ((fX4_numberAt w a0 x2).bind fun v3 => (fX4_importedFiles_b34 w (fX4_importedFiles_L4 w n) a0 (x1 ||| ((1 : Int32) <<< ((v3 - v3 / 6 * 6) &&& 31))) x2))) else (fX4_importedFiles_b34 w (fX4_importedFiles_L4 w n) a0 x1 x2))))))
set_option maxRecDepth 100000 in
set_option maxHeartbeats 4000000 in
theorem qX4_importedFiles_L4 {p : Program} {l : Launch} {e : Env} {s : State} {m : MethodId} {args : Array Value} {below : List Frame} {meth : Method} {c : Code} {D : va_G} {dA : Nat → ClassId} {A : Nat → Prop} (C : Cx p s m args meth c D dA RX4 cX4_importedFiles 3 (some .int)) {w : Fw} {res : Int32}   : ∀ (n : Nat) {H : Heap} {locs : List Loc} {ls : Array Slot} {a0 : Nat} {x1 : Int32} {x2 : Int32}, Rp D dA A w H → va_S A s.heap H locs → lv_has ls 3 [(0, .ref a0), (1, .int x1), (2, .int x2)] → fX4_importedFiles_L4 w n a0 x1 x2 = some res → W p l e (rz 1 21) s m args below meth c H locs 0 0 (MQ below (QzI D dA A res w) args s 0 0 A) (F0 m 4 ls []) := by
  obtain ⟨hx, hb, hr, hml, hown, hts, hK, hlocks⟩ := id C
  intro n
  induction n with
  | zero =>
    intro H locs ls a0 x1 x2 hR hS hl h
    rw [fX4_importedFiles_L4.eq_1] at h
    cases h
  | succ n ih =>
    intro H locs ls a0 x1 x2 hR hS hl h
    rw [fX4_importedFiles_L4.eq_2] at h
    refine lv_iload_n hx hb dX4_importedFiles_4 rfl (lv_at hl 2 rfl) ?_
    refine lv_aload_n hx hb dX4_importedFiles_5 rfl (lv_at hl 0 rfl) ?_
    obtain ⟨v1, e, h⟩ := bd h
    refine fx_gI hx hb hts hown hK hR fl_X4_28 e dX4_importedFiles_6 ?_
    refine lv_icmp_ge (tgt := 40) hx hb dX4_importedFiles_9 (by decide) (fun c => ?_) (fun c => ?_)
    · have h := it c h
      refine lv_iload_n hx hb dX4_importedFiles_40 rfl (lv_at hl 1 rfl) ?_
      exact fx_iret hx hb hr hlocks (Option.some.inj h) rfl hR hS dX4_importedFiles_41
    · have h := ie c h
      refine lv_aload_n hx hb dX4_importedFiles_12 rfl (lv_at hl 0 rfl) ?_
      refine lv_iload_n hx hb dX4_importedFiles_13 rfl (lv_at hl 2 rfl) ?_
      obtain ⟨_, eO, h⟩ := bd h
      obtain ⟨v2, e, h⟩ := bd h
      refine fx_vI (As := [.int x2]) (rest := []) hx hb hml hts hown hK hR hS eO (mX4_kindAt l D dA A e) my_X4_kindAt mv_X4_kindAt rfl ml_X4_47 rfl hl.1 rfl (Nat.le_of_ble_eq_true rfl) dX4_importedFiles_14 ⟨Nat.le_of_ble_eq_true rfl, Nat.le_of_ble_eq_true rfl⟩ ⟨Nat.le_refl _, Nat.le_refl _⟩ (fun H locs hR hS => ?_)
      refine lv_iconst (v := 5) hx hb dX4_importedFiles_17 (by decide) ?_
      refine lv_icmp_ne (tgt := 34) hx hb dX4_importedFiles_18 (by decide) (fun c => ?_) (fun c => ?_)
      · have h := ie c h
        exact qX4_importedFiles_b34 C (K4 := fX4_importedFiles_L4 w n) (hK4 := @ih) hR hS (lv_sub hl [0, 1, 2] rfl) h
      · have h := it c h
        refine lv_iload_n hx hb dX4_importedFiles_21 rfl (lv_at hl 1 rfl) ?_
        refine lv_iconst (v := 1) hx hb dX4_importedFiles_22 (by decide) ?_
        refine lv_aload_n hx hb dX4_importedFiles_23 rfl (lv_at hl 0 rfl) ?_
        refine lv_iload_n hx hb dX4_importedFiles_24 rfl (lv_at hl 2 rfl) ?_
        obtain ⟨_, eO, h⟩ := bd h
        obtain ⟨v3, e, h⟩ := bd h
        refine fx_vI (As := [.int x2]) (rest := [.int 1, .int x1]) hx hb hml hts hown hK hR hS eO (mX4_numberAt l D dA A e) my_X4_numberAt mv_X4_numberAt rfl ml_X4_50 rfl hl.1 rfl (Nat.le_of_ble_eq_true rfl) dX4_importedFiles_25 ⟨Nat.le_of_ble_eq_true rfl, Nat.le_of_ble_eq_true rfl⟩ ⟨Nat.le_refl _, Nat.le_refl _⟩ (fun H locs hR hS => ?_)
        refine lv_bipush (v := 6) hx hb dX4_importedFiles_28 (by decide) ?_
        refine lv_irem hx hb dX4_importedFiles_30 (by decide) ?_
        refine lv_ishl hx hb dX4_importedFiles_31 ?_
        refine lv_ior hx hb dX4_importedFiles_32 ?_
        refine lv_istore_n (lv' := [(1, .int (x1 ||| ((1 : Int32) <<< ((v3 - v3 / 6 * 6) &&& 31)))), (0, .ref a0), (2, .int x2)]) hx hb dX4_importedFiles_33 rfl hl (by decide) rfl (fun ls hl => ?_)
        exact qX4_importedFiles_b34 C (K4 := fX4_importedFiles_L4 w n) (hK4 := @ih) hR hS (lv_sub hl [1, 0, 2] rfl) h
def fX4_importedFiles (w : Fw) (a0 : Nat) : Option (Int32) := (fX4_importedFiles_L4 w 1000 a0 0 0)
set_option maxRecDepth 100000 in
set_option maxHeartbeats 4000000 in
theorem mX4_importedFiles (l : Launch) (D : va_G) (dA : Nat → ClassId) (A : Nat → Prop) {w : Fw} {a0 : Nat} {res : Int32} (h : fX4_importedFiles w a0 = some res) : Met l yX4_importedFiles (wz yX4_importedFiles cX4_importedFiles 3 (some .int)) (rz 1 21) (Pz D dA A w [.ref a0]) (QzI D dA A res w) 0 0 A := by
  refine Met.ofW (cc := cX4_importedFiles) (maxL := 3) (ret := (some .int)) (by decide) rfl ?_
  intro p e s m args below meth c s₁ B hml hv
  obtain ⟨rfl, hR, hK⟩ := hv
  have hx := B.exec
  have hb := B.bytes
  have hr := B.returns
  have hts : ∀ w ∈ lw_g, w.before [.ref a0].toArray s = true := fun w hw => atoms_spec (ws := wz yX4_importedFiles cX4_importedFiles 3 (some .int)) B.pre w (List.mem_cons_of_mem _ hw)
  have hown : s.vm.findClass RX4 = some m.cls := findClass_of_methodNamed B.named
  have hlocks := B.notSynchronized
  have C : Cx p s m [.ref a0].toArray meth c D dA RX4 cX4_importedFiles 3 (some .int) := ⟨hx, hb, hr, hml, hown, hts, hK, hlocks⟩
  have hS : va_S A s.heap s.heap [] := va_S.rf
  have hl := lv_entry ([.ref a0]) (n := 3) (Nat.le_of_ble_eq_true rfl)
  rw [lg_entry_eq]
  generalize (lg_sl ([.ref a0]) ++ List.replicate (3 - (lg_sl ([.ref a0])).length) Slot.unset).toArray = ls at hl ⊢
  have hl : lv_has ls 3 [(0, .ref a0)] := hl
  unfold fX4_importedFiles at h
  show W p l e (rz 1 21) s m _ below meth c s.heap [] 0 0 _ _
  refine lv_iconst (v := 0) hx hb dX4_importedFiles_0 (by decide) ?_
  refine lv_istore_n (lv' := [(1, .int 0), (0, .ref a0)]) hx hb dX4_importedFiles_1 rfl hl (by decide) rfl (fun ls hl => ?_)
  refine lv_iconst (v := 0) hx hb dX4_importedFiles_2 (by decide) ?_
  refine lv_istore_n (lv' := [(2, .int 0), (1, .int 0), (0, .ref a0)]) hx hb dX4_importedFiles_3 rfl hl (by decide) rfl (fun ls hl => ?_)
  exact qX4_importedFiles_L4 C   1000 hR hS (lv_sub hl [2, 1, 0] rfl) h
def fX6_has_b14 (w : Fw)  (s0 : Int32) : Option (Int32) := zb s0
set_option maxRecDepth 100000 in
set_option maxHeartbeats 4000000 in
theorem qX6_has_b14 {p : Program} {l : Launch} {e : Env} {s : State} {m : MethodId} {args : Array Value} {below : List Frame} {meth : Method} {c : Code} {D : va_G} {dA : Nat → ClassId} {A : Nat → Prop} (C : Cx p s m args meth c D dA RX6 cX6_has 2 (some .boolean)) {w : Fw} {res : Int32}   {H : Heap} {locs : List Loc} {ls : Array Slot} {s0 : Int32} (hR : Rp D dA A w H) (hS : va_S A s.heap H locs) (hl : lv_has ls 2 []) (h : fX6_has_b14 w s0 = some res) : W p l e (rz 0 0) s m args below meth c H locs 0 0 (MQ below (QzI D dA A res w) args s 0 0 A) (F0 m 14 ls [.int s0]) := by
  obtain ⟨hx, hb, hr, hml, hown, hts, hK, hlocks⟩ := id C
  unfold fX6_has_b14 at h
  exact fx_zret hx hb hr hlocks h rfl hR hS dX6_has_14
def fX6_has (w : Fw) (x0 : Int32) (x1 : Int32) : Option (Int32) := if (((Int32.toUInt32 x0 >>> (Int32.toUInt32 x1 &&& Int32.toUInt32 31)).toInt32) &&& 1) = 1 then (fX6_has_b14 w 1) else (fX6_has_b14 w 0)
set_option maxRecDepth 100000 in
set_option maxHeartbeats 4000000 in
theorem mX6_has (l : Launch) (D : va_G) (dA : Nat → ClassId) (A : Nat → Prop) {w : Fw} {x0 : Int32} {x1 : Int32} {res : Int32} (h : fX6_has w x0 x1 = some res) : Met l yX6_has (wz yX6_has cX6_has 2 (some .boolean)) (rz 0 0) (Pz D dA A w [.int x0, .int x1]) (QzI D dA A res w) 0 0 A := by
  refine Met.ofW (cc := cX6_has) (maxL := 2) (ret := (some .boolean)) (by decide) rfl ?_
  intro p e s m args below meth c s₁ B hml hv
  obtain ⟨rfl, hR, hK⟩ := hv
  have hx := B.exec
  have hb := B.bytes
  have hr := B.returns
  have hts : ∀ w ∈ lw_g, w.before [.int x0, .int x1].toArray s = true := fun w hw => atoms_spec (ws := wz yX6_has cX6_has 2 (some .boolean)) B.pre w (List.mem_cons_of_mem _ hw)
  have hown : s.vm.findClass RX6 = some m.cls := findClass_of_methodNamed B.named
  have hlocks := B.notSynchronized
  have C : Cx p s m [.int x0, .int x1].toArray meth c D dA RX6 cX6_has 2 (some .boolean) := ⟨hx, hb, hr, hml, hown, hts, hK, hlocks⟩
  have hS : va_S A s.heap s.heap [] := va_S.rf
  have hl := lv_entry ([.int x0, .int x1]) (n := 2) (Nat.le_of_ble_eq_true rfl)
  rw [lg_entry_eq]
  generalize (lg_sl ([.int x0, .int x1]) ++ List.replicate (2 - (lg_sl ([.int x0, .int x1])).length) Slot.unset).toArray = ls at hl ⊢
  have hl : lv_has ls 2 [(0, .int x0), (1, .int x1)] := hl
  unfold fX6_has at h
  show W p l e (rz 0 0) s m _ below meth c s.heap [] 0 0 _ _
  refine lv_iload_n hx hb dX6_has_0 rfl (lv_at hl 0 rfl) ?_
  refine lv_iload_n hx hb dX6_has_1 rfl (lv_at hl 1 rfl) ?_
  refine lv_iushr (v := (Int32.toUInt32 x0 >>> (Int32.toUInt32 x1 &&& Int32.toUInt32 31)).toInt32) hx hb dX6_has_2 rfl ?_
  refine lv_iconst (v := 1) hx hb dX6_has_3 (by decide) ?_
  refine lv_iand hx hb dX6_has_4 ?_
  refine lv_iconst (v := 1) hx hb dX6_has_5 (by decide) ?_
  refine lv_icmp_ne (tgt := 13) hx hb dX6_has_6 (by decide) (fun c => ?_) (fun c => ?_)
  · have h := ie c h
    refine lv_iconst (v := 0) hx hb dX6_has_13 (by decide) ?_
    exact qX6_has_b14 C   hR hS (lv_sub hl [] rfl) h
  · have h := it c h
    refine lv_iconst (v := 1) hx hb dX6_has_9 (by decide) ?_
    refine lv_goto (tgt := 14) hx hb dX6_has_10 (by decide) ?_
    exact qX6_has_b14 C   hR hS (lv_sub hl [] rfl) h
def fX4_size (w : Fw) (a0 : Nat) : Option (Int32) := ((gI w a0 4 0).bind fun v1 => some v1)
set_option maxRecDepth 100000 in
set_option maxHeartbeats 4000000 in
theorem mX4_size (l : Launch) (D : va_G) (dA : Nat → ClassId) (A : Nat → Prop) {w : Fw} {a0 : Nat} {res : Int32} (h : fX4_size w a0 = some res) : Met l yX4_size (wz yX4_size cX4_size 1 (some .int)) (rz 0 0) (Pz D dA A w [.ref a0]) (QzI D dA A res w) 0 0 A := by
  refine Met.ofW (cc := cX4_size) (maxL := 1) (ret := (some .int)) (by decide) rfl ?_
  intro p e s m args below meth c s₁ B hml hv
  obtain ⟨rfl, hR, hK⟩ := hv
  have hx := B.exec
  have hb := B.bytes
  have hr := B.returns
  have hts : ∀ w ∈ lw_g, w.before [.ref a0].toArray s = true := fun w hw => atoms_spec (ws := wz yX4_size cX4_size 1 (some .int)) B.pre w (List.mem_cons_of_mem _ hw)
  have hown : s.vm.findClass RX4 = some m.cls := findClass_of_methodNamed B.named
  have hlocks := B.notSynchronized
  have C : Cx p s m [.ref a0].toArray meth c D dA RX4 cX4_size 1 (some .int) := ⟨hx, hb, hr, hml, hown, hts, hK, hlocks⟩
  have hS : va_S A s.heap s.heap [] := va_S.rf
  have hl := lv_entry ([.ref a0]) (n := 1) (Nat.le_of_ble_eq_true rfl)
  rw [lg_entry_eq]
  generalize (lg_sl ([.ref a0]) ++ List.replicate (1 - (lg_sl ([.ref a0])).length) Slot.unset).toArray = ls at hl ⊢
  have hl : lv_has ls 1 [(0, .ref a0)] := hl
  unfold fX4_size at h
  show W p l e (rz 0 0) s m _ below meth c s.heap [] 0 0 _ _
  refine lv_aload_n hx hb dX4_size_0 rfl (lv_at hl 0 rfl) ?_
  obtain ⟨v1, e, h⟩ := bd h
  refine fx_gI hx hb hts hown hK hR fl_X4_28 e dX4_size_1 ?_
  exact fx_iret hx hb hr hlocks (Option.some.inj h) rfl hR hS dX4_size_4
def fX0_linesWith_b44 (w : Fw) (K5 : Nat → Int32 → Int32 → Int32 → Int32 → Option (Int32)) (a0 : Nat) (x1 : Int32) (x2 : Int32) (x3 : Int32) (x4 : Int32) : Option (Int32) := (K5 a0 x1 x2 x3 (x4 + 1))
set_option maxRecDepth 100000 in
set_option maxHeartbeats 4000000 in
theorem qX0_linesWith_b44 {p : Program} {l : Launch} {e : Env} {s : State} {m : MethodId} {args : Array Value} {below : List Frame} {meth : Method} {c : Code} {D : va_G} {dA : Nat → ClassId} {A : Nat → Prop} (C : Cx p s m args meth c D dA RX0 cX0_linesWith 5 (some .int)) {w : Fw} {res : Int32} {K5 : Nat → Int32 → Int32 → Int32 → Int32 → Option (Int32)} (hK5 : ∀ {H : Heap} {locs : List Loc} {ls : Array Slot} {a0 : Nat} {x1 : Int32} {x2 : Int32} {x3 : Int32} {x4 : Int32}, Rp D dA A w H → va_S A s.heap H locs → lv_has ls 5 [(0, .ref a0), (1, .int x1), (2, .int x2), (3, .int x3), (4, .int x4)] → K5 a0 x1 x2 x3 x4 = some res → W p l e (rz 1 21) s m args below meth c H locs 0 0 (MQ below (QzI D dA A res w) args s 0 0 A) (F0 m 5 ls [])) {H : Heap} {locs : List Loc} {ls : Array Slot} {a0 : Nat} {x1 : Int32} {x2 : Int32} {x3 : Int32} {x4 : Int32} (hR : Rp D dA A w H) (hS : va_S A s.heap H locs) (hl : lv_has ls 5 [(0, .ref a0), (1, .int x1), (2, .int x2), (3, .int x3), (4, .int x4)]) (h : fX0_linesWith_b44 w K5 a0 x1 x2 x3 x4 = some res) : W p l e (rz 1 21) s m args below meth c H locs 0 0 (MQ below (QzI D dA A res w) args s 0 0 A) (F0 m 44 ls []) := by
  obtain ⟨hx, hb, hr, hml, hown, hts, hK, hlocks⟩ := id C
  unfold fX0_linesWith_b44 at h
  refine lv_iinc (v := (x4 + 1)) (lv' := [(4, .int (x4 + 1)), (0, .ref a0), (1, .int x1), (2, .int x2), (3, .int x3)]) hx hb dX0_linesWith_44 hl (k := 4) rfl rfl (by decide) rfl (fun ls hl => ?_)
  refine lv_goto (tgt := 5) hx hb dX0_linesWith_47 (by decide) ?_
  exact hK5 hR hS (lv_sub hl [1, 2, 3, 4, 0] rfl) h
def fX0_linesWith_L5 (w : Fw)  : Nat → Nat → Int32 → Int32 → Int32 → Int32 → Option (Int32)
  | 0, _, _, _, _, _ => none
  | n + 1, a0, x1, x2, x3, x4 => ((isO w a0 4).bind fun _ => ((fX4_size w a0).bind fun v1 => (if v1 ≤ x4 then some x3 else ((isO w a0 4).bind fun _ => ((fX4_kindAt w a0 x4).bind fun v2 => (if v2 = x1 then ((isO w a0 4).bind fun _ => ((fX4_numberAt w a0 x4).bind fun v3 => ((fX6_has w x2 v3).bind fun v4 => (if v4 = 0 then (fX0_linesWith_b44 w (fX0_linesWith_L5 w n) a0 x1 x2 x3 x4) else (fX0_linesWith_b44 w (fX0_linesWith_L5 w n) a0 x1 x2 (x3 ||| ((1 : Int32) <<< (x4 &&& 31))) x4))))) else (fX0_linesWith_b44 w (fX0_linesWith_L5 w n) a0 x1 x2 x3 x4)))))))
set_option maxRecDepth 100000 in
set_option maxHeartbeats 4000000 in
theorem qX0_linesWith_L5 {p : Program} {l : Launch} {e : Env} {s : State} {m : MethodId} {args : Array Value} {below : List Frame} {meth : Method} {c : Code} {D : va_G} {dA : Nat → ClassId} {A : Nat → Prop} (C : Cx p s m args meth c D dA RX0 cX0_linesWith 5 (some .int)) {w : Fw} {res : Int32}   : ∀ (n : Nat) {H : Heap} {locs : List Loc} {ls : Array Slot} {a0 : Nat} {x1 : Int32} {x2 : Int32} {x3 : Int32} {x4 : Int32}, Rp D dA A w H → va_S A s.heap H locs → lv_has ls 5 [(0, .ref a0), (1, .int x1), (2, .int x2), (3, .int x3), (4, .int x4)] → fX0_linesWith_L5 w n a0 x1 x2 x3 x4 = some res → W p l e (rz 1 21) s m args below meth c H locs 0 0 (MQ below (QzI D dA A res w) args s 0 0 A) (F0 m 5 ls []) := by
  obtain ⟨hx, hb, hr, hml, hown, hts, hK, hlocks⟩ := id C
  intro n
  induction n with
  | zero =>
    intro H locs ls a0 x1 x2 x3 x4 hR hS hl h
    rw [fX0_linesWith_L5.eq_1] at h
    cases h
  | succ n ih =>
    intro H locs ls a0 x1 x2 x3 x4 hR hS hl h
    rw [fX0_linesWith_L5.eq_2] at h
    refine lv_iload hx hb dX0_linesWith_5 (lv_at hl 4 rfl) ?_
    refine lv_aload_n hx hb dX0_linesWith_7 rfl (lv_at hl 0 rfl) ?_
    obtain ⟨_, eO, h⟩ := bd h
    obtain ⟨v1, e, h⟩ := bd h
    refine fx_vI (As := []) (rest := [.int x4]) hx hb hml hts hown hK hR hS eO (mX4_size l D dA A e) my_X4_size mv_X4_size rfl ml_X0_47 rfl hl.1 rfl (Nat.le_of_ble_eq_true rfl) dX0_linesWith_8 ⟨Nat.le_of_ble_eq_true rfl, Nat.le_of_ble_eq_true rfl⟩ ⟨Nat.le_refl _, Nat.le_refl _⟩ (fun H locs hR hS => ?_)
    refine lv_icmp_ge (tgt := 50) hx hb dX0_linesWith_11 (by decide) (fun c => ?_) (fun c => ?_)
    · have h := it c h
      refine lv_iload_n hx hb dX0_linesWith_50 rfl (lv_at hl 3 rfl) ?_
      exact fx_iret hx hb hr hlocks (Option.some.inj h) rfl hR hS dX0_linesWith_51
    · have h := ie c h
      refine lv_aload_n hx hb dX0_linesWith_14 rfl (lv_at hl 0 rfl) ?_
      refine lv_iload hx hb dX0_linesWith_15 (lv_at hl 4 rfl) ?_
      obtain ⟨_, eO, h⟩ := bd h
      obtain ⟨v2, e, h⟩ := bd h
      refine fx_vI (As := [.int x4]) (rest := []) hx hb hml hts hown hK hR hS eO (mX4_kindAt l D dA A e) my_X4_kindAt mv_X4_kindAt rfl ml_X0_50 rfl hl.1 rfl (Nat.le_of_ble_eq_true rfl) dX0_linesWith_17 ⟨Nat.le_of_ble_eq_true rfl, Nat.le_of_ble_eq_true rfl⟩ ⟨Nat.le_refl _, Nat.le_refl _⟩ (fun H locs hR hS => ?_)
      refine lv_iload_n hx hb dX0_linesWith_20 rfl (lv_at hl 1 rfl) ?_
      refine lv_icmp_ne (tgt := 44) hx hb dX0_linesWith_21 (by decide) (fun c => ?_) (fun c => ?_)
      · have h := ie c h
        exact qX0_linesWith_b44 C (K5 := fX0_linesWith_L5 w n) (hK5 := @ih) hR hS (lv_sub hl [0, 1, 2, 3, 4] rfl) h
      · have h := it c h
        refine lv_iload_n hx hb dX0_linesWith_24 rfl (lv_at hl 2 rfl) ?_
        refine lv_aload_n hx hb dX0_linesWith_25 rfl (lv_at hl 0 rfl) ?_
        refine lv_iload hx hb dX0_linesWith_26 (lv_at hl 4 rfl) ?_
        obtain ⟨_, eO, h⟩ := bd h
        obtain ⟨v3, e, h⟩ := bd h
        refine fx_vI (As := [.int x4]) (rest := [.int x2]) hx hb hml hts hown hK hR hS eO (mX4_numberAt l D dA A e) my_X4_numberAt mv_X4_numberAt rfl ml_X0_53 rfl hl.1 rfl (Nat.le_of_ble_eq_true rfl) dX0_linesWith_28 ⟨Nat.le_of_ble_eq_true rfl, Nat.le_of_ble_eq_true rfl⟩ ⟨Nat.le_refl _, Nat.le_refl _⟩ (fun H locs hR hS => ?_)
        obtain ⟨v4, e, h⟩ := bd h
        refine fx_sN (As := [.int x2, .int v3]) (rest := []) hx hb hml hts hown hK hR hS (mX6_has l D dA A e) my_X6_has ms_X6_has hK.2.1 rfl hl.1 rfl (Nat.le_of_ble_eq_true rfl) dX0_linesWith_31 ⟨Nat.le_of_ble_eq_true rfl, Nat.le_of_ble_eq_true rfl⟩ ⟨Nat.le_refl _, Nat.le_refl _⟩ (fun H locs hR hS => ?_)
        refine lv_if_eq (tgt := 44) hx hb dX0_linesWith_34 (by decide) (fun c => ?_) (fun c => ?_)
        · have h := it c h
          exact qX0_linesWith_b44 C (K5 := fX0_linesWith_L5 w n) (hK5 := @ih) hR hS (lv_sub hl [0, 1, 2, 3, 4] rfl) h
        · have h := ie c h
          refine lv_iload_n hx hb dX0_linesWith_37 rfl (lv_at hl 3 rfl) ?_
          refine lv_iconst (v := 1) hx hb dX0_linesWith_38 (by decide) ?_
          refine lv_iload hx hb dX0_linesWith_39 (lv_at hl 4 rfl) ?_
          refine lv_ishl hx hb dX0_linesWith_41 ?_
          refine lv_ior hx hb dX0_linesWith_42 ?_
          refine lv_istore_n (lv' := [(3, .int (x3 ||| ((1 : Int32) <<< (x4 &&& 31)))), (0, .ref a0), (1, .int x1), (2, .int x2), (4, .int x4)]) hx hb dX0_linesWith_43 rfl hl (by decide) rfl (fun ls hl => ?_)
          exact qX0_linesWith_b44 C (K5 := fX0_linesWith_L5 w n) (hK5 := @ih) hR hS (lv_sub hl [1, 2, 3, 0, 4] rfl) h
def fX0_linesWith (w : Fw) (a0 : Nat) (x1 : Int32) (x2 : Int32) : Option (Int32) := (fX0_linesWith_L5 w 1000 a0 x1 x2 0 0)
set_option maxRecDepth 100000 in
set_option maxHeartbeats 4000000 in
theorem mX0_linesWith (l : Launch) (D : va_G) (dA : Nat → ClassId) (A : Nat → Prop) {w : Fw} {a0 : Nat} {x1 : Int32} {x2 : Int32} {res : Int32} (h : fX0_linesWith w a0 x1 x2 = some res) : Met l yX0_linesWith (wz yX0_linesWith cX0_linesWith 5 (some .int)) (rz 1 21) (Pz D dA A w [.ref a0, .int x1, .int x2]) (QzI D dA A res w) 0 0 A := by
  refine Met.ofW (cc := cX0_linesWith) (maxL := 5) (ret := (some .int)) (by decide) rfl ?_
  intro p e s m args below meth c s₁ B hml hv
  obtain ⟨rfl, hR, hK⟩ := hv
  have hx := B.exec
  have hb := B.bytes
  have hr := B.returns
  have hts : ∀ w ∈ lw_g, w.before [.ref a0, .int x1, .int x2].toArray s = true := fun w hw => atoms_spec (ws := wz yX0_linesWith cX0_linesWith 5 (some .int)) B.pre w (List.mem_cons_of_mem _ hw)
  have hown : s.vm.findClass RX0 = some m.cls := findClass_of_methodNamed B.named
  have hlocks := B.notSynchronized
  have C : Cx p s m [.ref a0, .int x1, .int x2].toArray meth c D dA RX0 cX0_linesWith 5 (some .int) := ⟨hx, hb, hr, hml, hown, hts, hK, hlocks⟩
  have hS : va_S A s.heap s.heap [] := va_S.rf
  have hl := lv_entry ([.ref a0, .int x1, .int x2]) (n := 5) (Nat.le_of_ble_eq_true rfl)
  rw [lg_entry_eq]
  generalize (lg_sl ([.ref a0, .int x1, .int x2]) ++ List.replicate (5 - (lg_sl ([.ref a0, .int x1, .int x2])).length) Slot.unset).toArray = ls at hl ⊢
  have hl : lv_has ls 5 [(0, .ref a0), (1, .int x1), (2, .int x2)] := hl
  unfold fX0_linesWith at h
  show W p l e (rz 1 21) s m _ below meth c s.heap [] 0 0 _ _
  refine lv_iconst (v := 0) hx hb dX0_linesWith_0 (by decide) ?_
  refine lv_istore_n (lv' := [(3, .int 0), (0, .ref a0), (1, .int x1), (2, .int x2)]) hx hb dX0_linesWith_1 rfl hl (by decide) rfl (fun ls hl => ?_)
  refine lv_iconst (v := 0) hx hb dX0_linesWith_2 (by decide) ?_
  refine lv_istore (lv' := [(4, .int 0), (3, .int 0), (0, .ref a0), (1, .int x1), (2, .int x2)]) hx hb dX0_linesWith_3 hl (by decide) rfl (fun ls hl => ?_)
  exact qX0_linesWith_L5 C   1000 hR hS (lv_sub hl [2, 3, 4, 1, 0] rfl) h
def fX0_repeatedDefs_b52 (w : Fw) (K6 : Nat → Int32 → Int32 → Int32 → Option (Int32)) (a0 : Nat) (x1 : Int32) (x2 : Int32) (x3 : Int32) : Option (Int32) := (K6 a0 x1 x2 (x3 + 1))
set_option maxRecDepth 100000 in
set_option maxHeartbeats 4000000 in
theorem qX0_repeatedDefs_b52 {p : Program} {l : Launch} {e : Env} {s : State} {m : MethodId} {args : Array Value} {below : List Frame} {meth : Method} {c : Code} {D : va_G} {dA : Nat → ClassId} {A : Nat → Prop} (C : Cx p s m args meth c D dA RX0 cX0_repeatedDefs 5 (some .int)) {w : Fw} {res : Int32} {K6 : Nat → Int32 → Int32 → Int32 → Option (Int32)} (hK6 : ∀ {H : Heap} {locs : List Loc} {ls : Array Slot} {a0 : Nat} {x1 : Int32} {x2 : Int32} {x3 : Int32}, Rp D dA A w H → va_S A s.heap H locs → lv_has ls 5 [(0, .ref a0), (1, .int x1), (2, .int x2), (3, .int x3)] → K6 a0 x1 x2 x3 = some res → W p l e (rz 1 21) s m args below meth c H locs 0 0 (MQ below (QzI D dA A res w) args s 0 0 A) (F0 m 6 ls [])) {H : Heap} {locs : List Loc} {ls : Array Slot} {a0 : Nat} {x1 : Int32} {x2 : Int32} {x3 : Int32} (hR : Rp D dA A w H) (hS : va_S A s.heap H locs) (hl : lv_has ls 5 [(0, .ref a0), (1, .int x1), (2, .int x2), (3, .int x3)]) (h : fX0_repeatedDefs_b52 w K6 a0 x1 x2 x3 = some res) : W p l e (rz 1 21) s m args below meth c H locs 0 0 (MQ below (QzI D dA A res w) args s 0 0 A) (F0 m 52 ls []) := by
  obtain ⟨hx, hb, hr, hml, hown, hts, hK, hlocks⟩ := id C
  unfold fX0_repeatedDefs_b52 at h
  refine lv_iinc (v := (x3 + 1)) (lv' := [(3, .int (x3 + 1)), (0, .ref a0), (1, .int x1), (2, .int x2)]) hx hb dX0_repeatedDefs_52 hl (k := 3) rfl rfl (by decide) rfl (fun ls hl => ?_)
  refine lv_goto (tgt := 6) hx hb dX0_repeatedDefs_55 (by decide) ?_
  exact hK6 hR hS (lv_sub hl [1, 2, 3, 0] rfl) h
def fX0_repeatedDefs_b45 (w : Fw) (K6 : Nat → Int32 → Int32 → Int32 → Option (Int32)) (a0 : Nat) (x1 : Int32) (x2 : Int32) (x3 : Int32) (x4 : Int32) : Option (Int32) := (fX0_repeatedDefs_b52 w K6 a0 x1 (x2 ||| ((1 : Int32) <<< (x4 &&& 31))) x3)
set_option maxRecDepth 100000 in
set_option maxHeartbeats 4000000 in
theorem qX0_repeatedDefs_b45 {p : Program} {l : Launch} {e : Env} {s : State} {m : MethodId} {args : Array Value} {below : List Frame} {meth : Method} {c : Code} {D : va_G} {dA : Nat → ClassId} {A : Nat → Prop} (C : Cx p s m args meth c D dA RX0 cX0_repeatedDefs 5 (some .int)) {w : Fw} {res : Int32} {K6 : Nat → Int32 → Int32 → Int32 → Option (Int32)} (hK6 : ∀ {H : Heap} {locs : List Loc} {ls : Array Slot} {a0 : Nat} {x1 : Int32} {x2 : Int32} {x3 : Int32}, Rp D dA A w H → va_S A s.heap H locs → lv_has ls 5 [(0, .ref a0), (1, .int x1), (2, .int x2), (3, .int x3)] → K6 a0 x1 x2 x3 = some res → W p l e (rz 1 21) s m args below meth c H locs 0 0 (MQ below (QzI D dA A res w) args s 0 0 A) (F0 m 6 ls [])) {H : Heap} {locs : List Loc} {ls : Array Slot} {a0 : Nat} {x1 : Int32} {x2 : Int32} {x3 : Int32} {x4 : Int32} (hR : Rp D dA A w H) (hS : va_S A s.heap H locs) (hl : lv_has ls 5 [(0, .ref a0), (1, .int x1), (2, .int x2), (3, .int x3), (4, .int x4)]) (h : fX0_repeatedDefs_b45 w K6 a0 x1 x2 x3 x4 = some res) : W p l e (rz 1 21) s m args below meth c H locs 0 0 (MQ below (QzI D dA A res w) args s 0 0 A) (F0 m 45 ls []) := by
  obtain ⟨hx, hb, hr, hml, hown, hts, hK, hlocks⟩ := id C
  unfold fX0_repeatedDefs_b45 at h
  refine lv_iload_n hx hb dX0_repeatedDefs_45 rfl (lv_at hl 2 rfl) ?_
  refine lv_iconst (v := 1) hx hb dX0_repeatedDefs_46 (by decide) ?_
  refine lv_iload hx hb dX0_repeatedDefs_47 (lv_at hl 4 rfl) ?_
  refine lv_ishl hx hb dX0_repeatedDefs_49 ?_
  refine lv_ior hx hb dX0_repeatedDefs_50 ?_
  refine lv_istore_n (lv' := [(2, .int (x2 ||| ((1 : Int32) <<< (x4 &&& 31)))), (0, .ref a0), (1, .int x1), (3, .int x3), (4, .int x4)]) hx hb dX0_repeatedDefs_51 rfl hl (by decide) rfl (fun ls hl => ?_)
  exact qX0_repeatedDefs_b52 C (K6 := K6) (hK6 := @hK6) hR hS (lv_sub hl [1, 2, 0, 3] rfl) h
def fX0_repeatedDefs_L6 (w : Fw)  : Nat → Nat → Int32 → Int32 → Int32 → Option (Int32)
  | 0, _, _, _, _ => none
  | n + 1, a0, x1, x2, x3 => ((isO w a0 4).bind fun _ => ((fX4_size w a0).bind fun v1 => (if v1 ≤ x3 then some x1 else ((isO w a0 4).bind fun _ => ((fX4_kindAt w a0 x3).bind fun v2 => (if v2 = 1 then ((isO w a0 4).bind fun _ => ((fX4_numberAt w a0 x3).bind fun v3 => ((fX6_has w x2 v3).bind fun v4 => (if v4 = 0 then (fX0_repeatedDefs_b45 w (fX0_repeatedDefs_L6 w n) a0 x1 x2 x3 v3) else (fX0_repeatedDefs_b45 w (fX0_repeatedDefs_L6 w n) a0 (x1 ||| ((1 : Int32) <<< (x3 &&& 31))) x2 x3 v3))))) else (fX0_repeatedDefs_b52 w (fX0_repeatedDefs_L6 w n) a0 x1 x2 x3)))))))
set_option maxRecDepth 100000 in
set_option maxHeartbeats 4000000 in
theorem qX0_repeatedDefs_L6 {p : Program} {l : Launch} {e : Env} {s : State} {m : MethodId} {args : Array Value} {below : List Frame} {meth : Method} {c : Code} {D : va_G} {dA : Nat → ClassId} {A : Nat → Prop} (C : Cx p s m args meth c D dA RX0 cX0_repeatedDefs 5 (some .int)) {w : Fw} {res : Int32}   : ∀ (n : Nat) {H : Heap} {locs : List Loc} {ls : Array Slot} {a0 : Nat} {x1 : Int32} {x2 : Int32} {x3 : Int32}, Rp D dA A w H → va_S A s.heap H locs → lv_has ls 5 [(0, .ref a0), (1, .int x1), (2, .int x2), (3, .int x3)] → fX0_repeatedDefs_L6 w n a0 x1 x2 x3 = some res → W p l e (rz 1 21) s m args below meth c H locs 0 0 (MQ below (QzI D dA A res w) args s 0 0 A) (F0 m 6 ls []) := by
  obtain ⟨hx, hb, hr, hml, hown, hts, hK, hlocks⟩ := id C
  intro n
  induction n with
  | zero =>
    intro H locs ls a0 x1 x2 x3 hR hS hl h
    rw [fX0_repeatedDefs_L6.eq_1] at h
    cases h
  | succ n ih =>
    intro H locs ls a0 x1 x2 x3 hR hS hl h
    rw [fX0_repeatedDefs_L6.eq_2] at h
    refine lv_iload_n hx hb dX0_repeatedDefs_6 rfl (lv_at hl 3 rfl) ?_
    refine lv_aload_n hx hb dX0_repeatedDefs_7 rfl (lv_at hl 0 rfl) ?_
    obtain ⟨_, eO, h⟩ := bd h
    obtain ⟨v1, e, h⟩ := bd h
    refine fx_vI (As := []) (rest := [.int x3]) hx hb hml hts hown hK hR hS eO (mX4_size l D dA A e) my_X4_size mv_X4_size rfl ml_X0_47 rfl hl.1 rfl (Nat.le_of_ble_eq_true rfl) dX0_repeatedDefs_8 ⟨Nat.le_of_ble_eq_true rfl, Nat.le_of_ble_eq_true rfl⟩ ⟨Nat.le_refl _, Nat.le_refl _⟩ (fun H locs hR hS => ?_)
    refine lv_icmp_ge (tgt := 58) hx hb dX0_repeatedDefs_11 (by decide) (fun c => ?_) (fun c => ?_)
    · have h := it c h
      refine lv_iload_n hx hb dX0_repeatedDefs_58 rfl (lv_at hl 1 rfl) ?_
      exact fx_iret hx hb hr hlocks (Option.some.inj h) rfl hR hS dX0_repeatedDefs_59
    · have h := ie c h
      refine lv_aload_n hx hb dX0_repeatedDefs_14 rfl (lv_at hl 0 rfl) ?_
      refine lv_iload_n hx hb dX0_repeatedDefs_15 rfl (lv_at hl 3 rfl) ?_
      obtain ⟨_, eO, h⟩ := bd h
      obtain ⟨v2, e, h⟩ := bd h
      refine fx_vI (As := [.int x3]) (rest := []) hx hb hml hts hown hK hR hS eO (mX4_kindAt l D dA A e) my_X4_kindAt mv_X4_kindAt rfl ml_X0_50 rfl hl.1 rfl (Nat.le_of_ble_eq_true rfl) dX0_repeatedDefs_16 ⟨Nat.le_of_ble_eq_true rfl, Nat.le_of_ble_eq_true rfl⟩ ⟨Nat.le_refl _, Nat.le_refl _⟩ (fun H locs hR hS => ?_)
      refine lv_iconst (v := 1) hx hb dX0_repeatedDefs_19 (by decide) ?_
      refine lv_icmp_ne (tgt := 52) hx hb dX0_repeatedDefs_20 (by decide) (fun c => ?_) (fun c => ?_)
      · have h := ie c h
        exact qX0_repeatedDefs_b52 C (K6 := fX0_repeatedDefs_L6 w n) (hK6 := @ih) hR hS (lv_sub hl [0, 1, 2, 3] rfl) h
      · have h := it c h
        refine lv_aload_n hx hb dX0_repeatedDefs_23 rfl (lv_at hl 0 rfl) ?_
        refine lv_iload_n hx hb dX0_repeatedDefs_24 rfl (lv_at hl 3 rfl) ?_
        obtain ⟨_, eO, h⟩ := bd h
        obtain ⟨v3, e, h⟩ := bd h
        refine fx_vI (As := [.int x3]) (rest := []) hx hb hml hts hown hK hR hS eO (mX4_numberAt l D dA A e) my_X4_numberAt mv_X4_numberAt rfl ml_X0_53 rfl hl.1 rfl (Nat.le_of_ble_eq_true rfl) dX0_repeatedDefs_25 ⟨Nat.le_of_ble_eq_true rfl, Nat.le_of_ble_eq_true rfl⟩ ⟨Nat.le_refl _, Nat.le_refl _⟩ (fun H locs hR hS => ?_)
        refine lv_istore (lv' := [(4, .int v3), (0, .ref a0), (1, .int x1), (2, .int x2), (3, .int x3)]) hx hb dX0_repeatedDefs_28 hl (by decide) rfl (fun ls hl => ?_)
        refine lv_iload_n hx hb dX0_repeatedDefs_30 rfl (lv_at hl 3 rfl) ?_
        refine lv_iload hx hb dX0_repeatedDefs_31 (lv_at hl 0 rfl) ?_
        obtain ⟨v4, e, h⟩ := bd h
        refine fx_sN (As := [.int x2, .int v3]) (rest := []) hx hb hml hts hown hK hR hS (mX6_has l D dA A e) my_X6_has ms_X6_has hK.2.1 rfl hl.1 rfl (Nat.le_of_ble_eq_true rfl) dX0_repeatedDefs_33 ⟨Nat.le_of_ble_eq_true rfl, Nat.le_of_ble_eq_true rfl⟩ ⟨Nat.le_refl _, Nat.le_refl _⟩ (fun H locs hR hS => ?_)
        refine lv_if_eq (tgt := 45) hx hb dX0_repeatedDefs_36 (by decide) (fun c => ?_) (fun c => ?_)
        · have h := it c h
          exact qX0_repeatedDefs_b45 C (K6 := fX0_repeatedDefs_L6 w n) (hK6 := @ih) hR hS (lv_sub hl [1, 2, 3, 4, 0] rfl) h
        · have h := ie c h
          refine lv_iload_n hx hb dX0_repeatedDefs_39 rfl (lv_at hl 2 rfl) ?_
          refine lv_iconst (v := 1) hx hb dX0_repeatedDefs_40 (by decide) ?_
          refine lv_iload_n hx hb dX0_repeatedDefs_41 rfl (lv_at hl 4 rfl) ?_
          refine lv_ishl hx hb dX0_repeatedDefs_42 ?_
          refine lv_ior hx hb dX0_repeatedDefs_43 ?_
          refine lv_istore_n (lv' := [(1, .int (x1 ||| ((1 : Int32) <<< (x3 &&& 31)))), (4, .int v3), (0, .ref a0), (2, .int x2), (3, .int x3)]) hx hb dX0_repeatedDefs_44 rfl hl (by decide) rfl (fun ls hl => ?_)
          exact qX0_repeatedDefs_b45 C (K6 := fX0_repeatedDefs_L6 w n) (hK6 := @ih) hR hS (lv_sub hl [2, 0, 3, 4, 1] rfl) h
def fX0_repeatedDefs (w : Fw) (a0 : Nat) : Option (Int32) := (fX0_repeatedDefs_L6 w 1000 a0 0 0 0)
set_option maxRecDepth 100000 in
set_option maxHeartbeats 4000000 in
theorem mX0_repeatedDefs (l : Launch) (D : va_G) (dA : Nat → ClassId) (A : Nat → Prop) {w : Fw} {a0 : Nat} {res : Int32} (h : fX0_repeatedDefs w a0 = some res) : Met l yX0_repeatedDefs (wz yX0_repeatedDefs cX0_repeatedDefs 5 (some .int)) (rz 1 21) (Pz D dA A w [.ref a0]) (QzI D dA A res w) 0 0 A := by
  refine Met.ofW (cc := cX0_repeatedDefs) (maxL := 5) (ret := (some .int)) (by decide) rfl ?_
  intro p e s m args below meth c s₁ B hml hv
  obtain ⟨rfl, hR, hK⟩ := hv
  have hx := B.exec
  have hb := B.bytes
  have hr := B.returns
  have hts : ∀ w ∈ lw_g, w.before [.ref a0].toArray s = true := fun w hw => atoms_spec (ws := wz yX0_repeatedDefs cX0_repeatedDefs 5 (some .int)) B.pre w (List.mem_cons_of_mem _ hw)
  have hown : s.vm.findClass RX0 = some m.cls := findClass_of_methodNamed B.named
  have hlocks := B.notSynchronized
  have C : Cx p s m [.ref a0].toArray meth c D dA RX0 cX0_repeatedDefs 5 (some .int) := ⟨hx, hb, hr, hml, hown, hts, hK, hlocks⟩
  have hS : va_S A s.heap s.heap [] := va_S.rf
  have hl := lv_entry ([.ref a0]) (n := 5) (Nat.le_of_ble_eq_true rfl)
  rw [lg_entry_eq]
  generalize (lg_sl ([.ref a0]) ++ List.replicate (5 - (lg_sl ([.ref a0])).length) Slot.unset).toArray = ls at hl ⊢
  have hl : lv_has ls 5 [(0, .ref a0)] := hl
  unfold fX0_repeatedDefs at h
  show W p l e (rz 1 21) s m _ below meth c s.heap [] 0 0 _ _
  refine lv_iconst (v := 0) hx hb dX0_repeatedDefs_0 (by decide) ?_
  refine lv_istore_n (lv' := [(1, .int 0), (0, .ref a0)]) hx hb dX0_repeatedDefs_1 rfl hl (by decide) rfl (fun ls hl => ?_)
  refine lv_iconst (v := 0) hx hb dX0_repeatedDefs_2 (by decide) ?_
  refine lv_istore_n (lv' := [(2, .int 0), (1, .int 0), (0, .ref a0)]) hx hb dX0_repeatedDefs_3 rfl hl (by decide) rfl (fun ls hl => ?_)
  refine lv_iconst (v := 0) hx hb dX0_repeatedDefs_4 (by decide) ?_
  refine lv_istore_n (lv' := [(3, .int 0), (2, .int 0), (1, .int 0), (0, .ref a0)]) hx hb dX0_repeatedDefs_5 rfl hl (by decide) rfl (fun ls hl => ?_)
  exact qX0_repeatedDefs_L6 C   1000 hR hS (lv_sub hl [3, 2, 1, 0] rfl) h
def fX0_unpaired_L82  : Nat → Fw → Nat → Int32 → Int32 → Int32 → Option (Int32 × Fw)
  | 0, _, _, _, _, _ => none
  | n + 1, w, a0, x2, x3, x4 => if x3 ≤ x4 then some (x2, w) else ((gR w a0 0 1).bind fun r1 => ((lI w r1 x4).bind fun v2 => (fX0_unpaired_L82  n w a0 (x2 ||| ((1 : Int32) <<< (v2 &&& 31))) x3 (x4 + 1))))
set_option maxRecDepth 100000 in
set_option maxHeartbeats 4000000 in
theorem qX0_unpaired_L82 {p : Program} {l : Launch} {e : Env} {s : State} {m : MethodId} {args : Array Value} {below : List Frame} {meth : Method} {c : Code} {D : va_G} {dA : Nat → ClassId} {A : Nat → Prop} (C : Cx p s m args meth c D dA RX0 cX0_unpaired 6 (some .int)) {res : Int32 × Fw}   : ∀ (n : Nat) {w : Fw} {H : Heap} {locs : List Loc} {ls : Array Slot} {a0 : Nat} {x2 : Int32} {x3 : Int32} {x4 : Int32}, Rp D dA A w H → va_S A s.heap H locs → lv_has ls 6 [(0, .ref a0), (2, .int x2), (3, .int x3), (4, .int x4)] → fX0_unpaired_L82 n w a0 x2 x3 x4 = some res → W p l e (rz 1 21) s m args below meth c H locs 0 0 (MQ below (QzI D dA A res.1 res.2) args s 0 0 A) (F0 m 82 ls []) := by
  obtain ⟨hx, hb, hr, hml, hown, hts, hK, hlocks⟩ := id C
  intro n
  induction n with
  | zero =>
    intro w H locs ls a0 x2 x3 x4 hR hS hl h
    rw [fX0_unpaired_L82.eq_1] at h
    cases h
  | succ n ih =>
    intro w H locs ls a0 x2 x3 x4 hR hS hl h
    rw [fX0_unpaired_L82.eq_2] at h
    refine lv_iload hx hb dX0_unpaired_82 (lv_at hl 3 rfl) ?_
    refine lv_iload_n hx hb dX0_unpaired_84 rfl (lv_at hl 2 rfl) ?_
    refine lv_icmp_ge (tgt := 106) hx hb dX0_unpaired_85 (by decide) (fun c => ?_) (fun c => ?_)
    · have h := it c h
      refine lv_iload_n hx hb dX0_unpaired_106 rfl (lv_at hl 1 rfl) ?_
      exact fx_iret hx hb hr hlocks (pr1 h) (pr2 h) hR hS dX0_unpaired_107
    · have h := ie c h
      refine lv_iload_n hx hb dX0_unpaired_88 rfl (lv_at hl 1 rfl) ?_
      refine lv_iconst (v := 1) hx hb dX0_unpaired_89 (by decide) ?_
      refine lv_aload_n hx hb dX0_unpaired_90 rfl (lv_at hl 0 rfl) ?_
      obtain ⟨r1, e, h⟩ := bd h
      refine fx_gR hx hb hts hown hK hR fl_X0_15 e dX0_unpaired_91 ?_
      refine lv_iload hx hb dX0_unpaired_94 (lv_at hl 3 rfl) ?_
      obtain ⟨v2, e, h⟩ := bd h
      refine fx_lI hx hb hK hR e dX0_unpaired_96 ?_
      refine lv_ishl hx hb dX0_unpaired_97 ?_
      refine lv_ior hx hb dX0_unpaired_98 ?_
      refine lv_istore_n (lv' := [(2, .int (x2 ||| ((1 : Int32) <<< (v2 &&& 31)))), (0, .ref a0), (3, .int x3), (4, .int x4)]) hx hb dX0_unpaired_99 rfl hl (by decide) rfl (fun ls hl => ?_)
      refine lv_iinc (v := (x4 + 1)) (lv' := [(4, .int (x4 + 1)), (2, .int (x2 ||| ((1 : Int32) <<< (v2 &&& 31)))), (0, .ref a0), (3, .int x3)]) hx hb dX0_unpaired_100 hl (k := 3) rfl rfl (by decide) rfl (fun ls hl => ?_)
      refine lv_goto (tgt := 82) hx hb dX0_unpaired_103 (by decide) ?_
      exact ih hR hS (lv_sub hl [2, 1, 3, 0] rfl) h
def fX0_unpaired_b73 (K7 : Fw → Nat → Nat → Int32 → Int32 → Int32 → Option (Int32 × Fw)) (w : Fw) (a0 : Nat) (a1 : Nat) (x2 : Int32) (x3 : Int32) (x4 : Int32) : Option (Int32 × Fw) := (K7 w a0 a1 x2 x3 (x4 + 1))
set_option maxRecDepth 100000 in
set_option maxHeartbeats 4000000 in
theorem qX0_unpaired_b73 {p : Program} {l : Launch} {e : Env} {s : State} {m : MethodId} {args : Array Value} {below : List Frame} {meth : Method} {c : Code} {D : va_G} {dA : Nat → ClassId} {A : Nat → Prop} (C : Cx p s m args meth c D dA RX0 cX0_unpaired 6 (some .int)) {w : Fw} {res : Int32 × Fw} {K7 : Fw → Nat → Nat → Int32 → Int32 → Int32 → Option (Int32 × Fw)} (hK7 : ∀ {w : Fw} {H : Heap} {locs : List Loc} {ls : Array Slot} {a0 : Nat} {a1 : Nat} {x2 : Int32} {x3 : Int32} {x4 : Int32}, Rp D dA A w H → va_S A s.heap H locs → lv_has ls 6 [(0, .ref a0), (1, .ref a1), (2, .int x2), (3, .int x3), (4, .int x4)] → K7 w a0 a1 x2 x3 x4 = some res → W p l e (rz 1 21) s m args below meth c H locs 0 0 (MQ below (QzI D dA A res.1 res.2) args s 0 0 A) (F0 m 7 ls [])) {H : Heap} {locs : List Loc} {ls : Array Slot} {a0 : Nat} {a1 : Nat} {x2 : Int32} {x3 : Int32} {x4 : Int32} (hR : Rp D dA A w H) (hS : va_S A s.heap H locs) (hl : lv_has ls 6 [(0, .ref a0), (1, .ref a1), (2, .int x2), (3, .int x3), (4, .int x4)]) (h : fX0_unpaired_b73 K7 w a0 a1 x2 x3 x4 = some res) : W p l e (rz 1 21) s m args below meth c H locs 0 0 (MQ below (QzI D dA A res.1 res.2) args s 0 0 A) (F0 m 73 ls []) := by
  obtain ⟨hx, hb, hr, hml, hown, hts, hK, hlocks⟩ := id C
  unfold fX0_unpaired_b73 at h
  refine lv_iinc (v := (x4 + 1)) (lv' := [(4, .int (x4 + 1)), (0, .ref a0), (1, .ref a1), (2, .int x2), (3, .int x3)]) hx hb dX0_unpaired_73 hl (k := 4) rfl rfl (by decide) rfl (fun ls hl => ?_)
  refine lv_goto (tgt := 7) hx hb dX0_unpaired_76 (by decide) ?_
  exact hK7 hR hS (lv_sub hl [1, 2, 3, 4, 0] rfl) h
def fX0_unpaired_b60 (K7 : Fw → Nat → Nat → Int32 → Int32 → Int32 → Option (Int32 × Fw)) (w : Fw) (a0 : Nat) (a1 : Nat) (x2 : Int32) (x3 : Int32) (x4 : Int32) (x5 : Int32) : Option (Int32 × Fw) := if x5 = 4 then (fX0_unpaired_b73 K7 w a0 a1 (x2 ||| ((1 : Int32) <<< (x4 &&& 31))) x3 x4) else (fX0_unpaired_b73 K7 w a0 a1 x2 x3 x4)
set_option maxRecDepth 100000 in
set_option maxHeartbeats 4000000 in
theorem qX0_unpaired_b60 {p : Program} {l : Launch} {e : Env} {s : State} {m : MethodId} {args : Array Value} {below : List Frame} {meth : Method} {c : Code} {D : va_G} {dA : Nat → ClassId} {A : Nat → Prop} (C : Cx p s m args meth c D dA RX0 cX0_unpaired 6 (some .int)) {w : Fw} {res : Int32 × Fw} {K7 : Fw → Nat → Nat → Int32 → Int32 → Int32 → Option (Int32 × Fw)} (hK7 : ∀ {w : Fw} {H : Heap} {locs : List Loc} {ls : Array Slot} {a0 : Nat} {a1 : Nat} {x2 : Int32} {x3 : Int32} {x4 : Int32}, Rp D dA A w H → va_S A s.heap H locs → lv_has ls 6 [(0, .ref a0), (1, .ref a1), (2, .int x2), (3, .int x3), (4, .int x4)] → K7 w a0 a1 x2 x3 x4 = some res → W p l e (rz 1 21) s m args below meth c H locs 0 0 (MQ below (QzI D dA A res.1 res.2) args s 0 0 A) (F0 m 7 ls [])) {H : Heap} {locs : List Loc} {ls : Array Slot} {a0 : Nat} {a1 : Nat} {x2 : Int32} {x3 : Int32} {x4 : Int32} {x5 : Int32} (hR : Rp D dA A w H) (hS : va_S A s.heap H locs) (hl : lv_has ls 6 [(0, .ref a0), (1, .ref a1), (2, .int x2), (3, .int x3), (4, .int x4), (5, .int x5)]) (h : fX0_unpaired_b60 K7 w a0 a1 x2 x3 x4 x5 = some res) : W p l e (rz 1 21) s m args below meth c H locs 0 0 (MQ below (QzI D dA A res.1 res.2) args s 0 0 A) (F0 m 60 ls []) := by
  obtain ⟨hx, hb, hr, hml, hown, hts, hK, hlocks⟩ := id C
  unfold fX0_unpaired_b60 at h
  refine lv_iload hx hb dX0_unpaired_60 (lv_at hl 5 rfl) ?_
  refine lv_iconst (v := 4) hx hb dX0_unpaired_62 (by decide) ?_
  refine lv_icmp_ne (tgt := 73) hx hb dX0_unpaired_63 (by decide) (fun c => ?_) (fun c => ?_)
  · have h := ie c h
    exact qX0_unpaired_b73 C (K7 := K7) (hK7 := @hK7) hR hS (lv_sub hl [0, 1, 2, 3, 4] rfl) h
  · have h := it c h
    refine lv_iload_n hx hb dX0_unpaired_66 rfl (lv_at hl 2 rfl) ?_
    refine lv_iconst (v := 1) hx hb dX0_unpaired_67 (by decide) ?_
    refine lv_iload hx hb dX0_unpaired_68 (lv_at hl 4 rfl) ?_
    refine lv_ishl hx hb dX0_unpaired_70 ?_
    refine lv_ior hx hb dX0_unpaired_71 ?_
    refine lv_istore_n (lv' := [(2, .int (x2 ||| ((1 : Int32) <<< (x4 &&& 31)))), (0, .ref a0), (1, .ref a1), (3, .int x3), (4, .int x4), (5, .int x5)]) hx hb dX0_unpaired_72 rfl hl (by decide) rfl (fun ls hl => ?_)
    exact qX0_unpaired_b73 C (K7 := K7) (hK7 := @hK7) hR hS (lv_sub hl [1, 2, 0, 3, 4] rfl) h
def fX0_unpaired_L7  : Nat → Fw → Nat → Nat → Int32 → Int32 → Int32 → Option (Int32 × Fw)
  | 0, _, _, _, _, _, _ => none
  | n + 1, w, a0, a1, x2, x3, x4 => ((isO w a1 4).bind fun _ => ((fX4_size w a1).bind fun v3 => (if v3 ≤ x4 then (fX0_unpaired_L82 1000 w a0 x2 x3 0) else ((isO w a1 4).bind fun _ => ((fX4_kindAt w a1 x4).bind fun v4 => (if v4 = 3 then ((gR w a0 0 1).bind fun r5 => ((sI w r5 x3 x4).bind fun w6 => (fX0_unpaired_b73 (fX0_unpaired_L7  n) w6 a0 a1 x2 (x3 + 1) x4))) else if v4 = 4 then if x3 ≤ 0 then (fX0_unpaired_b60 (fX0_unpaired_L7  n) w a0 a1 x2 x3 x4 v4) else (fX0_unpaired_b73 (fX0_unpaired_L7  n) w a0 a1 x2 (x3 + (-1)) x4) else (fX0_unpaired_b60 (fX0_unpaired_L7  n) w a0 a1 x2 x3 x4 v4)))))))
set_option maxRecDepth 100000 in
set_option maxHeartbeats 4000000 in
theorem qX0_unpaired_L7 {p : Program} {l : Launch} {e : Env} {s : State} {m : MethodId} {args : Array Value} {below : List Frame} {meth : Method} {c : Code} {D : va_G} {dA : Nat → ClassId} {A : Nat → Prop} (C : Cx p s m args meth c D dA RX0 cX0_unpaired 6 (some .int)) {res : Int32 × Fw}   : ∀ (n : Nat) {w : Fw} {H : Heap} {locs : List Loc} {ls : Array Slot} {a0 : Nat} {a1 : Nat} {x2 : Int32} {x3 : Int32} {x4 : Int32}, Rp D dA A w H → va_S A s.heap H locs → lv_has ls 6 [(0, .ref a0), (1, .ref a1), (2, .int x2), (3, .int x3), (4, .int x4)] → fX0_unpaired_L7 n w a0 a1 x2 x3 x4 = some res → W p l e (rz 1 21) s m args below meth c H locs 0 0 (MQ below (QzI D dA A res.1 res.2) args s 0 0 A) (F0 m 7 ls []) := by
  obtain ⟨hx, hb, hr, hml, hown, hts, hK, hlocks⟩ := id C
  intro n
  induction n with
  | zero =>
    intro w H locs ls a0 a1 x2 x3 x4 hR hS hl h
    rw [fX0_unpaired_L7.eq_1] at h
    cases h
  | succ n ih =>
    intro w H locs ls a0 a1 x2 x3 x4 hR hS hl h
    rw [fX0_unpaired_L7.eq_2] at h
    refine lv_iload hx hb dX0_unpaired_7 (lv_at hl 4 rfl) ?_
    refine lv_aload_n hx hb dX0_unpaired_9 rfl (lv_at hl 1 rfl) ?_
    obtain ⟨_, eO, h⟩ := bd h
    obtain ⟨v3, e, h⟩ := bd h
    refine fx_vI (As := []) (rest := [.int x4]) hx hb hml hts hown hK hR hS eO (mX4_size l D dA A e) my_X4_size mv_X4_size rfl ml_X0_47 rfl hl.1 rfl (Nat.le_of_ble_eq_true rfl) dX0_unpaired_10 ⟨Nat.le_of_ble_eq_true rfl, Nat.le_of_ble_eq_true rfl⟩ ⟨Nat.le_refl _, Nat.le_refl _⟩ (fun H locs hR hS => ?_)
    refine lv_icmp_ge (tgt := 79) hx hb dX0_unpaired_13 (by decide) (fun c => ?_) (fun c => ?_)
    · have h := it c h
      refine lv_iconst (v := 0) hx hb dX0_unpaired_79 (by decide) ?_
      refine lv_istore (lv' := [(4, .int 0), (0, .ref a0), (1, .ref a1), (2, .int x2), (3, .int x3)]) hx hb dX0_unpaired_80 hl (by decide) rfl (fun ls hl => ?_)
      exact qX0_unpaired_L82 C   1000 hR hS (lv_sub hl [1, 3, 4, 0] rfl) h
    · have h := ie c h
      refine lv_aload_n hx hb dX0_unpaired_16 rfl (lv_at hl 1 rfl) ?_
      refine lv_iload hx hb dX0_unpaired_17 (lv_at hl 4 rfl) ?_
      obtain ⟨_, eO, h⟩ := bd h
      obtain ⟨v4, e, h⟩ := bd h
      refine fx_vI (As := [.int x4]) (rest := []) hx hb hml hts hown hK hR hS eO (mX4_kindAt l D dA A e) my_X4_kindAt mv_X4_kindAt rfl ml_X0_50 rfl hl.1 rfl (Nat.le_of_ble_eq_true rfl) dX0_unpaired_19 ⟨Nat.le_of_ble_eq_true rfl, Nat.le_of_ble_eq_true rfl⟩ ⟨Nat.le_refl _, Nat.le_refl _⟩ (fun H locs hR hS => ?_)
      refine lv_istore (lv' := [(5, .int v4), (0, .ref a0), (1, .ref a1), (2, .int x2), (3, .int x3), (4, .int x4)]) hx hb dX0_unpaired_22 hl (by decide) rfl (fun ls hl => ?_)
      refine lv_iload hx hb dX0_unpaired_24 (lv_at hl 0 rfl) ?_
      refine lv_iconst (v := 3) hx hb dX0_unpaired_26 (by decide) ?_
      refine lv_icmp_ne (tgt := 44) hx hb dX0_unpaired_27 (by decide) (fun c => ?_) (fun c => ?_)
      · have h := ie c h
        refine lv_iload hx hb dX0_unpaired_44 (lv_at hl 0 rfl) ?_
        refine lv_iconst (v := 4) hx hb dX0_unpaired_46 (by decide) ?_
        refine lv_icmp_ne (tgt := 60) hx hb dX0_unpaired_47 (by decide) (fun c => ?_) (fun c => ?_)
        · have h := ie c h
          exact qX0_unpaired_b60 C (K7 := fX0_unpaired_L7  n) (hK7 := @ih) hR hS (lv_sub hl [1, 2, 3, 4, 5, 0] rfl) h
        · have h := it c h
          refine lv_iload_n hx hb dX0_unpaired_50 rfl (lv_at hl 4 rfl) ?_
          refine lv_if_le (tgt := 60) hx hb dX0_unpaired_51 (by decide) (fun c => ?_) (fun c => ?_)
          · have h := it c h
            exact qX0_unpaired_b60 C (K7 := fX0_unpaired_L7  n) (hK7 := @ih) hR hS (lv_sub hl [1, 2, 3, 4, 5, 0] rfl) h
          · have h := ie c h
            refine lv_iinc (v := (x3 + (-1))) (lv' := [(3, .int (x3 + (-1))), (5, .int v4), (0, .ref a0), (1, .ref a1), (2, .int x2), (4, .int x4)]) hx hb dX0_unpaired_54 hl (k := 4) rfl rfl (by decide) rfl (fun ls hl => ?_)
            refine lv_goto (tgt := 73) hx hb dX0_unpaired_57 (by decide) ?_
            exact qX0_unpaired_b73 C (K7 := fX0_unpaired_L7  n) (hK7 := @ih) hR hS (lv_sub hl [2, 3, 4, 0, 5] rfl) h
      · have h := it c h
        refine lv_aload_n hx hb dX0_unpaired_30 rfl (lv_at hl 1 rfl) ?_
        obtain ⟨r5, e, h⟩ := bd h
        refine fx_gR hx hb hts hown hK hR fl_X0_15 e dX0_unpaired_31 ?_
        refine lv_iload_n hx hb dX0_unpaired_34 rfl (lv_at hl 4 rfl) ?_
        refine lv_iload hx hb dX0_unpaired_35 (lv_at hl 5 rfl) ?_
        obtain ⟨w6, e, h⟩ := bd h
        refine fx_sI hx hb hK hR hS e dX0_unpaired_37 (fun H locs hR hS => ?_)
        refine lv_iinc (v := (x3 + 1)) (lv' := [(3, .int (x3 + 1)), (5, .int v4), (0, .ref a0), (1, .ref a1), (2, .int x2), (4, .int x4)]) hx hb dX0_unpaired_38 hl (k := 4) rfl rfl (by decide) rfl (fun ls hl => ?_)
        refine lv_goto (tgt := 73) hx hb dX0_unpaired_41 (by decide) ?_
        exact qX0_unpaired_b73 C (K7 := fX0_unpaired_L7  n) (hK7 := @ih) hR hS (lv_sub hl [2, 3, 4, 0, 5] rfl) h
def fX0_unpaired (w : Fw) (a0 : Nat) (a1 : Nat) : Option (Int32 × Fw) := (fX0_unpaired_L7 1000 w a0 a1 0 0 0)
set_option maxRecDepth 100000 in
set_option maxHeartbeats 4000000 in
theorem mX0_unpaired (l : Launch) (D : va_G) (dA : Nat → ClassId) (A : Nat → Prop) {w : Fw} {a0 : Nat} {a1 : Nat} {res : Int32 × Fw} (h : fX0_unpaired w a0 a1 = some res) : Met l yX0_unpaired (wz yX0_unpaired cX0_unpaired 6 (some .int)) (rz 1 21) (Pz D dA A w [.ref a0, .ref a1]) (QzI D dA A res.1 res.2) 0 0 A := by
  refine Met.ofW (cc := cX0_unpaired) (maxL := 6) (ret := (some .int)) (by decide) rfl ?_
  intro p e s m args below meth c s₁ B hml hv
  obtain ⟨rfl, hR, hK⟩ := hv
  have hx := B.exec
  have hb := B.bytes
  have hr := B.returns
  have hts : ∀ w ∈ lw_g, w.before [.ref a0, .ref a1].toArray s = true := fun w hw => atoms_spec (ws := wz yX0_unpaired cX0_unpaired 6 (some .int)) B.pre w (List.mem_cons_of_mem _ hw)
  have hown : s.vm.findClass RX0 = some m.cls := findClass_of_methodNamed B.named
  have hlocks := B.notSynchronized
  have C : Cx p s m [.ref a0, .ref a1].toArray meth c D dA RX0 cX0_unpaired 6 (some .int) := ⟨hx, hb, hr, hml, hown, hts, hK, hlocks⟩
  have hS : va_S A s.heap s.heap [] := va_S.rf
  have hl := lv_entry ([.ref a0, .ref a1]) (n := 6) (Nat.le_of_ble_eq_true rfl)
  rw [lg_entry_eq]
  generalize (lg_sl ([.ref a0, .ref a1]) ++ List.replicate (6 - (lg_sl ([.ref a0, .ref a1])).length) Slot.unset).toArray = ls at hl ⊢
  have hl : lv_has ls 6 [(0, .ref a0), (1, .ref a1)] := hl
  unfold fX0_unpaired at h
  show W p l e (rz 1 21) s m _ below meth c s.heap [] 0 0 _ _
  refine lv_iconst (v := 0) hx hb dX0_unpaired_0 (by decide) ?_
  refine lv_istore_n (lv' := [(2, .int 0), (0, .ref a0), (1, .ref a1)]) hx hb dX0_unpaired_1 rfl hl (by decide) rfl (fun ls hl => ?_)
  refine lv_iconst (v := 0) hx hb dX0_unpaired_2 (by decide) ?_
  refine lv_istore_n (lv' := [(3, .int 0), (2, .int 0), (0, .ref a0), (1, .ref a1)]) hx hb dX0_unpaired_3 rfl hl (by decide) rfl (fun ls hl => ?_)
  refine lv_iconst (v := 0) hx hb dX0_unpaired_4 (by decide) ?_
  refine lv_istore (lv' := [(4, .int 0), (3, .int 0), (2, .int 0), (0, .ref a0), (1, .ref a1)]) hx hb dX0_unpaired_5 hl (by decide) rfl (fun ls hl => ?_)
  exact qX0_unpaired_L7 C   1000 hR hS (lv_sub hl [3, 4, 2, 1, 0] rfl) h
def fX0_importsOf_b42 (w : Fw) (K4 : Nat → Int32 → Int32 → Int32 → Option (Int32)) (a0 : Nat) (x1 : Int32) (x2 : Int32) (x3 : Int32) : Option (Int32) := (K4 a0 x1 x2 (x3 + 1))
set_option maxRecDepth 100000 in
set_option maxHeartbeats 4000000 in
theorem qX0_importsOf_b42 {p : Program} {l : Launch} {e : Env} {s : State} {m : MethodId} {args : Array Value} {below : List Frame} {meth : Method} {c : Code} {D : va_G} {dA : Nat → ClassId} {A : Nat → Prop} (C : Cx p s m args meth c D dA RX0 cX0_importsOf 4 (some .int)) {w : Fw} {res : Int32} {K4 : Nat → Int32 → Int32 → Int32 → Option (Int32)} (hK4 : ∀ {H : Heap} {locs : List Loc} {ls : Array Slot} {a0 : Nat} {x1 : Int32} {x2 : Int32} {x3 : Int32}, Rp D dA A w H → va_S A s.heap H locs → lv_has ls 4 [(0, .ref a0), (1, .int x1), (2, .int x2), (3, .int x3)] → K4 a0 x1 x2 x3 = some res → W p l e (rz 1 21) s m args below meth c H locs 0 0 (MQ below (QzI D dA A res w) args s 0 0 A) (F0 m 4 ls [])) {H : Heap} {locs : List Loc} {ls : Array Slot} {a0 : Nat} {x1 : Int32} {x2 : Int32} {x3 : Int32} (hR : Rp D dA A w H) (hS : va_S A s.heap H locs) (hl : lv_has ls 4 [(0, .ref a0), (1, .int x1), (2, .int x2), (3, .int x3)]) (h : fX0_importsOf_b42 w K4 a0 x1 x2 x3 = some res) : W p l e (rz 1 21) s m args below meth c H locs 0 0 (MQ below (QzI D dA A res w) args s 0 0 A) (F0 m 42 ls []) := by
  obtain ⟨hx, hb, hr, hml, hown, hts, hK, hlocks⟩ := id C
  unfold fX0_importsOf_b42 at h
  refine lv_iinc (v := (x3 + 1)) (lv' := [(3, .int (x3 + 1)), (0, .ref a0), (1, .int x1), (2, .int x2)]) hx hb dX0_importsOf_42 hl (k := 3) rfl rfl (by decide) rfl (fun ls hl => ?_)
  refine lv_goto (tgt := 4) hx hb dX0_importsOf_45 (by decide) ?_
  exact hK4 hR hS (lv_sub hl [1, 2, 3, 0] rfl) h
def fX0_importsOf_L4 (w : Fw)  : Nat → Nat → Int32 → Int32 → Int32 → Option (Int32)
  | 0, _, _, _, _ => none
  | n + 1, a0, x1, x2, x3 => ((isO w a0 4).bind fun _ => ((fX4_size w a0).bind fun v1 => (if v1 ≤ x3 then some x2 else ((isO w a0 4).bind fun _ => ((fX4_kindAt w a0 x3).bind fun v2 => (if v2 = 5 then ((isO w a0 4).bind fun _ => ((fX4_numberAt w a0 x3).bind fun v3 => ((fX6_has w x1 (v3 - v3 / 6 * 6)).bind fun v4 => (if v4 = 0 then (fX0_importsOf_b42 w (fX0_importsOf_L4 w n) a0 x1 x2 x3) else (fX0_importsOf_b42 w (fX0_importsOf_L4 w n) a0 x1 (x2 ||| ((1 : Int32) <<< (x3 &&& 31))) x3))))) else (fX0_importsOf_b42 w (fX0_importsOf_L4 w n) a0 x1 x2 x3)))))))
set_option maxRecDepth 100000 in
set_option maxHeartbeats 4000000 in
theorem qX0_importsOf_L4 {p : Program} {l : Launch} {e : Env} {s : State} {m : MethodId} {args : Array Value} {below : List Frame} {meth : Method} {c : Code} {D : va_G} {dA : Nat → ClassId} {A : Nat → Prop} (C : Cx p s m args meth c D dA RX0 cX0_importsOf 4 (some .int)) {w : Fw} {res : Int32}   : ∀ (n : Nat) {H : Heap} {locs : List Loc} {ls : Array Slot} {a0 : Nat} {x1 : Int32} {x2 : Int32} {x3 : Int32}, Rp D dA A w H → va_S A s.heap H locs → lv_has ls 4 [(0, .ref a0), (1, .int x1), (2, .int x2), (3, .int x3)] → fX0_importsOf_L4 w n a0 x1 x2 x3 = some res → W p l e (rz 1 21) s m args below meth c H locs 0 0 (MQ below (QzI D dA A res w) args s 0 0 A) (F0 m 4 ls []) := by
  obtain ⟨hx, hb, hr, hml, hown, hts, hK, hlocks⟩ := id C
  intro n
  induction n with
  | zero =>
    intro H locs ls a0 x1 x2 x3 hR hS hl h
    rw [fX0_importsOf_L4.eq_1] at h
    cases h
  | succ n ih =>
    intro H locs ls a0 x1 x2 x3 hR hS hl h
    rw [fX0_importsOf_L4.eq_2] at h
    refine lv_iload_n hx hb dX0_importsOf_4 rfl (lv_at hl 3 rfl) ?_
    refine lv_aload_n hx hb dX0_importsOf_5 rfl (lv_at hl 0 rfl) ?_
    obtain ⟨_, eO, h⟩ := bd h
    obtain ⟨v1, e, h⟩ := bd h
    refine fx_vI (As := []) (rest := [.int x3]) hx hb hml hts hown hK hR hS eO (mX4_size l D dA A e) my_X4_size mv_X4_size rfl ml_X0_47 rfl hl.1 rfl (Nat.le_of_ble_eq_true rfl) dX0_importsOf_6 ⟨Nat.le_of_ble_eq_true rfl, Nat.le_of_ble_eq_true rfl⟩ ⟨Nat.le_refl _, Nat.le_refl _⟩ (fun H locs hR hS => ?_)
    refine lv_icmp_ge (tgt := 48) hx hb dX0_importsOf_9 (by decide) (fun c => ?_) (fun c => ?_)
    · have h := it c h
      refine lv_iload_n hx hb dX0_importsOf_48 rfl (lv_at hl 2 rfl) ?_
      exact fx_iret hx hb hr hlocks (Option.some.inj h) rfl hR hS dX0_importsOf_49
    · have h := ie c h
      refine lv_aload_n hx hb dX0_importsOf_12 rfl (lv_at hl 0 rfl) ?_
      refine lv_iload_n hx hb dX0_importsOf_13 rfl (lv_at hl 3 rfl) ?_
      obtain ⟨_, eO, h⟩ := bd h
      obtain ⟨v2, e, h⟩ := bd h
      refine fx_vI (As := [.int x3]) (rest := []) hx hb hml hts hown hK hR hS eO (mX4_kindAt l D dA A e) my_X4_kindAt mv_X4_kindAt rfl ml_X0_50 rfl hl.1 rfl (Nat.le_of_ble_eq_true rfl) dX0_importsOf_14 ⟨Nat.le_of_ble_eq_true rfl, Nat.le_of_ble_eq_true rfl⟩ ⟨Nat.le_refl _, Nat.le_refl _⟩ (fun H locs hR hS => ?_)
      refine lv_iconst (v := 5) hx hb dX0_importsOf_17 (by decide) ?_
      refine lv_icmp_ne (tgt := 42) hx hb dX0_importsOf_18 (by decide) (fun c => ?_) (fun c => ?_)
      · have h := ie c h
        exact qX0_importsOf_b42 C (K4 := fX0_importsOf_L4 w n) (hK4 := @ih) hR hS (lv_sub hl [0, 1, 2, 3] rfl) h
      · have h := it c h
        refine lv_iload_n hx hb dX0_importsOf_21 rfl (lv_at hl 1 rfl) ?_
        refine lv_aload_n hx hb dX0_importsOf_22 rfl (lv_at hl 0 rfl) ?_
        refine lv_iload_n hx hb dX0_importsOf_23 rfl (lv_at hl 3 rfl) ?_
        obtain ⟨_, eO, h⟩ := bd h
        obtain ⟨v3, e, h⟩ := bd h
        refine fx_vI (As := [.int x3]) (rest := [.int x1]) hx hb hml hts hown hK hR hS eO (mX4_numberAt l D dA A e) my_X4_numberAt mv_X4_numberAt rfl ml_X0_53 rfl hl.1 rfl (Nat.le_of_ble_eq_true rfl) dX0_importsOf_24 ⟨Nat.le_of_ble_eq_true rfl, Nat.le_of_ble_eq_true rfl⟩ ⟨Nat.le_refl _, Nat.le_refl _⟩ (fun H locs hR hS => ?_)
        refine lv_bipush (v := 6) hx hb dX0_importsOf_27 (by decide) ?_
        refine lv_irem hx hb dX0_importsOf_29 (by decide) ?_
        obtain ⟨v4, e, h⟩ := bd h
        refine fx_sN (As := [.int x1, .int (v3 - v3 / 6 * 6)]) (rest := []) hx hb hml hts hown hK hR hS (mX6_has l D dA A e) my_X6_has ms_X6_has hK.2.1 rfl hl.1 rfl (Nat.le_of_ble_eq_true rfl) dX0_importsOf_30 ⟨Nat.le_of_ble_eq_true rfl, Nat.le_of_ble_eq_true rfl⟩ ⟨Nat.le_refl _, Nat.le_refl _⟩ (fun H locs hR hS => ?_)
        refine lv_if_eq (tgt := 42) hx hb dX0_importsOf_33 (by decide) (fun c => ?_) (fun c => ?_)
        · have h := it c h
          exact qX0_importsOf_b42 C (K4 := fX0_importsOf_L4 w n) (hK4 := @ih) hR hS (lv_sub hl [0, 1, 2, 3] rfl) h
        · have h := ie c h
          refine lv_iload_n hx hb dX0_importsOf_36 rfl (lv_at hl 2 rfl) ?_
          refine lv_iconst (v := 1) hx hb dX0_importsOf_37 (by decide) ?_
          refine lv_iload_n hx hb dX0_importsOf_38 rfl (lv_at hl 3 rfl) ?_
          refine lv_ishl hx hb dX0_importsOf_39 ?_
          refine lv_ior hx hb dX0_importsOf_40 ?_
          refine lv_istore_n (lv' := [(2, .int (x2 ||| ((1 : Int32) <<< (x3 &&& 31)))), (0, .ref a0), (1, .int x1), (3, .int x3)]) hx hb dX0_importsOf_41 rfl hl (by decide) rfl (fun ls hl => ?_)
          exact qX0_importsOf_b42 C (K4 := fX0_importsOf_L4 w n) (hK4 := @ih) hR hS (lv_sub hl [1, 2, 0, 3] rfl) h
def fX0_importsOf (w : Fw) (a0 : Nat) (x1 : Int32) : Option (Int32) := (fX0_importsOf_L4 w 1000 a0 x1 0 0)
set_option maxRecDepth 100000 in
set_option maxHeartbeats 4000000 in
theorem mX0_importsOf (l : Launch) (D : va_G) (dA : Nat → ClassId) (A : Nat → Prop) {w : Fw} {a0 : Nat} {x1 : Int32} {res : Int32} (h : fX0_importsOf w a0 x1 = some res) : Met l yX0_importsOf (wz yX0_importsOf cX0_importsOf 4 (some .int)) (rz 1 21) (Pz D dA A w [.ref a0, .int x1]) (QzI D dA A res w) 0 0 A := by
  refine Met.ofW (cc := cX0_importsOf) (maxL := 4) (ret := (some .int)) (by decide) rfl ?_
  intro p e s m args below meth c s₁ B hml hv
  obtain ⟨rfl, hR, hK⟩ := hv
  have hx := B.exec
  have hb := B.bytes
  have hr := B.returns
  have hts : ∀ w ∈ lw_g, w.before [.ref a0, .int x1].toArray s = true := fun w hw => atoms_spec (ws := wz yX0_importsOf cX0_importsOf 4 (some .int)) B.pre w (List.mem_cons_of_mem _ hw)
  have hown : s.vm.findClass RX0 = some m.cls := findClass_of_methodNamed B.named
  have hlocks := B.notSynchronized
  have C : Cx p s m [.ref a0, .int x1].toArray meth c D dA RX0 cX0_importsOf 4 (some .int) := ⟨hx, hb, hr, hml, hown, hts, hK, hlocks⟩
  have hS : va_S A s.heap s.heap [] := va_S.rf
  have hl := lv_entry ([.ref a0, .int x1]) (n := 4) (Nat.le_of_ble_eq_true rfl)
  rw [lg_entry_eq]
  generalize (lg_sl ([.ref a0, .int x1]) ++ List.replicate (4 - (lg_sl ([.ref a0, .int x1])).length) Slot.unset).toArray = ls at hl ⊢
  have hl : lv_has ls 4 [(0, .ref a0), (1, .int x1)] := hl
  unfold fX0_importsOf at h
  show W p l e (rz 1 21) s m _ below meth c s.heap [] 0 0 _ _
  refine lv_iconst (v := 0) hx hb dX0_importsOf_0 (by decide) ?_
  refine lv_istore_n (lv' := [(2, .int 0), (0, .ref a0), (1, .int x1)]) hx hb dX0_importsOf_1 rfl hl (by decide) rfl (fun ls hl => ?_)
  refine lv_iconst (v := 0) hx hb dX0_importsOf_2 (by decide) ?_
  refine lv_istore_n (lv' := [(3, .int 0), (2, .int 0), (0, .ref a0), (1, .int x1)]) hx hb dX0_importsOf_3 rfl hl (by decide) rfl (fun ls hl => ?_)
  exact qX0_importsOf_L4 C   1000 hR hS (lv_sub hl [2, 3, 1, 0] rfl) h
def fX0_check_b87 (K36 : Fw → Nat → Nat → Int32 → Nat → Int32 → Int32 → Int32 → Int32 → Int32 → Option (Fw)) (w : Fw) (a0 : Nat) (a1 : Nat) (x3 : Int32) (a4 : Nat) (x5 : Int32) (x6 : Int32) (x7 : Int32) (x8 : Int32) (x9 : Int32) : Option (Fw) := (K36 w a0 a1 x3 a4 x5 x6 x7 x8 (x9 + 1))
set_option maxRecDepth 100000 in
set_option maxHeartbeats 4000000 in
theorem qX0_check_b87 {p : Program} {l : Launch} {e : Env} {s : State} {m : MethodId} {args : Array Value} {below : List Frame} {meth : Method} {c : Code} {D : va_G} {dA : Nat → ClassId} {A : Nat → Prop} (C : Cx p s m args meth c D dA RX0 cX0_check 11 none) {w : Fw} {res : Fw} {K36 : Fw → Nat → Nat → Int32 → Nat → Int32 → Int32 → Int32 → Int32 → Int32 → Option (Fw)} (hK36 : ∀ {w : Fw} {H : Heap} {locs : List Loc} {ls : Array Slot} {a0 : Nat} {a1 : Nat} {x3 : Int32} {a4 : Nat} {x5 : Int32} {x6 : Int32} {x7 : Int32} {x8 : Int32} {x9 : Int32}, Rp D dA A w H → va_S A s.heap H locs → lv_has ls 11 [(0, .ref a0), (1, .ref a1), (3, .int x3), (4, .ref a4), (5, .int x5), (6, .int x6), (7, .int x7), (8, .int x8), (9, .int x9)] → K36 w a0 a1 x3 a4 x5 x6 x7 x8 x9 = some res → W p l e (rz 2 46) s m args below meth c H locs 0 0 (MQ below (QzV D dA A res) args s 0 0 A) (F0 m 36 ls [])) {H : Heap} {locs : List Loc} {ls : Array Slot} {a0 : Nat} {a1 : Nat} {x3 : Int32} {a4 : Nat} {x5 : Int32} {x6 : Int32} {x7 : Int32} {x8 : Int32} {x9 : Int32} (hR : Rp D dA A w H) (hS : va_S A s.heap H locs) (hl : lv_has ls 11 [(0, .ref a0), (1, .ref a1), (3, .int x3), (4, .ref a4), (5, .int x5), (6, .int x6), (7, .int x7), (8, .int x8), (9, .int x9)]) (h : fX0_check_b87 K36 w a0 a1 x3 a4 x5 x6 x7 x8 x9 = some res) : W p l e (rz 2 46) s m args below meth c H locs 0 0 (MQ below (QzV D dA A res) args s 0 0 A) (F0 m 87 ls []) := by
  obtain ⟨hx, hb, hr, hml, hown, hts, hK, hlocks⟩ := id C
  unfold fX0_check_b87 at h
  refine lv_iinc (v := (x9 + 1)) (lv' := [(9, .int (x9 + 1)), (0, .ref a0), (1, .ref a1), (3, .int x3), (4, .ref a4), (5, .int x5), (6, .int x6), (7, .int x7), (8, .int x8)]) hx hb dX0_check_87 hl (k := 8) rfl rfl (by decide) rfl (fun ls hl => ?_)
  refine lv_goto (tgt := 36) hx hb dX0_check_90 (by decide) ?_
  exact hK36 hR hS (lv_sub hl [1, 2, 3, 4, 5, 6, 7, 8, 0] rfl) h
def fX0_check_b70 (K36 : Fw → Nat → Nat → Int32 → Nat → Int32 → Int32 → Int32 → Int32 → Int32 → Option (Fw)) (w : Fw) (a0 : Nat) (a1 : Nat) (x3 : Int32) (a4 : Nat) (x5 : Int32) (x6 : Int32) (x7 : Int32) (x8 : Int32) (x9 : Int32) (x10 : Int32) : Option (Fw) := if (x10 &&& x6) = 0 then (fX0_check_b87 K36 w a0 a1 x3 a4 x5 x6 x7 (x8 ||| ((1 : Int32) <<< (x9 &&& 31))) x9) else (fX0_check_b87 K36 w a0 a1 x3 a4 x5 x6 x7 x8 x9)
set_option maxRecDepth 100000 in
set_option maxHeartbeats 4000000 in
theorem qX0_check_b70 {p : Program} {l : Launch} {e : Env} {s : State} {m : MethodId} {args : Array Value} {below : List Frame} {meth : Method} {c : Code} {D : va_G} {dA : Nat → ClassId} {A : Nat → Prop} (C : Cx p s m args meth c D dA RX0 cX0_check 11 none) {w : Fw} {res : Fw} {K36 : Fw → Nat → Nat → Int32 → Nat → Int32 → Int32 → Int32 → Int32 → Int32 → Option (Fw)} (hK36 : ∀ {w : Fw} {H : Heap} {locs : List Loc} {ls : Array Slot} {a0 : Nat} {a1 : Nat} {x3 : Int32} {a4 : Nat} {x5 : Int32} {x6 : Int32} {x7 : Int32} {x8 : Int32} {x9 : Int32}, Rp D dA A w H → va_S A s.heap H locs → lv_has ls 11 [(0, .ref a0), (1, .ref a1), (3, .int x3), (4, .ref a4), (5, .int x5), (6, .int x6), (7, .int x7), (8, .int x8), (9, .int x9)] → K36 w a0 a1 x3 a4 x5 x6 x7 x8 x9 = some res → W p l e (rz 2 46) s m args below meth c H locs 0 0 (MQ below (QzV D dA A res) args s 0 0 A) (F0 m 36 ls [])) {H : Heap} {locs : List Loc} {ls : Array Slot} {a0 : Nat} {a1 : Nat} {x3 : Int32} {a4 : Nat} {x5 : Int32} {x6 : Int32} {x7 : Int32} {x8 : Int32} {x9 : Int32} {x10 : Int32} (hR : Rp D dA A w H) (hS : va_S A s.heap H locs) (hl : lv_has ls 11 [(0, .ref a0), (1, .ref a1), (3, .int x3), (4, .ref a4), (5, .int x5), (6, .int x6), (7, .int x7), (8, .int x8), (9, .int x9), (10, .int x10)]) (h : fX0_check_b70 K36 w a0 a1 x3 a4 x5 x6 x7 x8 x9 x10 = some res) : W p l e (rz 2 46) s m args below meth c H locs 0 0 (MQ below (QzV D dA A res) args s 0 0 A) (F0 m 70 ls []) := by
  obtain ⟨hx, hb, hr, hml, hown, hts, hK, hlocks⟩ := id C
  unfold fX0_check_b70 at h
  refine lv_iload hx hb dX0_check_70 (lv_at hl 9 rfl) ?_
  refine lv_iload hx hb dX0_check_72 (lv_at hl 5 rfl) ?_
  refine lv_iand hx hb dX0_check_74 ?_
  refine lv_if_ne (tgt := 87) hx hb dX0_check_75 (by decide) (fun c => ?_) (fun c => ?_)
  · have h := ie c h
    exact qX0_check_b87 C (K36 := K36) (hK36 := @hK36) hR hS (lv_sub hl [0, 1, 2, 3, 4, 5, 6, 7, 8] rfl) h
  · have h := it c h
    refine lv_iload hx hb dX0_check_78 (lv_at hl 7 rfl) ?_
    refine lv_iconst (v := 1) hx hb dX0_check_80 (by decide) ?_
    refine lv_iload hx hb dX0_check_81 (lv_at hl 8 rfl) ?_
    refine lv_ishl hx hb dX0_check_83 ?_
    refine lv_ior hx hb dX0_check_84 ?_
    refine lv_istore (lv' := [(8, .int (x8 ||| ((1 : Int32) <<< (x9 &&& 31)))), (0, .ref a0), (1, .ref a1), (3, .int x3), (4, .ref a4), (5, .int x5), (6, .int x6), (7, .int x7), (9, .int x9), (10, .int x10)]) hx hb dX0_check_85 hl (by decide) rfl (fun ls hl => ?_)
    exact qX0_check_b87 C (K36 := K36) (hK36 := @hK36) hR hS (lv_sub hl [1, 2, 3, 4, 5, 6, 7, 0, 8] rfl) h
def fX0_check_L36  : Nat → Fw → Nat → Nat → Int32 → Nat → Int32 → Int32 → Int32 → Int32 → Int32 → Option (Fw)
  | 0, _, _, _, _, _, _, _, _, _, _ => none
  | n + 1, w, a0, a1, x3, a4, x5, x6, x7, x8, x9 => if 6 ≤ x9 then ((gR w a0 0 0).bind fun r1 => ((fX0_linesWith w a4 2 (x5 ^^^ (-1))).bind fun v2 => ((sI w r1 0 v2).bind fun w3 => ((gR w3 a0 0 0).bind fun r4 => ((fX0_repeatedDefs w3 a4).bind fun v5 => ((sI w3 r4 1 v5).bind fun w6 => ((gR w6 a0 0 0).bind fun r7 => ((isO w6 a0 0).bind fun _ => ((fX0_unpaired w6 a0 a4).bind fun t8 => ((sI t8.2 r7 2 t8.1).bind fun w9 => ((gR w9 a0 0 0).bind fun r10 => ((fX0_linesWith w9 a4 0 x3).bind fun v11 => ((sI w9 r10 3 v11).bind fun w12 => ((gR w12 a0 0 0).bind fun r13 => ((fX0_importsOf w12 a4 x8).bind fun v14 => ((sI w12 r13 4 v14).bind fun w15 => some w15)))))))))))))))) else ((lR w 0 a1 x9).bind fun r16 => ((isO w r16 4).bind fun _ => ((fX4_numbersOf w r16 1).bind fun v17 => ((fX6_has w x7 x9).bind fun v18 => (if v18 = 0 then (fX0_check_b70 (fX0_check_L36  n) w a0 a1 x3 a4 x5 x6 x7 x8 x9 v17) else (fX0_check_b70 (fX0_check_L36  n) w a0 a1 x3 a4 (x5 ||| v17) x6 x7 x8 x9 v17))))))
set_option maxRecDepth 100000 in
set_option maxHeartbeats 4000000 in
theorem qX0_check_L36 {p : Program} {l : Launch} {e : Env} {s : State} {m : MethodId} {args : Array Value} {below : List Frame} {meth : Method} {c : Code} {D : va_G} {dA : Nat → ClassId} {A : Nat → Prop} (C : Cx p s m args meth c D dA RX0 cX0_check 11 none) {res : Fw}   : ∀ (n : Nat) {w : Fw} {H : Heap} {locs : List Loc} {ls : Array Slot} {a0 : Nat} {a1 : Nat} {x3 : Int32} {a4 : Nat} {x5 : Int32} {x6 : Int32} {x7 : Int32} {x8 : Int32} {x9 : Int32}, Rp D dA A w H → va_S A s.heap H locs → lv_has ls 11 [(0, .ref a0), (1, .ref a1), (3, .int x3), (4, .ref a4), (5, .int x5), (6, .int x6), (7, .int x7), (8, .int x8), (9, .int x9)] → fX0_check_L36 n w a0 a1 x3 a4 x5 x6 x7 x8 x9 = some res → W p l e (rz 2 46) s m args below meth c H locs 0 0 (MQ below (QzV D dA A res) args s 0 0 A) (F0 m 36 ls []) := by
  obtain ⟨hx, hb, hr, hml, hown, hts, hK, hlocks⟩ := id C
  intro n
  induction n with
  | zero =>
    intro w H locs ls a0 a1 x3 a4 x5 x6 x7 x8 x9 hR hS hl h
    rw [fX0_check_L36.eq_1] at h
    cases h
  | succ n ih =>
    intro w H locs ls a0 a1 x3 a4 x5 x6 x7 x8 x9 hR hS hl h
    rw [fX0_check_L36.eq_2] at h
    refine lv_iload hx hb dX0_check_36 (lv_at hl 8 rfl) ?_
    refine lv_bipush (v := 6) hx hb dX0_check_38 (by decide) ?_
    refine lv_icmp_ge (tgt := 93) hx hb dX0_check_40 (by decide) (fun c => ?_) (fun c => ?_)
    · have h := it c h
      refine lv_aload_n hx hb dX0_check_93 rfl (lv_at hl 0 rfl) ?_
      obtain ⟨r1, e, h⟩ := bd h
      refine fx_gR hx hb hts hown hK hR fl_X0_9 e dX0_check_94 ?_
      refine lv_iconst (v := 0) hx hb dX0_check_97 (by decide) ?_
      refine lv_aload hx hb dX0_check_98 (lv_at hl 3 rfl) ?_
      refine lv_iconst (v := 2) hx hb dX0_check_100 (by decide) ?_
      refine lv_iload hx hb dX0_check_101 (lv_at hl 4 rfl) ?_
      refine lv_iconst (v := (-1)) hx hb dX0_check_103 (by decide) ?_
      refine lv_ixor hx hb dX0_check_104 ?_
      obtain ⟨v2, e, h⟩ := bd h
      refine fx_sI' (As := [.ref a4, .int 2, .int (x5 ^^^ (-1))]) (rest := [.int 0, .ref r1]) hx hb hml hts hown hK hR hS (mX0_linesWith l D dA A e) my_X0_linesWith ms_X0_linesWith ml_X0_32 rfl hl.1 rfl (Nat.le_of_ble_eq_true rfl) dX0_check_105 ⟨Nat.le_of_ble_eq_true rfl, Nat.le_of_ble_eq_true rfl⟩ ⟨Nat.le_refl _, Nat.le_refl _⟩ (fun H locs hR hS => ?_)
      obtain ⟨w3, e, h⟩ := bd h
      refine fx_sI hx hb hK hR hS e dX0_check_108 (fun H locs hR hS => ?_)
      refine lv_aload_n hx hb dX0_check_109 rfl (lv_at hl 0 rfl) ?_
      obtain ⟨r4, e, h⟩ := bd h
      refine fx_gR hx hb hts hown hK hR fl_X0_9 e dX0_check_110 ?_
      refine lv_iconst (v := 1) hx hb dX0_check_113 (by decide) ?_
      refine lv_aload hx hb dX0_check_114 (lv_at hl 3 rfl) ?_
      obtain ⟨v5, e, h⟩ := bd h
      refine fx_sI' (As := [.ref a4]) (rest := [.int 1, .ref r4]) hx hb hml hts hown hK hR hS (mX0_repeatedDefs l D dA A e) my_X0_repeatedDefs ms_X0_repeatedDefs ml_X0_36 rfl hl.1 rfl (Nat.le_of_ble_eq_true rfl) dX0_check_116 ⟨Nat.le_of_ble_eq_true rfl, Nat.le_of_ble_eq_true rfl⟩ ⟨Nat.le_refl _, Nat.le_refl _⟩ (fun H locs hR hS => ?_)
      obtain ⟨w6, e, h⟩ := bd h
      refine fx_sI hx hb hK hR hS e dX0_check_119 (fun H locs hR hS => ?_)
      refine lv_aload_n hx hb dX0_check_120 rfl (lv_at hl 0 rfl) ?_
      obtain ⟨r7, e, h⟩ := bd h
      refine fx_gR hx hb hts hown hK hR fl_X0_9 e dX0_check_121 ?_
      refine lv_iconst (v := 2) hx hb dX0_check_124 (by decide) ?_
      refine lv_aload_n hx hb dX0_check_125 rfl (lv_at hl 0 rfl) ?_
      refine lv_aload hx hb dX0_check_126 (lv_at hl 3 rfl) ?_
      obtain ⟨_, eO, h⟩ := bd h
      obtain ⟨t8, e, h⟩ := bd h
      refine fx_vI (As := [.ref a4]) (rest := [.int 2, .ref r7]) hx hb hml hts hown hK hR hS eO (mX0_unpaired l D dA A e) my_X0_unpaired mv_X0_unpaired rfl ml_X0_40 rfl hl.1 rfl (Nat.le_of_ble_eq_true rfl) dX0_check_128 ⟨Nat.le_of_ble_eq_true rfl, Nat.le_of_ble_eq_true rfl⟩ ⟨Nat.le_refl _, Nat.le_refl _⟩ (fun H locs hR hS => ?_)
      obtain ⟨w9, e, h⟩ := bd h
      refine fx_sI hx hb hK hR hS e dX0_check_131 (fun H locs hR hS => ?_)
      refine lv_aload_n hx hb dX0_check_132 rfl (lv_at hl 0 rfl) ?_
      obtain ⟨r10, e, h⟩ := bd h
      refine fx_gR hx hb hts hown hK hR fl_X0_9 e dX0_check_133 ?_
      refine lv_iconst (v := 3) hx hb dX0_check_136 (by decide) ?_
      refine lv_aload hx hb dX0_check_137 (lv_at hl 3 rfl) ?_
      refine lv_iconst (v := 0) hx hb dX0_check_139 (by decide) ?_
      refine lv_iload_n hx hb dX0_check_140 rfl (lv_at hl 2 rfl) ?_
      obtain ⟨v11, e, h⟩ := bd h
      refine fx_sI' (As := [.ref a4, .int 0, .int x3]) (rest := [.int 3, .ref r10]) hx hb hml hts hown hK hR hS (mX0_linesWith l D dA A e) my_X0_linesWith ms_X0_linesWith ml_X0_32 rfl hl.1 rfl (Nat.le_of_ble_eq_true rfl) dX0_check_141 ⟨Nat.le_of_ble_eq_true rfl, Nat.le_of_ble_eq_true rfl⟩ ⟨Nat.le_refl _, Nat.le_refl _⟩ (fun H locs hR hS => ?_)
      obtain ⟨w12, e, h⟩ := bd h
      refine fx_sI hx hb hK hR hS e dX0_check_144 (fun H locs hR hS => ?_)
      refine lv_aload_n hx hb dX0_check_145 rfl (lv_at hl 0 rfl) ?_
      obtain ⟨r13, e, h⟩ := bd h
      refine fx_gR hx hb hts hown hK hR fl_X0_9 e dX0_check_146 ?_
      refine lv_iconst (v := 4) hx hb dX0_check_149 (by decide) ?_
      refine lv_aload hx hb dX0_check_150 (lv_at hl 3 rfl) ?_
      refine lv_iload hx hb dX0_check_152 (lv_at hl 7 rfl) ?_
      obtain ⟨v14, e, h⟩ := bd h
      refine fx_sI' (As := [.ref a4, .int x8]) (rest := [.int 4, .ref r13]) hx hb hml hts hown hK hR hS (mX0_importsOf l D dA A e) my_X0_importsOf ms_X0_importsOf ml_X0_43 rfl hl.1 rfl (Nat.le_of_ble_eq_true rfl) dX0_check_154 ⟨Nat.le_of_ble_eq_true rfl, Nat.le_of_ble_eq_true rfl⟩ ⟨Nat.le_refl _, Nat.le_refl _⟩ (fun H locs hR hS => ?_)
      obtain ⟨w15, e, h⟩ := bd h
      refine fx_sI hx hb hK hR hS e dX0_check_157 (fun H locs hR hS => ?_)
      exact fx_vret hx hb hr hlocks (Option.some.inj h) hR hS dX0_check_158
    · have h := ie c h
      refine lv_aload_n hx hb dX0_check_43 rfl (lv_at hl 1 rfl) ?_
      refine lv_iload hx hb dX0_check_44 (lv_at hl 8 rfl) ?_
      obtain ⟨r16, e, h⟩ := bd h
      refine fx_lR hx hb hK hR (kd := 0) rfl rfl e dX0_check_46 ?_
      refine lv_iconst (v := 1) hx hb dX0_check_47 (by decide) ?_
      obtain ⟨_, eO, h⟩ := bd h
      obtain ⟨v17, e, h⟩ := bd h
      refine fx_vI (As := [.int 1]) (rest := []) hx hb hml hts hown hK hR hS eO (mX4_numbersOf l D dA A e) my_X4_numbersOf mv_X4_numbersOf rfl ml_X0_18 rfl hl.1 rfl (Nat.le_of_ble_eq_true rfl) dX0_check_48 ⟨Nat.le_of_ble_eq_true rfl, Nat.le_of_ble_eq_true rfl⟩ ⟨Nat.le_refl _, Nat.le_refl _⟩ (fun H locs hR hS => ?_)
      refine lv_istore (lv' := [(10, .int v17), (0, .ref a0), (1, .ref a1), (3, .int x3), (4, .ref a4), (5, .int x5), (6, .int x6), (7, .int x7), (8, .int x8), (9, .int x9)]) hx hb dX0_check_51 hl (by decide) rfl (fun ls hl => ?_)
      refine lv_iload hx hb dX0_check_53 (lv_at hl 7 rfl) ?_
      refine lv_iload hx hb dX0_check_55 (lv_at hl 9 rfl) ?_
      obtain ⟨v18, e, h⟩ := bd h
      refine fx_sN (As := [.int x7, .int x9]) (rest := []) hx hb hml hts hown hK hR hS (mX6_has l D dA A e) my_X6_has ms_X6_has hK.2.1 rfl hl.1 rfl (Nat.le_of_ble_eq_true rfl) dX0_check_57 ⟨Nat.le_of_ble_eq_true rfl, Nat.le_of_ble_eq_true rfl⟩ ⟨Nat.le_refl _, Nat.le_refl _⟩ (fun H locs hR hS => ?_)
      refine lv_if_eq (tgt := 70) hx hb dX0_check_60 (by decide) (fun c => ?_) (fun c => ?_)
      · have h := it c h
        exact qX0_check_b70 C (K36 := fX0_check_L36  n) (hK36 := @ih) hR hS (lv_sub hl [1, 2, 3, 4, 5, 6, 7, 8, 9, 0] rfl) h
      · have h := ie c h
        refine lv_iload hx hb dX0_check_63 (lv_at hl 5 rfl) ?_
        refine lv_iload hx hb dX0_check_65 (lv_at hl 0 rfl) ?_
        refine lv_ior hx hb dX0_check_67 ?_
        refine lv_istore (lv' := [(5, .int (x5 ||| v17)), (10, .int v17), (0, .ref a0), (1, .ref a1), (3, .int x3), (4, .ref a4), (6, .int x6), (7, .int x7), (8, .int x8), (9, .int x9)]) hx hb dX0_check_68 hl (by decide) rfl (fun ls hl => ?_)
        exact qX0_check_b70 C (K36 := fX0_check_L36  n) (hK36 := @ih) hR hS (lv_sub hl [2, 3, 4, 5, 0, 6, 7, 8, 9, 1] rfl) h
def fX0_check (w : Fw) (a0 : Nat) (a1 : Nat) (x2 : Int32) (x3 : Int32) : Option (Fw) := ((lR w 0 a1 x2).bind fun r19 => ((isO w r19 4).bind fun _ => ((fX4_numbersOf w r19 1).bind fun v20 => ((isO w r19 4).bind fun _ => ((fX4_numbersOf w r19 2).bind fun v21 => ((isO w r19 4).bind fun _ => ((fX4_importedFiles w r19).bind fun v22 => (fX0_check_L36 1000 w a0 a1 x3 r19 v20 v21 v22 ((1 : Int32) <<< (x2 &&& 31)) 0))))))))
set_option maxRecDepth 100000 in
set_option maxHeartbeats 4000000 in
theorem mX0_check (l : Launch) (D : va_G) (dA : Nat → ClassId) (A : Nat → Prop) {w : Fw} {a0 : Nat} {a1 : Nat} {x2 : Int32} {x3 : Int32} {res : Fw} (h : fX0_check w a0 a1 x2 x3 = some res) : Met l yX0_check (wz yX0_check cX0_check 11 none) (rz 2 46) (Pz D dA A w [.ref a0, .ref a1, .int x2, .int x3]) (QzV D dA A res) 0 0 A := by
  refine Met.ofW (cc := cX0_check) (maxL := 11) (ret := none) (by decide) rfl ?_
  intro p e s m args below meth c s₁ B hml hv
  obtain ⟨rfl, hR, hK⟩ := hv
  have hx := B.exec
  have hb := B.bytes
  have hr := B.returns
  have hts : ∀ w ∈ lw_g, w.before [.ref a0, .ref a1, .int x2, .int x3].toArray s = true := fun w hw => atoms_spec (ws := wz yX0_check cX0_check 11 none) B.pre w (List.mem_cons_of_mem _ hw)
  have hown : s.vm.findClass RX0 = some m.cls := findClass_of_methodNamed B.named
  have hlocks := B.notSynchronized
  have C : Cx p s m [.ref a0, .ref a1, .int x2, .int x3].toArray meth c D dA RX0 cX0_check 11 none := ⟨hx, hb, hr, hml, hown, hts, hK, hlocks⟩
  have hS : va_S A s.heap s.heap [] := va_S.rf
  have hl := lv_entry ([.ref a0, .ref a1, .int x2, .int x3]) (n := 11) (Nat.le_of_ble_eq_true rfl)
  rw [lg_entry_eq]
  generalize (lg_sl ([.ref a0, .ref a1, .int x2, .int x3]) ++ List.replicate (11 - (lg_sl ([.ref a0, .ref a1, .int x2, .int x3])).length) Slot.unset).toArray = ls at hl ⊢
  have hl : lv_has ls 11 [(0, .ref a0), (1, .ref a1), (2, .int x2), (3, .int x3)] := hl
  unfold fX0_check at h
  show W p l e (rz 2 46) s m _ below meth c s.heap [] 0 0 _ _
  refine lv_aload_n hx hb dX0_check_0 rfl (lv_at hl 1 rfl) ?_
  refine lv_iload_n hx hb dX0_check_1 rfl (lv_at hl 2 rfl) ?_
  obtain ⟨r19, e, h⟩ := bd h
  refine fx_lR hx hb hK hR (kd := 0) rfl rfl e dX0_check_2 ?_
  refine lv_astore (lv' := [(4, .ref r19), (0, .ref a0), (1, .ref a1), (2, .int x2), (3, .int x3)]) hx hb dX0_check_3 hl (by decide) rfl (fun ls hl => ?_)
  refine lv_aload hx hb dX0_check_5 (lv_at hl 0 rfl) ?_
  refine lv_iconst (v := 1) hx hb dX0_check_7 (by decide) ?_
  obtain ⟨_, eO, h⟩ := bd h
  obtain ⟨v20, e, h⟩ := bd h
  refine fx_vI (As := [.int 1]) (rest := []) hx hb hml hts hown hK hR hS eO (mX4_numbersOf l D dA A e) my_X4_numbersOf mv_X4_numbersOf rfl ml_X0_18 rfl hl.1 rfl (Nat.le_of_ble_eq_true rfl) dX0_check_8 ⟨Nat.le_of_ble_eq_true rfl, Nat.le_of_ble_eq_true rfl⟩ ⟨Nat.le_refl _, Nat.le_refl _⟩ (fun H locs hR hS => ?_)
  refine lv_istore (lv' := [(5, .int v20), (4, .ref r19), (0, .ref a0), (1, .ref a1), (2, .int x2), (3, .int x3)]) hx hb dX0_check_11 hl (by decide) rfl (fun ls hl => ?_)
  refine lv_aload hx hb dX0_check_13 (lv_at hl 1 rfl) ?_
  refine lv_iconst (v := 2) hx hb dX0_check_15 (by decide) ?_
  obtain ⟨_, eO, h⟩ := bd h
  obtain ⟨v21, e, h⟩ := bd h
  refine fx_vI (As := [.int 2]) (rest := []) hx hb hml hts hown hK hR hS eO (mX4_numbersOf l D dA A e) my_X4_numbersOf mv_X4_numbersOf rfl ml_X0_18 rfl hl.1 rfl (Nat.le_of_ble_eq_true rfl) dX0_check_16 ⟨Nat.le_of_ble_eq_true rfl, Nat.le_of_ble_eq_true rfl⟩ ⟨Nat.le_refl _, Nat.le_refl _⟩ (fun H locs hR hS => ?_)
  refine lv_istore (lv' := [(6, .int v21), (5, .int v20), (4, .ref r19), (0, .ref a0), (1, .ref a1), (2, .int x2), (3, .int x3)]) hx hb dX0_check_19 hl (by decide) rfl (fun ls hl => ?_)
  refine lv_aload hx hb dX0_check_21 (lv_at hl 2 rfl) ?_
  obtain ⟨_, eO, h⟩ := bd h
  obtain ⟨v22, e, h⟩ := bd h
  refine fx_vI (As := []) (rest := []) hx hb hml hts hown hK hR hS eO (mX4_importedFiles l D dA A e) my_X4_importedFiles mv_X4_importedFiles rfl ml_X0_24 rfl hl.1 rfl (Nat.le_of_ble_eq_true rfl) dX0_check_23 ⟨Nat.le_of_ble_eq_true rfl, Nat.le_of_ble_eq_true rfl⟩ ⟨Nat.le_refl _, Nat.le_refl _⟩ (fun H locs hR hS => ?_)
  refine lv_istore (lv' := [(7, .int v22), (6, .int v21), (5, .int v20), (4, .ref r19), (0, .ref a0), (1, .ref a1), (2, .int x2), (3, .int x3)]) hx hb dX0_check_26 hl (by decide) rfl (fun ls hl => ?_)
  refine lv_iconst (v := 1) hx hb dX0_check_28 (by decide) ?_
  refine lv_iload_n hx hb dX0_check_29 rfl (lv_at hl 6 rfl) ?_
  refine lv_ishl hx hb dX0_check_30 ?_
  refine lv_istore (lv' := [(8, .int ((1 : Int32) <<< (x2 &&& 31))), (7, .int v22), (6, .int v21), (5, .int v20), (4, .ref r19), (0, .ref a0), (1, .ref a1), (2, .int x2), (3, .int x3)]) hx hb dX0_check_31 hl (by decide) rfl (fun ls hl => ?_)
  refine lv_iconst (v := 0) hx hb dX0_check_33 (by decide) ?_
  refine lv_istore (lv' := [(9, .int 0), (8, .int ((1 : Int32) <<< (x2 &&& 31))), (7, .int v22), (6, .int v21), (5, .int v20), (4, .ref r19), (0, .ref a0), (1, .ref a1), (2, .int x2), (3, .int x3)]) hx hb dX0_check_34 hl (by decide) rfl (fun ls hl => ?_)
  exact qX0_check_L36 C   1000 hR hS (lv_sub hl [6, 7, 9, 5, 4, 3, 2, 1, 0] rfl) h
def fX0_linesOf (w : Fw) (a0 : Nat) (x1 : Int32) : Option (Int32) := ((gR w a0 0 0).bind fun r1 => ((lI w r1 x1).bind fun v2 => some v2))
set_option maxRecDepth 100000 in
set_option maxHeartbeats 4000000 in
theorem mX0_linesOf (l : Launch) (D : va_G) (dA : Nat → ClassId) (A : Nat → Prop) {w : Fw} {a0 : Nat} {x1 : Int32} {res : Int32} (h : fX0_linesOf w a0 x1 = some res) : Met l yX0_linesOf (wz yX0_linesOf cX0_linesOf 2 (some .int)) (rz 0 0) (Pz D dA A w [.ref a0, .int x1]) (QzI D dA A res w) 0 0 A := by
  refine Met.ofW (cc := cX0_linesOf) (maxL := 2) (ret := (some .int)) (by decide) rfl ?_
  intro p e s m args below meth c s₁ B hml hv
  obtain ⟨rfl, hR, hK⟩ := hv
  have hx := B.exec
  have hb := B.bytes
  have hr := B.returns
  have hts : ∀ w ∈ lw_g, w.before [.ref a0, .int x1].toArray s = true := fun w hw => atoms_spec (ws := wz yX0_linesOf cX0_linesOf 2 (some .int)) B.pre w (List.mem_cons_of_mem _ hw)
  have hown : s.vm.findClass RX0 = some m.cls := findClass_of_methodNamed B.named
  have hlocks := B.notSynchronized
  have C : Cx p s m [.ref a0, .int x1].toArray meth c D dA RX0 cX0_linesOf 2 (some .int) := ⟨hx, hb, hr, hml, hown, hts, hK, hlocks⟩
  have hS : va_S A s.heap s.heap [] := va_S.rf
  have hl := lv_entry ([.ref a0, .int x1]) (n := 2) (Nat.le_of_ble_eq_true rfl)
  rw [lg_entry_eq]
  generalize (lg_sl ([.ref a0, .int x1]) ++ List.replicate (2 - (lg_sl ([.ref a0, .int x1])).length) Slot.unset).toArray = ls at hl ⊢
  have hl : lv_has ls 2 [(0, .ref a0), (1, .int x1)] := hl
  unfold fX0_linesOf at h
  show W p l e (rz 0 0) s m _ below meth c s.heap [] 0 0 _ _
  refine lv_aload_n hx hb dX0_linesOf_0 rfl (lv_at hl 0 rfl) ?_
  obtain ⟨r1, e, h⟩ := bd h
  refine fx_gR hx hb hts hown hK hR fl_X0_9 e dX0_linesOf_1 ?_
  refine lv_iload_n hx hb dX0_linesOf_4 rfl (lv_at hl 1 rfl) ?_
  obtain ⟨v2, e, h⟩ := bd h
  refine fx_lI hx hb hK hR e dX0_linesOf_5 ?_
  exact fx_iret hx hb hr hlocks (Option.some.inj h) rfl hR hS dX0_linesOf_6
