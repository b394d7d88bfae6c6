def fX6_find_L2 (w : Fw)  : Nat → Nat → Int32 → Int32 → Int32 → Option (Int32)
  | 0, _, _, _, _ => none
  | n + 1, a0, x1, x2, x3 => if 6 ≤ x3 then some ((-1) : Int32) else ((gR w a0 6 0).bind fun r1 => ((lR w 0 r1 x3).bind fun r2 => ((isO w r2 4).bind fun _ => ((fX4_findings w r2).bind fun r3 => ((isO w r3 2).bind fun _ => ((fX2_placeOf w r3 x1 x2).bind fun v4 => (if v4 = (-1) then (fX6_find_L2 w n a0 x1 x2 (x3 + 1)) else ((isO w a0 6).bind fun _ => ((fX6_findingsAhead w a0 x3).bind fun v5 => some (v5 + v4))))))))))
set_option maxRecDepth 100000 in
set_option maxHeartbeats 4000000 in
theorem qX6_find_L2 {p : Program} {l : Launch} {e : Env} {s : State} {m : MethodId} {args : Array Value} {below : List Frame} {meth : Method} {c : Code} {D : va_G} {dA : Nat → ClassId} {A : Nat → Prop} (C : Cx p s m args meth c D dA RX6 cX6_find 5 (some .int)) {w : Fw} {res : Int32}   : ∀ (n : Nat) {H : Heap} {locs : List Loc} {ls : Array Slot} {a0 : Nat} {x1 : Int32} {x2 : Int32} {x3 : Int32}, Rp D dA A w H → va_S A s.heap H locs → lv_has ls 5 [(0, .ref a0), (1, .int x1), (2, .int x2), (3, .int x3)] → fX6_find_L2 w n a0 x1 x2 x3 = some res → W p l e (rz 2 43) s m args below meth c H locs 0 0 (MQ below (QzI D dA A res w) args s 0 0 A) (F0 m 2 ls []) := by
  obtain ⟨hx, hb, hr, hml, hown, hts, hK, hlocks⟩ := id C
  intro n
  induction n with
  | zero =>
    intro H locs ls a0 x1 x2 x3 hR hS hl h
    rw [fX6_find_L2.eq_1] at h
    cases h
  | succ n ih =>
    intro H locs ls a0 x1 x2 x3 hR hS hl h
    rw [fX6_find_L2.eq_2] at h
    refine lv_iload_n hx hb dX6_find_2 rfl (lv_at hl 3 rfl) ?_
    refine lv_bipush (v := 6) hx hb dX6_find_3 (by decide) ?_
    refine lv_icmp_ge (tgt := 45) hx hb dX6_find_5 (by decide) (fun c => ?_) (fun c => ?_)
    · have h := it c h
      refine lv_iconst (v := (-1)) hx hb dX6_find_45 (by decide) ?_
      exact fx_iret hx hb hr hlocks (Option.some.inj h) rfl hR hS dX6_find_46
    · have h := ie c h
      refine lv_aload_n hx hb dX6_find_8 rfl (lv_at hl 0 rfl) ?_
      obtain ⟨r1, e, h⟩ := bd h
      refine fx_gR hx hb hts hown hK hR fl_X6_11 e dX6_find_9 ?_
      refine lv_iload_n hx hb dX6_find_12 rfl (lv_at hl 3 rfl) ?_
      obtain ⟨r2, e, h⟩ := bd h
      refine fx_lR hx hb hK hR (kd := 0) rfl rfl e dX6_find_13 ?_
      obtain ⟨_, eO, h⟩ := bd h
      obtain ⟨r3, e, h⟩ := bd h
      refine fx_vR (As := []) (rest := []) hx hb hml hts hown hK hR hS eO (mX4_findings l D dA A e) my_X4_findings mv_X4_findings rfl ml_X6_133 rfl hl.1 rfl (Nat.le_of_ble_eq_true rfl) dX6_find_14 ⟨Nat.le_of_ble_eq_true rfl, Nat.le_of_ble_eq_true rfl⟩ ⟨Nat.le_refl _, Nat.le_refl _⟩ (fun H locs hR hS => ?_)
      refine lv_iload_n hx hb dX6_find_17 rfl (lv_at hl 1 rfl) ?_
      refine lv_iload_n hx hb dX6_find_18 rfl (lv_at hl 2 rfl) ?_
      obtain ⟨_, eO, h⟩ := bd h
      obtain ⟨v4, e, h⟩ := bd h
      refine fx_vI (As := [.int x1, .int x2]) (rest := []) hx hb hml hts hown hK hR hS eO (mX2_placeOf l D dA A e) my_X2_placeOf mv_X2_placeOf rfl ml_X6_159 rfl hl.1 rfl (Nat.le_of_ble_eq_true rfl) dX6_find_19 ⟨Nat.le_of_ble_eq_true rfl, Nat.le_of_ble_eq_true rfl⟩ ⟨Nat.le_refl _, Nat.le_refl _⟩ (fun H locs hR hS => ?_)
      refine lv_istore (lv' := [(4, .int v4), (0, .ref a0), (1, .int x1), (2, .int x2), (3, .int x3)]) hx hb dX6_find_22 hl (by decide) rfl (fun ls hl => ?_)
      refine lv_iload hx hb dX6_find_24 (lv_at hl 0 rfl) ?_
      refine lv_iconst (v := (-1)) hx hb dX6_find_26 (by decide) ?_
      refine lv_icmp_eq (tgt := 39) hx hb dX6_find_27 (by decide) (fun c => ?_) (fun c => ?_)
      · have h := it c h
        refine lv_iinc (v := (x3 + 1)) (lv' := [(3, .int (x3 + 1)), (4, .int v4), (0, .ref a0), (1, .int x1), (2, .int x2)]) hx hb dX6_find_39 hl (k := 4) rfl rfl (by decide) rfl (fun ls hl => ?_)
        refine lv_goto (tgt := 2) hx hb dX6_find_42 (by decide) ?_
        exact ih hR hS (lv_sub hl [2, 3, 4, 0] rfl) h
      · have h := ie c h
        refine lv_aload_n hx hb dX6_find_30 rfl (lv_at hl 1 rfl) ?_
        refine lv_iload_n hx hb dX6_find_31 rfl (lv_at hl 4 rfl) ?_
        obtain ⟨_, eO, h⟩ := bd h
        obtain ⟨v5, e, h⟩ := bd h
        refine fx_vI (As := [.int x3]) (rest := []) hx hb hml hts hown hK hR hS eO (mX6_findingsAhead l D dA A e) my_X6_findingsAhead mv_X6_findingsAhead rfl ml_X6_114 rfl hl.1 rfl (Nat.le_of_ble_eq_true rfl) dX6_find_32 ⟨Nat.le_of_ble_eq_true rfl, Nat.le_of_ble_eq_true rfl⟩ ⟨Nat.le_refl _, Nat.le_refl _⟩ (fun H locs hR hS => ?_)
        refine lv_iload hx hb dX6_find_35 (lv_at hl 0 rfl) ?_
        refine lv_iadd hx hb dX6_find_37 ?_
        exact fx_iret hx hb hr hlocks (Option.some.inj h) rfl hR hS dX6_find_38
def fX6_find (w : Fw) (a0 : Nat) (x1 : Int32) (x2 : Int32) : Option (Int32) := (fX6_find_L2 w 1000 a0 x1 x2 0)
set_option maxRecDepth 100000 in
set_option maxHeartbeats 4000000 in
theorem mX6_find (l : Launch) (D : va_G) (dA : Nat → ClassId) (A : Nat → Prop) {w : Fw} {a0 : Nat} {x1 : Int32} {x2 : Int32} {res : Int32} (h : fX6_find w a0 x1 x2 = some res) : Met l yX6_find (wz yX6_find cX6_find 5 (some .int)) (rz 2 43) (Pz D dA A w [.ref a0, .int x1, .int x2]) (QzI D dA A res w) 0 0 A := by
  refine Met.ofW (cc := cX6_find) (maxL := 5) (ret := (some .int)) (by decide) rfl ?_
  intro p e s m args below meth c s₁ B hml hv
  obtain ⟨rfl, hR, hK⟩ := hv
  have hx := B.exec
  have hb := B.bytes
  have hr := B.returns
  have hts : ∀ w ∈ lw_g, w.before [.ref a0, .int x1, .int x2].toArray s = true := fun w hw => atoms_spec (ws := wz yX6_find cX6_find 5 (some .int)) B.pre w (List.mem_cons_of_mem _ hw)
  have hown : s.vm.findClass RX6 = some m.cls := findClass_of_methodNamed B.named
  have hlocks := B.notSynchronized
  have C : Cx p s m [.ref a0, .int x1, .int x2].toArray meth c D dA RX6 cX6_find 5 (some .int) := ⟨hx, hb, hr, hml, hown, hts, hK, hlocks⟩
  have hS : va_S A s.heap s.heap [] := va_S.rf
  have hl := lv_entry ([.ref a0, .int x1, .int x2]) (n := 5) (Nat.le_of_ble_eq_true rfl)
  rw [lg_entry_eq]
  generalize (lg_sl ([.ref a0, .int x1, .int x2]) ++ List.replicate (5 - (lg_sl ([.ref a0, .int x1, .int x2])).length) Slot.unset).toArray = ls at hl ⊢
  have hl : lv_has ls 5 [(0, .ref a0), (1, .int x1), (2, .int x2)] := hl
  unfold fX6_find at h
  show W p l e (rz 2 43) s m _ below meth c s.heap [] 0 0 _ _
  refine lv_iconst (v := 0) hx hb dX6_find_0 (by decide) ?_
  refine lv_istore_n (lv' := [(3, .int 0), (0, .ref a0), (1, .int x1), (2, .int x2)]) hx hb dX6_find_1 rfl hl (by decide) rfl (fun ls hl => ?_)
  exact qX6_find_L2 C   1000 hR hS (lv_sub hl [1, 2, 3, 0] rfl) h
def fX6_silence_b58  (w : Fw)  : Option (Int32 × Fw) := (zb 0).bind fun z1 => some (z1, w)
set_option maxRecDepth 100000 in
set_option maxHeartbeats 4000000 in
theorem qX6_silence_b58 {p : Program} {l : Launch} {e : Env} {s : State} {m : MethodId} {args : Array Value} {below : List Frame} {meth : Method} {c : Code} {D : va_G} {dA : Nat → ClassId} {A : Nat → Prop} (C : Cx p s m args meth c D dA RX6 cX6_silence 7 (some .boolean)) {w : Fw} {res : Int32 × Fw}   {H : Heap} {locs : List Loc} {ls : Array Slot}  (hR : Rp D dA A w H) (hS : va_S A s.heap H locs) (hl : lv_has ls 7 []) (h : fX6_silence_b58 w = some res) : W p l e (rz 2 44) s m args below meth c H locs 0 0 (MQ below (QzI D dA A res.1 res.2) args s 0 0 A) (F0 m 58 ls []) := by
  obtain ⟨hx, hb, hr, hml, hown, hts, hK, hlocks⟩ := id C
  unfold fX6_silence_b58 at h
  refine lv_iconst (v := 0) hx hb dX6_silence_58 (by decide) ?_
  obtain ⟨z1, e, h⟩ := bd h
  exact fx_zret hx hb hr hlocks (e.trans (congrArg some (pr1 h))) (pr2 h) hR hS dX6_silence_59
def fX6_silence_b40  (w : Fw) (a0 : Nat) (x1 : Int32) (x2 : Int32) (x3 : Int32) (x4 : Int32) (x5 : Int32) (s0 : Int32) : Option (Int32 × Fw) := if x4 = (-1) then (fX6_silence_b58 w) else if x5 = 0 then (fX6_silence_b58 w) else if s0 = 0 then (fX6_silence_b58 w) else ((gR w a0 6 0).bind fun r2 => ((lR w 0 r2 x4).bind fun r3 => ((isO w r3 4).bind fun _ => ((fX4_findings w r3).bind fun r4 => ((isO w a0 6).bind fun _ => ((fX6_findingsAhead w a0 x4).bind fun v5 => ((gI w a0 6 6).bind fun v6 => ((isO w r4 2).bind fun _ => ((fX2_hush w r4 (x1 - v5) (v6 + x2) x3).bind fun w7 => (zb 1).bind fun z8 => some (z8, w7))))))))))
set_option maxRecDepth 100000 in
set_option maxHeartbeats 4000000 in
theorem qX6_silence_b40 {p : Program} {l : Launch} {e : Env} {s : State} {m : MethodId} {args : Array Value} {below : List Frame} {meth : Method} {c : Code} {D : va_G} {dA : Nat → ClassId} {A : Nat → Prop} (C : Cx p s m args meth c D dA RX6 cX6_silence 7 (some .boolean)) {w : Fw} {res : Int32 × Fw}   {H : Heap} {locs : List Loc} {ls : Array Slot} {a0 : Nat} {x1 : Int32} {x2 : Int32} {x3 : Int32} {x4 : Int32} {x5 : Int32} {s0 : Int32} (hR : Rp D dA A w H) (hS : va_S A s.heap H locs) (hl : lv_has ls 7 [(0, .ref a0), (1, .int x1), (2, .int x2), (3, .int x3), (4, .int x4), (5, .int x5)]) (h : fX6_silence_b40 w a0 x1 x2 x3 x4 x5 s0 = some res) : W p l e (rz 2 44) s m args below meth c H locs 0 0 (MQ below (QzI D dA A res.1 res.2) args s 0 0 A) (F0 m 40 ls [.int s0]) := by
  obtain ⟨hx, hb, hr, hml, hown, hts, hK, hlocks⟩ := id C
  unfold fX6_silence_b40 at h
  refine lv_istore (lv' := [(6, .int s0), (0, .ref a0), (1, .int x1), (2, .int x2), (3, .int x3), (4, .int x4), (5, .int x5)]) hx hb dX6_silence_40 hl (by decide) rfl (fun ls hl => ?_)
  refine lv_iload hx hb dX6_silence_42 (lv_at hl 5 rfl) ?_
  refine lv_iconst (v := (-1)) hx hb dX6_silence_44 (by decide) ?_
  refine lv_icmp_eq (tgt := 58) hx hb dX6_silence_45 (by decide) (fun c => ?_) (fun c => ?_)
  · have h := it c h
    exact qX6_silence_b58 C   hR hS (lv_sub hl [] rfl) h
  · have h := ie c h
    refine lv_iload hx hb dX6_silence_48 (lv_at hl 6 rfl) ?_
    refine lv_if_eq (tgt := 58) hx hb dX6_silence_50 (by decide) (fun c => ?_) (fun c => ?_)
    · have h := it c h
      exact qX6_silence_b58 C   hR hS (lv_sub hl [] rfl) h
    · have h := ie c h
      refine lv_iload hx hb dX6_silence_53 (lv_at hl 0 rfl) ?_
      refine lv_if_ne (tgt := 60) hx hb dX6_silence_55 (by decide) (fun c => ?_) (fun c => ?_)
      · have h := ie c h
        refine lv_aload_n hx hb dX6_silence_60 rfl (lv_at hl 1 rfl) ?_
        obtain ⟨r2, e, h⟩ := bd h
        refine fx_gR hx hb hts hown hK hR fl_X6_11 e dX6_silence_61 ?_
        refine lv_iload hx hb dX6_silence_64 (lv_at hl 5 rfl) ?_
        obtain ⟨r3, e, h⟩ := bd h
        refine fx_lR hx hb hK hR (kd := 0) rfl rfl e dX6_silence_66 ?_
        obtain ⟨_, eO, h⟩ := bd h
        obtain ⟨r4, e, h⟩ := bd h
        refine fx_vR (As := []) (rest := []) hx hb hml hts hown hK hR hS eO (mX4_findings l D dA A e) my_X4_findings mv_X4_findings rfl ml_X6_133 rfl hl.1 rfl (Nat.le_of_ble_eq_true rfl) dX6_silence_67 ⟨Nat.le_of_ble_eq_true rfl, Nat.le_of_ble_eq_true rfl⟩ ⟨Nat.le_refl _, Nat.le_refl _⟩ (fun H locs hR hS => ?_)
        refine lv_iload_n hx hb dX6_silence_70 rfl (lv_at hl 2 rfl) ?_
        refine lv_aload_n hx hb dX6_silence_71 rfl (lv_at hl 1 rfl) ?_
        refine lv_iload hx hb dX6_silence_72 (lv_at hl 5 rfl) ?_
        obtain ⟨_, eO, h⟩ := bd h
        obtain ⟨v5, e, h⟩ := bd h
        refine fx_vI (As := [.int x4]) (rest := [.int x1, .ref r4]) hx hb hml hts hown hK hR hS eO (mX6_findingsAhead l D dA A e) my_X6_findingsAhead mv_X6_findingsAhead rfl ml_X6_114 rfl hl.1 rfl (Nat.le_of_ble_eq_true rfl) dX6_silence_74 ⟨Nat.le_of_ble_eq_true rfl, Nat.le_of_ble_eq_true rfl⟩ ⟨Nat.le_refl _, Nat.le_refl _⟩ (fun H locs hR hS => ?_)
        refine lv_isub hx hb dX6_silence_77 ?_
        refine lv_aload_n hx hb dX6_silence_78 rfl (lv_at hl 1 rfl) ?_
        obtain ⟨v6, e, h⟩ := bd h
        refine fx_gI hx hb hts hown hK hR fl_X6_108 e dX6_silence_79 ?_
        refine lv_iload_n hx hb dX6_silence_82 rfl (lv_at hl 3 rfl) ?_
        refine lv_iadd hx hb dX6_silence_83 ?_
        refine lv_iload_n hx hb dX6_silence_84 rfl (lv_at hl 4 rfl) ?_
        obtain ⟨_, eO, h⟩ := bd h
        obtain ⟨w7, e, h⟩ := bd h
        refine fx_vV (As := [.int (x1 - v5), .int (v6 + x2), .int x3]) (rest := []) hx hb hml hts hown hK hR hS eO (mX2_hush l D dA A e) my_X2_hush mv_X2_hush rfl ml_X6_162 rfl hl.1 rfl (Nat.le_of_ble_eq_true rfl) dX6_silence_85 ⟨Nat.le_of_ble_eq_true rfl, Nat.le_of_ble_eq_true rfl⟩ ⟨Nat.le_refl _, Nat.le_refl _⟩ (fun H locs hR hS => ?_)
        refine lv_iconst (v := 1) hx hb dX6_silence_88 (by decide) ?_
        obtain ⟨z8, e, h⟩ := bd h
        exact fx_zret hx hb hr hlocks (e.trans (congrArg some (pr1 h))) (pr2 h) hR hS dX6_silence_89
      · have h := it c h
        exact qX6_silence_b58 C   hR hS (lv_sub hl [] rfl) h
def fX6_silence_b39  (w : Fw) (a0 : Nat) (x1 : Int32) (x2 : Int32) (x3 : Int32) (x4 : Int32) (x5 : Int32) : Option (Int32 × Fw) := (fX6_silence_b40 w a0 x1 x2 x3 x4 x5 0)
set_option maxRecDepth 100000 in
set_option maxHeartbeats 4000000 in
theorem qX6_silence_b39 {p : Program} {l : Launch} {e : Env} {s : State} {m : MethodId} {args : Array Value} {below : List Frame} {meth : Method} {c : Code} {D : va_G} {dA : Nat → ClassId} {A : Nat → Prop} (C : Cx p s m args meth c D dA RX6 cX6_silence 7 (some .boolean)) {w : Fw} {res : Int32 × Fw}   {H : Heap} {locs : List Loc} {ls : Array Slot} {a0 : Nat} {x1 : Int32} {x2 : Int32} {x3 : Int32} {x4 : Int32} {x5 : Int32} (hR : Rp D dA A w H) (hS : va_S A s.heap H locs) (hl : lv_has ls 7 [(0, .ref a0), (1, .int x1), (2, .int x2), (3, .int x3), (4, .int x4), (5, .int x5)]) (h : fX6_silence_b39 w a0 x1 x2 x3 x4 x5 = some res) : W p l e (rz 2 44) s m args below meth c H locs 0 0 (MQ below (QzI D dA A res.1 res.2) args s 0 0 A) (F0 m 39 ls []) := by
  obtain ⟨hx, hb, hr, hml, hown, hts, hK, hlocks⟩ := id C
  unfold fX6_silence_b39 at h
  refine lv_iconst (v := 0) hx hb dX6_silence_39 (by decide) ?_
  exact qX6_silence_b40 C   hR hS (lv_sub hl [0, 1, 2, 3, 4, 5] rfl) h
def fX6_silence_b23  (w : Fw) (a0 : Nat) (x1 : Int32) (x2 : Int32) (x3 : Int32) (x4 : Int32) (s0 : Int32) : Option (Int32 × Fw) := if x3 < 0 then (fX6_silence_b39 w a0 x1 x2 x3 x4 s0) else if 99 < x3 then (fX6_silence_b39 w a0 x1 x2 x3 x4 s0) else (fX6_silence_b40 w a0 x1 x2 x3 x4 s0 1)
set_option maxRecDepth 100000 in
set_option maxHeartbeats 4000000 in
theorem qX6_silence_b23 {p : Program} {l : Launch} {e : Env} {s : State} {m : MethodId} {args : Array Value} {below : List Frame} {meth : Method} {c : Code} {D : va_G} {dA : Nat → ClassId} {A : Nat → Prop} (C : Cx p s m args meth c D dA RX6 cX6_silence 7 (some .boolean)) {w : Fw} {res : Int32 × Fw}   {H : Heap} {locs : List Loc} {ls : Array Slot} {a0 : Nat} {x1 : Int32} {x2 : Int32} {x3 : Int32} {x4 : Int32} {s0 : Int32} (hR : Rp D dA A w H) (hS : va_S A s.heap H locs) (hl : lv_has ls 7 [(0, .ref a0), (1, .int x1), (2, .int x2), (3, .int x3), (4, .int x4)]) (h : fX6_silence_b23 w a0 x1 x2 x3 x4 s0 = some res) : W p l e (rz 2 44) s m args below meth c H locs 0 0 (MQ below (QzI D dA A res.1 res.2) args s 0 0 A) (F0 m 23 ls [.int s0]) := by
  obtain ⟨hx, hb, hr, hml, hown, hts, hK, hlocks⟩ := id C
  unfold fX6_silence_b23 at h
  refine lv_istore (lv' := [(5, .int s0), (0, .ref a0), (1, .int x1), (2, .int x2), (3, .int x3), (4, .int x4)]) hx hb dX6_silence_23 hl (by decide) rfl (fun ls hl => ?_)
  refine lv_iload_n hx hb dX6_silence_25 rfl (lv_at hl 4 rfl) ?_
  refine lv_if_lt (tgt := 39) hx hb dX6_silence_26 (by decide) (fun c => ?_) (fun c => ?_)
  · have h := it c h
    exact qX6_silence_b39 C   hR hS (lv_sub hl [1, 2, 3, 4, 5, 0] rfl) h
  · have h := ie c h
    refine lv_iload_n hx hb dX6_silence_29 rfl (lv_at hl 4 rfl) ?_
    refine lv_bipush (v := 99) hx hb dX6_silence_30 (by decide) ?_
    refine lv_icmp_gt (tgt := 39) hx hb dX6_silence_32 (by decide) (fun c => ?_) (fun c => ?_)
    · have h := it c h
      exact qX6_silence_b39 C   hR hS (lv_sub hl [1, 2, 3, 4, 5, 0] rfl) h
    · have h := ie c h
      refine lv_iconst (v := 1) hx hb dX6_silence_35 (by decide) ?_
      refine lv_goto (tgt := 40) hx hb dX6_silence_36 (by decide) ?_
      exact qX6_silence_b40 C   hR hS (lv_sub hl [1, 2, 3, 4, 5, 0] rfl) h
def fX6_silence_b22  (w : Fw) (a0 : Nat) (x1 : Int32) (x2 : Int32) (x3 : Int32) (x4 : Int32) : Option (Int32 × Fw) := (fX6_silence_b23 w a0 x1 x2 x3 x4 0)
set_option maxRecDepth 100000 in
set_option maxHeartbeats 4000000 in
theorem qX6_silence_b22 {p : Program} {l : Launch} {e : Env} {s : State} {m : MethodId} {args : Array Value} {below : List Frame} {meth : Method} {c : Code} {D : va_G} {dA : Nat → ClassId} {A : Nat → Prop} (C : Cx p s m args meth c D dA RX6 cX6_silence 7 (some .boolean)) {w : Fw} {res : Int32 × Fw}   {H : Heap} {locs : List Loc} {ls : Array Slot} {a0 : Nat} {x1 : Int32} {x2 : Int32} {x3 : Int32} {x4 : Int32} (hR : Rp D dA A w H) (hS : va_S A s.heap H locs) (hl : lv_has ls 7 [(0, .ref a0), (1, .int x1), (2, .int x2), (3, .int x3), (4, .int x4)]) (h : fX6_silence_b22 w a0 x1 x2 x3 x4 = some res) : W p l e (rz 2 44) s m args below meth c H locs 0 0 (MQ below (QzI D dA A res.1 res.2) args s 0 0 A) (F0 m 22 ls []) := by
  obtain ⟨hx, hb, hr, hml, hown, hts, hK, hlocks⟩ := id C
  unfold fX6_silence_b22 at h
  refine lv_iconst (v := 0) hx hb dX6_silence_22 (by decide) ?_
  exact qX6_silence_b23 C   hR hS (lv_sub hl [0, 1, 2, 3, 4] rfl) h
def fX6_silence (w : Fw) (a0 : Nat) (x1 : Int32) (x2 : Int32) (x3 : Int32) : Option (Int32 × Fw) := ((isO w a0 6).bind fun _ => ((fX6_fileOfFinding w a0 x1).bind fun v9 => (if x2 < 1 then (fX6_silence_b22 w a0 x1 x2 x3 v9) else if 99 < x2 then (fX6_silence_b22 w a0 x1 x2 x3 v9) else (fX6_silence_b23 w a0 x1 x2 x3 v9 1))))
set_option maxRecDepth 100000 in
set_option maxHeartbeats 4000000 in
theorem mX6_silence (l : Launch) (D : va_G) (dA : Nat → ClassId) (A : Nat → Prop) {w : Fw} {a0 : Nat} {x1 : Int32} {x2 : Int32} {x3 : Int32} {res : Int32 × Fw} (h : fX6_silence w a0 x1 x2 x3 = some res) : Met l yX6_silence (wz yX6_silence cX6_silence 7 (some .boolean)) (rz 2 44) (Pz D dA A w [.ref a0, .int x1, .int x2, .int x3]) (QzI D dA A res.1 res.2) 0 0 A := by
  refine Met.ofW (cc := cX6_silence) (maxL := 7) (ret := (some .boolean)) (by decide) rfl ?_
  intro p e s m args below meth c s₁ B hml hv
  obtain ⟨rfl, hR, hK⟩ := hv
  have hx := B.exec
  have hb := B.bytes
  have hr := B.returns
  have hts : ∀ w ∈ lw_g, w.before [.ref a0, .int x1, .int x2, .int x3].toArray s = true := fun w hw => atoms_spec (ws := wz yX6_silence cX6_silence 7 (some .boolean)) B.pre w (List.mem_cons_of_mem _ hw)
  have hown : s.vm.findClass RX6 = some m.cls := findClass_of_methodNamed B.named
  have hlocks := B.notSynchronized
  have C : Cx p s m [.ref a0, .int x1, .int x2, .int x3].toArray meth c D dA RX6 cX6_silence 7 (some .boolean) := ⟨hx, hb, hr, hml, hown, hts, hK, hlocks⟩
  have hS : va_S A s.heap s.heap [] := va_S.rf
  have hl := lv_entry ([.ref a0, .int x1, .int x2, .int x3]) (n := 7) (Nat.le_of_ble_eq_true rfl)
  rw [lg_entry_eq]
  generalize (lg_sl ([.ref a0, .int x1, .int x2, .int x3]) ++ List.replicate (7 - (lg_sl ([.ref a0, .int x1, .int x2, .int x3])).length) Slot.unset).toArray = ls at hl ⊢
  have hl : lv_has ls 7 [(0, .ref a0), (1, .int x1), (2, .int x2), (3, .int x3)] := hl
  unfold fX6_silence at h
  show W p l e (rz 2 44) s m _ below meth c s.heap [] 0 0 _ _
  refine lv_aload_n hx hb dX6_silence_0 rfl (lv_at hl 0 rfl) ?_
  refine lv_iload_n hx hb dX6_silence_1 rfl (lv_at hl 1 rfl) ?_
  obtain ⟨_, eO, h⟩ := bd h
  obtain ⟨v9, e, h⟩ := bd h
  refine fx_vI (As := [.int x1]) (rest := []) hx hb hml hts hown hK hR hS eO (mX6_fileOfFinding l D dA A e) my_X6_fileOfFinding mv_X6_fileOfFinding rfl ml_X6_130 rfl hl.1 rfl (Nat.le_of_ble_eq_true rfl) dX6_silence_2 ⟨Nat.le_of_ble_eq_true rfl, Nat.le_of_ble_eq_true rfl⟩ ⟨Nat.le_refl _, Nat.le_refl _⟩ (fun H locs hR hS => ?_)
  refine lv_istore (lv' := [(4, .int v9), (0, .ref a0), (1, .int x1), (2, .int x2), (3, .int x3)]) hx hb dX6_silence_5 hl (by decide) rfl (fun ls hl => ?_)
  refine lv_iload_n hx hb dX6_silence_7 rfl (lv_at hl 3 rfl) ?_
  refine lv_iconst (v := 1) hx hb dX6_silence_8 (by decide) ?_
  refine lv_icmp_lt (tgt := 22) hx hb dX6_silence_9 (by decide) (fun c => ?_) (fun c => ?_)
  · have h := it c h
    exact qX6_silence_b22 C   hR hS (lv_sub hl [1, 2, 3, 4, 0] rfl) h
  · have h := ie c h
    refine lv_iload_n hx hb dX6_silence_12 rfl (lv_at hl 3 rfl) ?_
    refine lv_bipush (v := 99) hx hb dX6_silence_13 (by decide) ?_
    refine lv_icmp_gt (tgt := 22) hx hb dX6_silence_15 (by decide) (fun c => ?_) (fun c => ?_)
    · have h := it c h
      exact qX6_silence_b22 C   hR hS (lv_sub hl [1, 2, 3, 4, 0] rfl) h
    · have h := ie c h
      refine lv_iconst (v := 1) hx hb dX6_silence_18 (by decide) ?_
      refine lv_goto (tgt := 23) hx hb dX6_silence_19 (by decide) ?_
      exact qX6_silence_b23 C   hR hS (lv_sub hl [1, 2, 3, 4, 0] rfl) h
def fX6_speak (w : Fw) (a0 : Nat) (x1 : Int32) : Option (Int32 × Fw) := ((isO w a0 6).bind fun _ => ((fX6_fileOfFinding w a0 x1).bind fun v1 => (if v1 = (-1) then (zb 0).bind fun z11 => some (z11, w) else ((gR w a0 6 0).bind fun r2 => ((lR w 0 r2 v1).bind fun r3 => ((isO w r3 4).bind fun _ => ((fX4_findings w r3).bind fun r4 => ((isO w a0 6).bind fun _ => ((fX6_findingsAhead w a0 v1).bind fun v5 => ((gI w a0 6 6).bind fun v6 => ((isO w r4 2).bind fun _ => ((fX2_isSilenced w r4 (x1 - v5) v6).bind fun v7 => (if v7 = 0 then (zb 0).bind fun z10 => some (z10, w) else ((isO w r4 2).bind fun _ => ((fX2_unhush w r4 (x1 - v5)).bind fun w8 => (zb 1).bind fun z9 => some (z9, w8))))))))))))))))
set_option maxRecDepth 100000 in
set_option maxHeartbeats 4000000 in
theorem mX6_speak (l : Launch) (D : va_G) (dA : Nat → ClassId) (A : Nat → Prop) {w : Fw} {a0 : Nat} {x1 : Int32} {res : Int32 × Fw} (h : fX6_speak w a0 x1 = some res) : Met l yX6_speak (wz yX6_speak cX6_speak 5 (some .boolean)) (rz 2 44) (Pz D dA A w [.ref a0, .int x1]) (QzI D dA A res.1 res.2) 0 0 A := by
  refine Met.ofW (cc := cX6_speak) (maxL := 5) (ret := (some .boolean)) (by decide) rfl ?_
  intro p e s m args below meth c s₁ B hml hv
  obtain ⟨rfl, hR, hK⟩ := hv
  have hx := B.exec
  have hb := B.bytes
  have hr := B.returns
  have hts : ∀ w ∈ lw_g, w.before [.ref a0, .int x1].toArray s = true := fun w hw => atoms_spec (ws := wz yX6_speak cX6_speak 5 (some .boolean)) B.pre w (List.mem_cons_of_mem _ hw)
  have hown : s.vm.findClass RX6 = some m.cls := findClass_of_methodNamed B.named
  have hlocks := B.notSynchronized
  have C : Cx p s m [.ref a0, .int x1].toArray meth c D dA RX6 cX6_speak 5 (some .boolean) := ⟨hx, hb, hr, hml, hown, hts, hK, hlocks⟩
  have hS : va_S A s.heap s.heap [] := va_S.rf
  have hl := lv_entry ([.ref a0, .int x1]) (n := 5) (Nat.le_of_ble_eq_true rfl)
  rw [lg_entry_eq]
  generalize (lg_sl ([.ref a0, .int x1]) ++ List.replicate (5 - (lg_sl ([.ref a0, .int x1])).length) Slot.unset).toArray = ls at hl ⊢
  have hl : lv_has ls 5 [(0, .ref a0), (1, .int x1)] := hl
  unfold fX6_speak at h
  show W p l e (rz 2 44) s m _ below meth c s.heap [] 0 0 _ _
  refine lv_aload_n hx hb dX6_speak_0 rfl (lv_at hl 0 rfl) ?_
  refine lv_iload_n hx hb dX6_speak_1 rfl (lv_at hl 1 rfl) ?_
  obtain ⟨_, eO, h⟩ := bd h
  obtain ⟨v1, e, h⟩ := bd h
  refine fx_vI (As := [.int x1]) (rest := []) hx hb hml hts hown hK hR hS eO (mX6_fileOfFinding l D dA A e) my_X6_fileOfFinding mv_X6_fileOfFinding rfl ml_X6_130 rfl hl.1 rfl (Nat.le_of_ble_eq_true rfl) dX6_speak_2 ⟨Nat.le_of_ble_eq_true rfl, Nat.le_of_ble_eq_true rfl⟩ ⟨Nat.le_refl _, Nat.le_refl _⟩ (fun H locs hR hS => ?_)
  refine lv_istore_n (lv' := [(2, .int v1), (0, .ref a0), (1, .int x1)]) hx hb dX6_speak_5 rfl hl (by decide) rfl (fun ls hl => ?_)
  refine lv_iload_n hx hb dX6_speak_6 rfl (lv_at hl 0 rfl) ?_
  refine lv_iconst (v := (-1)) hx hb dX6_speak_7 (by decide) ?_
  refine lv_icmp_ne (tgt := 13) hx hb dX6_speak_8 (by decide) (fun c => ?_) (fun c => ?_)
  · have h := ie c h
    refine lv_aload_n hx hb dX6_speak_13 rfl (lv_at hl 1 rfl) ?_
    obtain ⟨r2, e, h⟩ := bd h
    refine fx_gR hx hb hts hown hK hR fl_X6_11 e dX6_speak_14 ?_
    refine lv_iload_n hx hb dX6_speak_17 rfl (lv_at hl 0 rfl) ?_
    obtain ⟨r3, e, h⟩ := bd h
    refine fx_lR hx hb hK hR (kd := 0) rfl rfl e dX6_speak_18 ?_
    obtain ⟨_, eO, h⟩ := bd h
    obtain ⟨r4, e, h⟩ := bd h
    refine fx_vR (As := []) (rest := []) hx hb hml hts hown hK hR hS eO (mX4_findings l D dA A e) my_X4_findings mv_X4_findings rfl ml_X6_133 rfl hl.1 rfl (Nat.le_of_ble_eq_true rfl) dX6_speak_19 ⟨Nat.le_of_ble_eq_true rfl, Nat.le_of_ble_eq_true rfl⟩ ⟨Nat.le_refl _, Nat.le_refl _⟩ (fun H locs hR hS => ?_)
    refine lv_astore_n (lv' := [(3, .ref r4), (2, .int v1), (0, .ref a0), (1, .int x1)]) hx hb dX6_speak_22 rfl hl (by decide) rfl (fun ls hl => ?_)
    refine lv_iload_n hx hb dX6_speak_23 rfl (lv_at hl 3 rfl) ?_
    refine lv_aload_n hx hb dX6_speak_24 rfl (lv_at hl 2 rfl) ?_
    refine lv_iload_n hx hb dX6_speak_25 rfl (lv_at hl 1 rfl) ?_
    obtain ⟨_, eO, h⟩ := bd h
    obtain ⟨v5, e, h⟩ := bd h
    refine fx_vI (As := [.int v1]) (rest := [.int x1]) hx hb hml hts hown hK hR hS eO (mX6_findingsAhead l D dA A e) my_X6_findingsAhead mv_X6_findingsAhead rfl ml_X6_114 rfl hl.1 rfl (Nat.le_of_ble_eq_true rfl) dX6_speak_26 ⟨Nat.le_of_ble_eq_true rfl, Nat.le_of_ble_eq_true rfl⟩ ⟨Nat.le_refl _, Nat.le_refl _⟩ (fun H locs hR hS => ?_)
    refine lv_isub hx hb dX6_speak_29 ?_
    refine lv_istore (lv' := [(4, .int (x1 - v5)), (3, .ref r4), (2, .int v1), (0, .ref a0), (1, .int x1)]) hx hb dX6_speak_30 hl (by decide) rfl (fun ls hl => ?_)
    refine lv_aload_n hx hb dX6_speak_32 rfl (lv_at hl 1 rfl) ?_
    refine lv_iload hx hb dX6_speak_33 (lv_at hl 0 rfl) ?_
    refine lv_aload_n hx hb dX6_speak_35 rfl (lv_at hl 3 rfl) ?_
    obtain ⟨v6, e, h⟩ := bd h
    refine fx_gI hx hb hts hown hK hR fl_X6_108 e dX6_speak_36 ?_
    obtain ⟨_, eO, h⟩ := bd h
    obtain ⟨v7, e, h⟩ := bd h
    refine fx_vI (As := [.int (x1 - v5), .int v6]) (rest := []) hx hb hml hts hown hK hR hS eO (mX2_isSilenced l D dA A e) my_X2_isSilenced mv_X2_isSilenced rfl ml_X6_149 rfl hl.1 rfl (Nat.le_of_ble_eq_true rfl) dX6_speak_39 ⟨Nat.le_of_ble_eq_true rfl, Nat.le_of_ble_eq_true rfl⟩ ⟨Nat.le_refl _, Nat.le_refl _⟩ (fun H locs hR hS => ?_)
    refine lv_if_ne (tgt := 47) hx hb dX6_speak_42 (by decide) (fun c => ?_) (fun c => ?_)
    · have h := ie c h
      refine lv_aload_n hx hb dX6_speak_47 rfl (lv_at hl 1 rfl) ?_
      refine lv_iload hx hb dX6_speak_48 (lv_at hl 0 rfl) ?_
      obtain ⟨_, eO, h⟩ := bd h
      obtain ⟨w8, e, h⟩ := bd h
      refine fx_vV (As := [.int (x1 - v5)]) (rest := []) hx hb hml hts hown hK hR hS eO (mX2_unhush l D dA A e) my_X2_unhush mv_X2_unhush rfl ml_X6_165 rfl hl.1 rfl (Nat.le_of_ble_eq_true rfl) dX6_speak_50 ⟨Nat.le_of_ble_eq_true rfl, Nat.le_of_ble_eq_true rfl⟩ ⟨Nat.le_refl _, Nat.le_refl _⟩ (fun H locs hR hS => ?_)
      refine lv_iconst (v := 1) hx hb dX6_speak_53 (by decide) ?_
      obtain ⟨z9, e, h⟩ := bd h
      exact fx_zret hx hb hr hlocks (e.trans (congrArg some (pr1 h))) (pr2 h) hR hS dX6_speak_54
    · have h := it c h
      refine lv_iconst (v := 0) hx hb dX6_speak_45 (by decide) ?_
      obtain ⟨z10, e, h⟩ := bd h
      exact fx_zret hx hb hr hlocks (e.trans (congrArg some (pr1 h))) (pr2 h) hR hS dX6_speak_46
  · have h := it c h
    refine lv_iconst (v := 0) hx hb dX6_speak_11 (by decide) ?_
    obtain ⟨z11, e, h⟩ := bd h
    exact fx_zret hx hb hr hlocks (e.trans (congrArg some (pr1 h))) (pr2 h) hR hS dX6_speak_12
def fX6_since_b45 (w : Fw) (K16 : Nat → Int32 → Int32 → Int32 → Int32 → Option (Int32)) (a0 : Nat) (x1 : Int32) (x2 : Int32) (x4 : Int32) (s0 : Int32) (s1 : Nat) (s2 : Int32) (s3 : Int32) : Option (Int32) := ((gI w a0 6 6).bind fun v1 => ((isO w s1 2).bind fun _ => ((fX2_countAfter w s1 s2 s3 v1).bind fun v2 => (K16 a0 x1 x2 (s0 + v2) (x4 + 1)))))
set_option maxRecDepth 100000 in
set_option maxHeartbeats 4000000 in
theorem qX6_since_b45 {p : Program} {l : Launch} {e : Env} {s : State} {m : MethodId} {args : Array Value} {below : List Frame} {meth : Method} {c : Code} {D : va_G} {dA : Nat → ClassId} {A : Nat → Prop} (C : Cx p s m args meth c D dA RX6 cX6_since 5 (some .int)) {w : Fw} {res : Int32} {K16 : Nat → Int32 → Int32 → Int32 → Int32 → Option (Int32)} (hK16 : ∀ {H : Heap} {locs : List Loc} {ls : Array Slot} {a0 : Nat} {x1 : Int32} {x2 : Int32} {x3 : Int32} {x4 : Int32}, Rp D dA A w H → va_S A s.heap H locs → lv_has ls 5 [(0, .ref a0), (1, .int x1), (2, .int x2), (3, .int x3), (4, .int x4)] → K16 a0 x1 x2 x3 x4 = some res → W p l e (rz 2 48) s m args below meth c H locs 0 0 (MQ below (QzI D dA A res w) args s 0 0 A) (F0 m 16 ls [])) {H : Heap} {locs : List Loc} {ls : Array Slot} {a0 : Nat} {x1 : Int32} {x2 : Int32} {x4 : Int32} {s0 : Int32} {s1 : Nat} {s2 : Int32} {s3 : Int32} (hR : Rp D dA A w H) (hS : va_S A s.heap H locs) (hl : lv_has ls 5 [(0, .ref a0), (1, .int x1), (2, .int x2), (4, .int x4)]) (h : fX6_since_b45 w K16 a0 x1 x2 x4 s0 s1 s2 s3 = some res) : W p l e (rz 2 48) s m args below meth c H locs 0 0 (MQ below (QzI D dA A res w) args s 0 0 A) (F0 m 45 ls [.int s3, .int s2, .ref s1, .int s0]) := by
  obtain ⟨hx, hb, hr, hml, hown, hts, hK, hlocks⟩ := id C
  unfold fX6_since_b45 at h
  refine lv_aload_n hx hb dX6_since_45 rfl (lv_at hl 0 rfl) ?_
  obtain ⟨v1, e, h⟩ := bd h
  refine fx_gI hx hb hts hown hK hR fl_X6_108 e dX6_since_46 ?_
  obtain ⟨_, eO, h⟩ := bd h
  obtain ⟨v2, e, h⟩ := bd h
  refine fx_vI (As := [.int s2, .int s3, .int v1]) (rest := [.int s0]) hx hb hml hts hown hK hR hS eO (mX2_countAfter l D dA A e) my_X2_countAfter mv_X2_countAfter rfl ml_X6_168 rfl hl.1 rfl (Nat.le_of_ble_eq_true rfl) dX6_since_49 ⟨Nat.le_of_ble_eq_true rfl, Nat.le_of_ble_eq_true rfl⟩ ⟨Nat.le_refl _, Nat.le_refl _⟩ (fun H locs hR hS => ?_)
  refine lv_iadd hx hb dX6_since_52 ?_
  refine lv_istore_n (lv' := [(3, .int (s0 + v2)), (0, .ref a0), (1, .int x1), (2, .int x2), (4, .int x4)]) hx hb dX6_since_53 rfl hl (by decide) rfl (fun ls hl => ?_)
  refine lv_iinc (v := (x4 + 1)) (lv' := [(4, .int (x4 + 1)), (3, .int (s0 + v2)), (0, .ref a0), (1, .int x1), (2, .int x2)]) hx hb dX6_since_54 hl (k := 4) rfl rfl (by decide) rfl (fun ls hl => ?_)
  refine lv_goto (tgt := 16) hx hb dX6_since_57 (by decide) ?_
  exact hK16 hR hS (lv_sub hl [2, 3, 4, 1, 0] rfl) h
def fX6_since_L16 (w : Fw)  : Nat → Nat → Int32 → Int32 → Int32 → Int32 → Option (Int32)
  | 0, _, _, _, _, _ => none
  | n + 1, a0, x1, x2, x3, x4 => if 6 ≤ x4 then some x3 else ((gR w a0 6 0).bind fun r3 => ((lR w 0 r3 x4).bind fun r4 => ((isO w r4 4).bind fun _ => ((fX4_findings w r4).bind fun r5 => (if x2 = 1 then (fX6_since_b45 w (fX6_since_L16 w n) a0 x1 x2 x4 x3 r5 x1 1) else (fX6_since_b45 w (fX6_since_L16 w n) a0 x1 x2 x4 x3 r5 x1 0))))))
set_option maxRecDepth 100000 in
set_option maxHeartbeats 4000000 in
theorem qX6_since_L16 {p : Program} {l : Launch} {e : Env} {s : State} {m : MethodId} {args : Array Value} {below : List Frame} {meth : Method} {c : Code} {D : va_G} {dA : Nat → ClassId} {A : Nat → Prop} (C : Cx p s m args meth c D dA RX6 cX6_since 5 (some .int)) {w : Fw} {res : Int32}   : ∀ (n : Nat) {H : Heap} {locs : List Loc} {ls : Array Slot} {a0 : Nat} {x1 : Int32} {x2 : Int32} {x3 : Int32} {x4 : Int32}, Rp D dA A w H → va_S A s.heap H locs → lv_has ls 5 [(0, .ref a0), (1, .int x1), (2, .int x2), (3, .int x3), (4, .int x4)] → fX6_since_L16 w n a0 x1 x2 x3 x4 = some res → W p l e (rz 2 48) s m args below meth c H locs 0 0 (MQ below (QzI D dA A res w) args s 0 0 A) (F0 m 16 ls []) := by
  obtain ⟨hx, hb, hr, hml, hown, hts, hK, hlocks⟩ := id C
  intro n
  induction n with
  | zero =>
    intro H locs ls a0 x1 x2 x3 x4 hR hS hl h
    rw [fX6_since_L16.eq_1] at h
    cases h
  | succ n ih =>
    intro H locs ls a0 x1 x2 x3 x4 hR hS hl h
    rw [fX6_since_L16.eq_2] at h
    refine lv_iload hx hb dX6_since_16 (lv_at hl 4 rfl) ?_
    refine lv_bipush (v := 6) hx hb dX6_since_18 (by decide) ?_
    refine lv_icmp_ge (tgt := 60) hx hb dX6_since_20 (by decide) (fun c => ?_) (fun c => ?_)
    · have h := it c h
      refine lv_iload_n hx hb dX6_since_60 rfl (lv_at hl 3 rfl) ?_
      exact fx_iret hx hb hr hlocks (Option.some.inj h) rfl hR hS dX6_since_61
    · have h := ie c h
      refine lv_iload_n hx hb dX6_since_23 rfl (lv_at hl 3 rfl) ?_
      refine lv_aload_n hx hb dX6_since_24 rfl (lv_at hl 0 rfl) ?_
      obtain ⟨r3, e, h⟩ := bd h
      refine fx_gR hx hb hts hown hK hR fl_X6_11 e dX6_since_25 ?_
      refine lv_iload hx hb dX6_since_28 (lv_at hl 4 rfl) ?_
      obtain ⟨r4, e, h⟩ := bd h
      refine fx_lR hx hb hK hR (kd := 0) rfl rfl e dX6_since_30 ?_
      obtain ⟨_, eO, h⟩ := bd h
      obtain ⟨r5, e, h⟩ := bd h
      refine fx_vR (As := []) (rest := [.int x3]) hx hb hml hts hown hK hR hS eO (mX4_findings l D dA A e) my_X4_findings mv_X4_findings rfl ml_X6_133 rfl hl.1 rfl (Nat.le_of_ble_eq_true rfl) dX6_since_31 ⟨Nat.le_of_ble_eq_true rfl, Nat.le_of_ble_eq_true rfl⟩ ⟨Nat.le_refl _, Nat.le_refl _⟩ (fun H locs hR hS => ?_)
      refine lv_iload_n hx hb dX6_since_34 rfl (lv_at hl 1 rfl) ?_
      refine lv_iload_n hx hb dX6_since_35 rfl (lv_at hl 2 rfl) ?_
      refine lv_iconst (v := 1) hx hb dX6_since_36 (by decide) ?_
      refine lv_icmp_ne (tgt := 44) hx hb dX6_since_37 (by decide) (fun c => ?_) (fun c => ?_)
      · have h := ie c h
        refine lv_iconst (v := 0) hx hb dX6_since_44 (by decide) ?_
        exact qX6_since_b45 C (K16 := fX6_since_L16 w n) (hK16 := @ih) hR hS (lv_sub hl [0, 1, 2, 4] rfl) h
      · have h := it c h
        refine lv_iconst (v := 1) hx hb dX6_since_40 (by decide) ?_
        refine lv_goto (tgt := 45) hx hb dX6_since_41 (by decide) ?_
        exact qX6_since_b45 C (K16 := fX6_since_L16 w n) (hK16 := @ih) hR hS (lv_sub hl [0, 1, 2, 4] rfl) h
def fX6_since_b11 (w : Fw)  (a0 : Nat) (x1 : Int32) (x2 : Int32) : Option (Int32) := (fX6_since_L16 w 1000 a0 x1 x2 0 0)
set_option maxRecDepth 100000 in
set_option maxHeartbeats 4000000 in
theorem qX6_since_b11 {p : Program} {l : Launch} {e : Env} {s : State} {m : MethodId} {args : Array Value} {below : List Frame} {meth : Method} {c : Code} {D : va_G} {dA : Nat → ClassId} {A : Nat → Prop} (C : Cx p s m args meth c D dA RX6 cX6_since 5 (some .int)) {w : Fw} {res : Int32}   {H : Heap} {locs : List Loc} {ls : Array Slot} {a0 : Nat} {x1 : Int32} {x2 : Int32} (hR : Rp D dA A w H) (hS : va_S A s.heap H locs) (hl : lv_has ls 5 [(0, .ref a0), (1, .int x1), (2, .int x2)]) (h : fX6_since_b11 w a0 x1 x2 = some res) : W p l e (rz 2 48) s m args below meth c H locs 0 0 (MQ below (QzI D dA A res w) args s 0 0 A) (F0 m 11 ls []) := by
  obtain ⟨hx, hb, hr, hml, hown, hts, hK, hlocks⟩ := id C
  unfold fX6_since_b11 at h
  refine lv_iconst (v := 0) hx hb dX6_since_11 (by decide) ?_
  refine lv_istore_n (lv' := [(3, .int 0), (0, .ref a0), (1, .int x1), (2, .int x2)]) hx hb dX6_since_12 rfl hl (by decide) rfl (fun ls hl => ?_)
  refine lv_iconst (v := 0) hx hb dX6_since_13 (by decide) ?_
  refine lv_istore (lv' := [(4, .int 0), (3, .int 0), (0, .ref a0), (1, .int x1), (2, .int x2)]) hx hb dX6_since_14 hl (by decide) rfl (fun ls hl => ?_)
  exact qX6_since_L16 C   1000 hR hS (lv_sub hl [2, 3, 4, 1, 0] rfl) h
def fX6_since (w : Fw) (a0 : Nat) (x1 : Int32) (x2 : Int32) : Option (Int32) := if x2 = 0 then (fX6_since_b11 w a0 x1 x2) else if x2 = 1 then (fX6_since_b11 w a0 x1 x2) else some ((-1) : Int32)
set_option maxRecDepth 100000 in
set_option maxHeartbeats 4000000 in
theorem mX6_since (l : Launch) (D : va_G) (dA : Nat → ClassId) (A : Nat → Prop) {w : Fw} {a0 : Nat} {x1 : Int32} {x2 : Int32} {res : Int32} (h : fX6_since w a0 x1 x2 = some res) : Met l yX6_since (wz yX6_since cX6_since 5 (some .int)) (rz 2 48) (Pz D dA A w [.ref a0, .int x1, .int x2]) (QzI D dA A res w) 0 0 A := by
  refine Met.ofW (cc := cX6_since) (maxL := 5) (ret := (some .int)) (by decide) rfl ?_
  intro p e s m args below meth c s₁ B hml hv
  obtain ⟨rfl, hR, hK⟩ := hv
  have hx := B.exec
  have hb := B.bytes
  have hr := B.returns
  have hts : ∀ w ∈ lw_g, w.before [.ref a0, .int x1, .int x2].toArray s = true := fun w hw => atoms_spec (ws := wz yX6_since cX6_since 5 (some .int)) B.pre w (List.mem_cons_of_mem _ hw)
  have hown : s.vm.findClass RX6 = some m.cls := findClass_of_methodNamed B.named
  have hlocks := B.notSynchronized
  have C : Cx p s m [.ref a0, .int x1, .int x2].toArray meth c D dA RX6 cX6_since 5 (some .int) := ⟨hx, hb, hr, hml, hown, hts, hK, hlocks⟩
  have hS : va_S A s.heap s.heap [] := va_S.rf
  have hl := lv_entry ([.ref a0, .int x1, .int x2]) (n := 5) (Nat.le_of_ble_eq_true rfl)
  rw [lg_entry_eq]
  generalize (lg_sl ([.ref a0, .int x1, .int x2]) ++ List.replicate (5 - (lg_sl ([.ref a0, .int x1, .int x2])).length) Slot.unset).toArray = ls at hl ⊢
  have hl : lv_has ls 5 [(0, .ref a0), (1, .int x1), (2, .int x2)] := hl
  unfold fX6_since at h
  show W p l e (rz 2 48) s m _ below meth c s.heap [] 0 0 _ _
  refine lv_iload_n hx hb dX6_since_0 rfl (lv_at hl 2 rfl) ?_
  refine lv_if_eq (tgt := 11) hx hb dX6_since_1 (by decide) (fun c => ?_) (fun c => ?_)
  · have h := it c h
    exact qX6_since_b11 C   hR hS (lv_sub hl [0, 1, 2] rfl) h
  · have h := ie c h
    refine lv_iload_n hx hb dX6_since_4 rfl (lv_at hl 2 rfl) ?_
    refine lv_iconst (v := 1) hx hb dX6_since_5 (by decide) ?_
    refine lv_icmp_eq (tgt := 11) hx hb dX6_since_6 (by decide) (fun c => ?_) (fun c => ?_)
    · have h := it c h
      exact qX6_since_b11 C   hR hS (lv_sub hl [0, 1, 2] rfl) h
    · have h := ie c h
      refine lv_iconst (v := (-1)) hx hb dX6_since_9 (by decide) ?_
      exact fx_iret hx hb hr hlocks (Option.some.inj h) rfl hR hS dX6_since_10
def fX6_log_b15 (w : Fw)   : Option (Int32) := some ((-1) : Int32)
set_option maxRecDepth 100000 in
set_option maxHeartbeats 4000000 in
theorem qX6_log_b15 {p : Program} {l : Launch} {e : Env} {s : State} {m : MethodId} {args : Array Value} {below : List Frame} {meth : Method} {c : Code} {D : va_G} {dA : Nat → ClassId} {A : Nat → Prop} (C : Cx p s m args meth c D dA RX6 cX6_log 4 (some .int)) {w : Fw} {res : Int32}   {H : Heap} {locs : List Loc} {ls : Array Slot}  (hR : Rp D dA A w H) (hS : va_S A s.heap H locs) (hl : lv_has ls 4 []) (h : fX6_log_b15 w = some res) : W p l e (rz 1 22) s m args below meth c H locs 0 0 (MQ below (QzI D dA A res w) args s 0 0 A) (F0 m 15 ls []) := by
  obtain ⟨hx, hb, hr, hml, hown, hts, hK, hlocks⟩ := id C
  unfold fX6_log_b15 at h
  refine lv_iconst (v := (-1)) hx hb dX6_log_15 (by decide) ?_
  exact fx_iret hx hb hr hlocks (Option.some.inj h) rfl hR hS dX6_log_16
def fX6_log (w : Fw) (a0 : Nat) (x1 : Int32) (x2 : Int32) : Option (Int32) := if x1 < 0 then (fX6_log_b15 w) else ((gR w a0 6 4).bind fun r1 => ((isO w r1 1).bind fun _ => ((fX1_size w r1).bind fun v2 => (if x1 < v2 then ((gR w a0 6 4).bind fun r3 => ((isO w r3 1).bind fun _ => ((fX1_placeOf w r3 x1).bind fun v4 => (if x2 = 0 then ((gR w a0 6 4).bind fun r5 => ((isO w r5 1).bind fun _ => ((fX1_ruleAt w r5 v4).bind fun v6 => some v6))) else (if x2 = 1 then ((gR w a0 6 4).bind fun r7 => ((isO w r7 1).bind fun _ => ((fX1_idAt w r7 v4).bind fun v8 => some v8))) else (if x2 = 2 then ((gR w a0 6 4).bind fun r9 => ((isO w r9 1).bind fun _ => ((fX1_sinceAt w r9 v4).bind fun v10 => some v10))) else (if x2 = 3 then ((gR w a0 6 4).bind fun r11 => ((isO w r11 1).bind fun _ => ((fX1_endAt w r11 v4).bind fun v12 => some v12))) else some ((-1) : Int32)))))))) else (fX6_log_b15 w)))))
set_option maxRecDepth 100000 in
set_option maxHeartbeats 4000000 in
theorem mX6_log (l : Launch) (D : va_G) (dA : Nat → ClassId) (A : Nat → Prop) {w : Fw} {a0 : Nat} {x1 : Int32} {x2 : Int32} {res : Int32} (h : fX6_log w a0 x1 x2 = some res) : Met l yX6_log (wz yX6_log cX6_log 4 (some .int)) (rz 1 22) (Pz D dA A w [.ref a0, .int x1, .int x2]) (QzI D dA A res w) 0 0 A := by
  refine Met.ofW (cc := cX6_log) (maxL := 4) (ret := (some .int)) (by decide) rfl ?_
  intro p e s m args below meth c s₁ B hml hv
  obtain ⟨rfl, hR, hK⟩ := hv
  have hx := B.exec
  have hb := B.bytes
  have hr := B.returns
  have hts : ∀ w ∈ lw_g, w.before [.ref a0, .int x1, .int x2].toArray s = true := fun w hw => atoms_spec (ws := wz yX6_log cX6_log 4 (some .int)) B.pre w (List.mem_cons_of_mem _ hw)
  have hown : s.vm.findClass RX6 = some m.cls := findClass_of_methodNamed B.named
  have hlocks := B.notSynchronized
  have C : Cx p s m [.ref a0, .int x1, .int x2].toArray meth c D dA RX6 cX6_log 4 (some .int) := ⟨hx, hb, hr, hml, hown, hts, hK, hlocks⟩
  have hS : va_S A s.heap s.heap [] := va_S.rf
  have hl := lv_entry ([.ref a0, .int x1, .int x2]) (n := 4) (Nat.le_of_ble_eq_true rfl)
  rw [lg_entry_eq]
  generalize (lg_sl ([.ref a0, .int x1, .int x2]) ++ List.replicate (4 - (lg_sl ([.ref a0, .int x1, .int x2])).length) Slot.unset).toArray = ls at hl ⊢
  have hl : lv_has ls 4 [(0, .ref a0), (1, .int x1), (2, .int x2)] := hl
  unfold fX6_log at h
  show W p l e (rz 1 22) s m _ below meth c s.heap [] 0 0 _ _
  refine lv_iload_n hx hb dX6_log_0 rfl (lv_at hl 1 rfl) ?_
  refine lv_if_lt (tgt := 15) hx hb dX6_log_1 (by decide) (fun c => ?_) (fun c => ?_)
  · have h := it c h
    exact qX6_log_b15 C   hR hS (lv_sub hl [] rfl) h
  · have h := ie c h
    refine lv_iload_n hx hb dX6_log_4 rfl (lv_at hl 1 rfl) ?_
    refine lv_aload_n hx hb dX6_log_5 rfl (lv_at hl 0 rfl) ?_
    obtain ⟨r1, e, h⟩ := bd h
    refine fx_gR hx hb hts hown hK hR fl_X6_40 e dX6_log_6 ?_
    obtain ⟨_, eO, h⟩ := bd h
    obtain ⟨v2, e, h⟩ := bd h
    refine fx_vI (As := []) (rest := [.int x1]) hx hb hml hts hown hK hR hS eO (mX1_size l D dA A e) my_X1_size mv_X1_size rfl ml_X6_120 rfl hl.1 rfl (Nat.le_of_ble_eq_true rfl) dX6_log_9 ⟨Nat.le_of_ble_eq_true rfl, Nat.le_of_ble_eq_true rfl⟩ ⟨Nat.le_refl _, Nat.le_refl _⟩ (fun H locs hR hS => ?_)
    refine lv_icmp_lt (tgt := 17) hx hb dX6_log_12 (by decide) (fun c => ?_) (fun c => ?_)
    · have h := it c h
      refine lv_aload_n hx hb dX6_log_17 rfl (lv_at hl 0 rfl) ?_
      obtain ⟨r3, e, h⟩ := bd h
      refine fx_gR hx hb hts hown hK hR fl_X6_40 e dX6_log_18 ?_
      refine lv_iload_n hx hb dX6_log_21 rfl (lv_at hl 1 rfl) ?_
      obtain ⟨_, eO, h⟩ := bd h
      obtain ⟨v4, e, h⟩ := bd h
      refine fx_vI (As := [.int x1]) (rest := []) hx hb hml hts hown hK hR hS eO (mX1_placeOf l D dA A e) my_X1_placeOf mv_X1_placeOf rfl ml_X6_172 rfl hl.1 rfl (Nat.le_of_ble_eq_true rfl) dX6_log_22 ⟨Nat.le_of_ble_eq_true rfl, Nat.le_of_ble_eq_true rfl⟩ ⟨Nat.le_refl _, Nat.le_refl _⟩ (fun H locs hR hS => ?_)
      refine lv_istore_n (lv' := [(3, .int v4), (0, .ref a0), (1, .int x1), (2, .int x2)]) hx hb dX6_log_25 rfl hl (by decide) rfl (fun ls hl => ?_)
      refine lv_iload_n hx hb dX6_log_26 rfl (lv_at hl 3 rfl) ?_
      by_cases c0 : x2 = 0
      · have h := it c0 h
        refine lv_tableIn (off := 29) (tgt := 56) hx hb dX6_log_27 (by rw [c0]; decide) (by rw [c0]; decide) (by rw [c0]; decide) (by decide) ?_
        refine lv_aload_n hx hb dX6_log_56 rfl (lv_at hl 1 rfl) ?_
        obtain ⟨r5, e, h⟩ := bd h
        refine fx_gR hx hb hts hown hK hR fl_X6_40 e dX6_log_57 ?_
        refine lv_iload_n hx hb dX6_log_60 rfl (lv_at hl 0 rfl) ?_
        obtain ⟨_, eO, h⟩ := bd h
        obtain ⟨v6, e, h⟩ := bd h
        refine fx_vI (As := [.int v4]) (rest := []) hx hb hml hts hown hK hR hS eO (mX1_ruleAt l D dA A e) my_X1_ruleAt mv_X1_ruleAt rfl ml_X6_174 rfl hl.1 rfl (Nat.le_of_ble_eq_true rfl) dX6_log_61 ⟨Nat.le_of_ble_eq_true rfl, Nat.le_of_ble_eq_true rfl⟩ ⟨Nat.le_refl _, Nat.le_refl _⟩ (fun H locs hR hS => ?_)
        exact fx_iret hx hb hr hlocks (Option.some.inj h) rfl hR hS dX6_log_64
      have h := ie c0 h
      by_cases c1 : x2 = 1
      · have h := it c1 h
        refine lv_tableIn (off := 38) (tgt := 65) hx hb dX6_log_27 (by rw [c1]; decide) (by rw [c1]; decide) (by rw [c1]; decide) (by decide) ?_
        refine lv_aload_n hx hb dX6_log_65 rfl (lv_at hl 1 rfl) ?_
        obtain ⟨r7, e, h⟩ := bd h
        refine fx_gR hx hb hts hown hK hR fl_X6_40 e dX6_log_66 ?_
        refine lv_iload_n hx hb dX6_log_69 rfl (lv_at hl 0 rfl) ?_
        obtain ⟨_, eO, h⟩ := bd h
        obtain ⟨v8, e, h⟩ := bd h
        refine fx_vI (As := [.int v4]) (rest := []) hx hb hml hts hown hK hR hS eO (mX1_idAt l D dA A e) my_X1_idAt mv_X1_idAt rfl ml_X6_175 rfl hl.1 rfl (Nat.le_of_ble_eq_true rfl) dX6_log_70 ⟨Nat.le_of_ble_eq_true rfl, Nat.le_of_ble_eq_true rfl⟩ ⟨Nat.le_refl _, Nat.le_refl _⟩ (fun H locs hR hS => ?_)
        exact fx_iret hx hb hr hlocks (Option.some.inj h) rfl hR hS dX6_log_73
      have h := ie c1 h
      by_cases c2 : x2 = 2
      · have h := it c2 h
        refine lv_tableIn (off := 47) (tgt := 74) hx hb dX6_log_27 (by rw [c2]; decide) (by rw [c2]; decide) (by rw [c2]; decide) (by decide) ?_
        refine lv_aload_n hx hb dX6_log_74 rfl (lv_at hl 1 rfl) ?_
        obtain ⟨r9, e, h⟩ := bd h
        refine fx_gR hx hb hts hown hK hR fl_X6_40 e dX6_log_75 ?_
        refine lv_iload_n hx hb dX6_log_78 rfl (lv_at hl 0 rfl) ?_
        obtain ⟨_, eO, h⟩ := bd h
        obtain ⟨v10, e, h⟩ := bd h
        refine fx_vI (As := [.int v4]) (rest := []) hx hb hml hts hown hK hR hS eO (mX1_sinceAt l D dA A e) my_X1_sinceAt mv_X1_sinceAt rfl ml_X6_176 rfl hl.1 rfl (Nat.le_of_ble_eq_true rfl) dX6_log_79 ⟨Nat.le_of_ble_eq_true rfl, Nat.le_of_ble_eq_true rfl⟩ ⟨Nat.le_refl _, Nat.le_refl _⟩ (fun H locs hR hS => ?_)
        exact fx_iret hx hb hr hlocks (Option.some.inj h) rfl hR hS dX6_log_82
      have h := ie c2 h
      by_cases c3 : x2 = 3
      · have h := it c3 h
        refine lv_tableIn (off := 56) (tgt := 83) hx hb dX6_log_27 (by rw [c3]; decide) (by rw [c3]; decide) (by rw [c3]; decide) (by decide) ?_
        refine lv_aload_n hx hb dX6_log_83 rfl (lv_at hl 1 rfl) ?_
        obtain ⟨r11, e, h⟩ := bd h
        refine fx_gR hx hb hts hown hK hR fl_X6_40 e dX6_log_84 ?_
        refine lv_iload_n hx hb dX6_log_87 rfl (lv_at hl 0 rfl) ?_
        obtain ⟨_, eO, h⟩ := bd h
        obtain ⟨v12, e, h⟩ := bd h
        refine fx_vI (As := [.int v4]) (rest := []) hx hb hml hts hown hK hR hS eO (mX1_endAt l D dA A e) my_X1_endAt mv_X1_endAt rfl ml_X6_177 rfl hl.1 rfl (Nat.le_of_ble_eq_true rfl) dX6_log_88 ⟨Nat.le_of_ble_eq_true rfl, Nat.le_of_ble_eq_true rfl⟩ ⟨Nat.le_refl _, Nat.le_refl _⟩ (fun H locs hR hS => ?_)
        exact fx_iret hx hb hr hlocks (Option.some.inj h) rfl hR hS dX6_log_91
      have h := ie c3 h
      have nc0 := fz_ne 0 0 (by decide) c0
      have nc1 := fz_ne 1 1 (by decide) c1
      have nc2 := fz_ne 2 2 (by decide) c2
      have nc3 := fz_ne 3 3 (by decide) c3
      refine lv_tableOut (tgt := 92) hx hb dX6_log_27 (by omega) (by decide) ?_
      refine lv_iconst (v := (-1)) hx hb dX6_log_92 (by decide) ?_
      exact fx_iret hx hb hr hlocks (Option.some.inj h) rfl hR hS dX6_log_93
    · have h := ie c h
      exact qX6_log_b15 C   hR hS (lv_sub hl [] rfl) h
def fX7_isIn_b15 (w : Fw)  (s0 : Int32) : Option (Int32) := zb s0
set_option maxRecDepth 100000 in
set_option maxHeartbeats 4000000 in
theorem qX7_isIn_b15 {p : Program} {l : Launch} {e : Env} {s : State} {m : MethodId} {args : Array Value} {below : List Frame} {meth : Method} {c : Code} {D : va_G} {dA : Nat → ClassId} {A : Nat → Prop} (C : Cx p s m args meth c D dA RX7 cX7_isIn 3 (some .boolean)) {w : Fw} {res : Int32}   {H : Heap} {locs : List Loc} {ls : Array Slot} {s0 : Int32} (hR : Rp D dA A w H) (hS : va_S A s.heap H locs) (hl : lv_has ls 3 []) (h : fX7_isIn_b15 w s0 = some res) : W p l e (rz 0 0) s m args below meth c H locs 0 0 (MQ below (QzI D dA A res w) args s 0 0 A) (F0 m 15 ls [.int s0]) := by
  obtain ⟨hx, hb, hr, hml, hown, hts, hK, hlocks⟩ := id C
  unfold fX7_isIn_b15 at h
  exact fx_zret hx hb hr hlocks h rfl hR hS dX7_isIn_15
def fX7_isIn_b14 (w : Fw)   : Option (Int32) := (fX7_isIn_b15 w 0)
set_option maxRecDepth 100000 in
set_option maxHeartbeats 4000000 in
theorem qX7_isIn_b14 {p : Program} {l : Launch} {e : Env} {s : State} {m : MethodId} {args : Array Value} {below : List Frame} {meth : Method} {c : Code} {D : va_G} {dA : Nat → ClassId} {A : Nat → Prop} (C : Cx p s m args meth c D dA RX7 cX7_isIn 3 (some .boolean)) {w : Fw} {res : Int32}   {H : Heap} {locs : List Loc} {ls : Array Slot}  (hR : Rp D dA A w H) (hS : va_S A s.heap H locs) (hl : lv_has ls 3 []) (h : fX7_isIn_b14 w = some res) : W p l e (rz 0 0) s m args below meth c H locs 0 0 (MQ below (QzI D dA A res w) args s 0 0 A) (F0 m 14 ls []) := by
  obtain ⟨hx, hb, hr, hml, hown, hts, hK, hlocks⟩ := id C
  unfold fX7_isIn_b14 at h
  refine lv_iconst (v := 0) hx hb dX7_isIn_14 (by decide) ?_
  exact qX7_isIn_b15 C   hR hS (lv_sub hl [] rfl) h
def fX7_isIn (w : Fw) (x0 : Int32) (x1 : Int32) (x2 : Int32) : Option (Int32) := if x0 < x1 then (fX7_isIn_b14 w) else if x2 < x0 then (fX7_isIn_b14 w) else (fX7_isIn_b15 w 1)
set_option maxRecDepth 100000 in
set_option maxHeartbeats 4000000 in
theorem mX7_isIn (l : Launch) (D : va_G) (dA : Nat → ClassId) (A : Nat → Prop) {w : Fw} {x0 : Int32} {x1 : Int32} {x2 : Int32} {res : Int32} (h : fX7_isIn w x0 x1 x2 = some res) : Met l yX7_isIn (wz yX7_isIn cX7_isIn 3 (some .boolean)) (rz 0 0) (Pz D dA A w [.int x0, .int x1, .int x2]) (QzI D dA A res w) 0 0 A := by
  refine Met.ofW (cc := cX7_isIn) (maxL := 3) (ret := (some .boolean)) (by decide) rfl ?_
  intro p e s m args below meth c s₁ B hml hv
  obtain ⟨rfl, hR, hK⟩ := hv
  have hx := B.exec
  have hb := B.bytes
  have hr := B.returns
  have hts : ∀ w ∈ lw_g, w.before [.int x0, .int x1, .int x2].toArray s = true := fun w hw => atoms_spec (ws := wz yX7_isIn cX7_isIn 3 (some .boolean)) B.pre w (List.mem_cons_of_mem _ hw)
  have hown : s.vm.findClass RX7 = some m.cls := findClass_of_methodNamed B.named
  have hlocks := B.notSynchronized
  have C : Cx p s m [.int x0, .int x1, .int x2].toArray meth c D dA RX7 cX7_isIn 3 (some .boolean) := ⟨hx, hb, hr, hml, hown, hts, hK, hlocks⟩
  have hS : va_S A s.heap s.heap [] := va_S.rf
  have hl := lv_entry ([.int x0, .int x1, .int x2]) (n := 3) (Nat.le_of_ble_eq_true rfl)
  rw [lg_entry_eq]
  generalize (lg_sl ([.int x0, .int x1, .int x2]) ++ List.replicate (3 - (lg_sl ([.int x0, .int x1, .int x2])).length) Slot.unset).toArray = ls at hl ⊢
  have hl : lv_has ls 3 [(0, .int x0), (1, .int x1), (2, .int x2)] := hl
  unfold fX7_isIn at h
  show W p l e (rz 0 0) s m _ below meth c s.heap [] 0 0 _ _
  refine lv_iload_n hx hb dX7_isIn_0 rfl (lv_at hl 0 rfl) ?_
  refine lv_iload_n hx hb dX7_isIn_1 rfl (lv_at hl 1 rfl) ?_
  refine lv_icmp_lt (tgt := 14) hx hb dX7_isIn_2 (by decide) (fun c => ?_) (fun c => ?_)
  · have h := it c h
    exact qX7_isIn_b14 C   hR hS (lv_sub hl [] rfl) h
  · have h := ie c h
    refine lv_iload_n hx hb dX7_isIn_5 rfl (lv_at hl 0 rfl) ?_
    refine lv_iload_n hx hb dX7_isIn_6 rfl (lv_at hl 2 rfl) ?_
    refine lv_icmp_gt (tgt := 14) hx hb dX7_isIn_7 (by decide) (fun c => ?_) (fun c => ?_)
    · have h := it c h
      exact qX7_isIn_b14 C   hR hS (lv_sub hl [] rfl) h
    · have h := ie c h
      refine lv_iconst (v := 1) hx hb dX7_isIn_10 (by decide) ?_
      refine lv_goto (tgt := 15) hx hb dX7_isIn_11 (by decide) ?_
      exact qX7_isIn_b15 C   hR hS (lv_sub hl [] rfl) h
def fX7_isFile (w : Fw) (x0 : Int32) : Option (Int32) := ((fX7_isIn w x0 0 5).bind fun v1 => zb v1)
set_option maxRecDepth 100000 in
set_option maxHeartbeats 4000000 in
theorem mX7_isFile (l : Launch) (D : va_G) (dA : Nat → ClassId) (A : Nat → Prop) {w : Fw} {x0 : Int32} {res : Int32} (h : fX7_isFile w x0 = some res) : Met l yX7_isFile (wz yX7_isFile cX7_isFile 1 (some .boolean)) (rz 1 22) (Pz D dA A w [.int x0]) (QzI D dA A res w) 0 0 A := by
  refine Met.ofW (cc := cX7_isFile) (maxL := 1) (ret := (some .boolean)) (by decide) rfl ?_
  intro p e s m args below meth c s₁ B hml hv
  obtain ⟨rfl, hR, hK⟩ := hv
  have hx := B.exec
  have hb := B.bytes
  have hr := B.returns
  have hts : ∀ w ∈ lw_g, w.before [.int x0].toArray s = true := fun w hw => atoms_spec (ws := wz yX7_isFile cX7_isFile 1 (some .boolean)) B.pre w (List.mem_cons_of_mem _ hw)
  have hown : s.vm.findClass RX7 = some m.cls := findClass_of_methodNamed B.named
  have hlocks := B.notSynchronized
  have C : Cx p s m [.int x0].toArray meth c D dA RX7 cX7_isFile 1 (some .boolean) := ⟨hx, hb, hr, hml, hown, hts, hK, hlocks⟩
  have hS : va_S A s.heap s.heap [] := va_S.rf
  have hl := lv_entry ([.int x0]) (n := 1) (Nat.le_of_ble_eq_true rfl)
  rw [lg_entry_eq]
  generalize (lg_sl ([.int x0]) ++ List.replicate (1 - (lg_sl ([.int x0])).length) Slot.unset).toArray = ls at hl ⊢
  have hl : lv_has ls 1 [(0, .int x0)] := hl
  unfold fX7_isFile at h
  show W p l e (rz 1 22) s m _ below meth c s.heap [] 0 0 _ _
  refine lv_iload_n hx hb dX7_isFile_0 rfl (lv_at hl 0 rfl) ?_
  refine lv_iconst (v := 0) hx hb dX7_isFile_1 (by decide) ?_
  refine lv_iconst (v := 5) hx hb dX7_isFile_2 (by decide) ?_
  obtain ⟨v1, e, h⟩ := bd h
  refine fx_sI' (As := [.int x0, .int 0, .int 5]) (rest := []) hx hb hml hts hown hK hR hS (mX7_isIn l D dA A e) my_X7_isIn ms_X7_isIn ml_X7_76 rfl hl.1 rfl (Nat.le_of_ble_eq_true rfl) dX7_isFile_3 ⟨Nat.le_of_ble_eq_true rfl, Nat.le_of_ble_eq_true rfl⟩ ⟨Nat.le_refl _, Nat.le_refl _⟩ (fun H locs hR hS => ?_)
  exact fx_zret hx hb hr hlocks h rfl hR hS dX7_isFile_6
def fX7_isLine_b28 (w : Fw)  (s0 : Int32) : Option (Int32) := zb s0
set_option maxRecDepth 100000 in
set_option maxHeartbeats 4000000 in
theorem qX7_isLine_b28 {p : Program} {l : Launch} {e : Env} {s : State} {m : MethodId} {args : Array Value} {below : List Frame} {meth : Method} {c : Code} {D : va_G} {dA : Nat → ClassId} {A : Nat → Prop} (C : Cx p s m args meth c D dA RX7 cX7_isLine 3 (some .boolean)) {w : Fw} {res : Int32}   {H : Heap} {locs : List Loc} {ls : Array Slot} {s0 : Int32} (hR : Rp D dA A w H) (hS : va_S A s.heap H locs) (hl : lv_has ls 3 []) (h : fX7_isLine_b28 w s0 = some res) : W p l e (rz 2 42) s m args below meth c H locs 0 0 (MQ below (QzI D dA A res w) args s 0 0 A) (F0 m 28 ls [.int s0]) := by
  obtain ⟨hx, hb, hr, hml, hown, hts, hK, hlocks⟩ := id C
  unfold fX7_isLine_b28 at h
  exact fx_zret hx hb hr hlocks h rfl hR hS dX7_isLine_28
def fX7_isLine_b27 (w : Fw)   : Option (Int32) := (fX7_isLine_b28 w 0)
set_option maxRecDepth 100000 in
set_option maxHeartbeats 4000000 in
theorem qX7_isLine_b27 {p : Program} {l : Launch} {e : Env} {s : State} {m : MethodId} {args : Array Value} {below : List Frame} {meth : Method} {c : Code} {D : va_G} {dA : Nat → ClassId} {A : Nat → Prop} (C : Cx p s m args meth c D dA RX7 cX7_isLine 3 (some .boolean)) {w : Fw} {res : Int32}   {H : Heap} {locs : List Loc} {ls : Array Slot}  (hR : Rp D dA A w H) (hS : va_S A s.heap H locs) (hl : lv_has ls 3 []) (h : fX7_isLine_b27 w = some res) : W p l e (rz 2 42) s m args below meth c H locs 0 0 (MQ below (QzI D dA A res w) args s 0 0 A) (F0 m 27 ls []) := by
  obtain ⟨hx, hb, hr, hml, hown, hts, hK, hlocks⟩ := id C
  unfold fX7_isLine_b27 at h
  refine lv_iconst (v := 0) hx hb dX7_isLine_27 (by decide) ?_
  exact qX7_isLine_b28 C   hR hS (lv_sub hl [] rfl) h
def fX7_isLine (w : Fw) (a0 : Nat) (x1 : Int32) (x2 : Int32) : Option (Int32) := ((fX7_isFile w x1).bind fun v1 => (if v1 = 0 then (fX7_isLine_b27 w) else ((gR w a0 7 0).bind fun r2 => ((lI w r2 x1).bind fun v3 => ((fX7_isIn w x2 0 (v3 - 1)).bind fun v4 => (if v4 = 0 then (fX7_isLine_b27 w) else (fX7_isLine_b28 w 1)))))))
set_option maxRecDepth 100000 in
set_option maxHeartbeats 4000000 in
theorem mX7_isLine (l : Launch) (D : va_G) (dA : Nat → ClassId) (A : Nat → Prop) {w : Fw} {a0 : Nat} {x1 : Int32} {x2 : Int32} {res : Int32} (h : fX7_isLine w a0 x1 x2 = some res) : Met l yX7_isLine (wz yX7_isLine cX7_isLine 3 (some .boolean)) (rz 2 42) (Pz D dA A w [.ref a0, .int x1, .int x2]) (QzI D dA A res w) 0 0 A := by
  refine Met.ofW (cc := cX7_isLine) (maxL := 3) (ret := (some .boolean)) (by decide) rfl ?_
  intro p e s m args below meth c s₁ B hml hv
  obtain ⟨rfl, hR, hK⟩ := hv
  have hx := B.exec
  have hb := B.bytes
  have hr := B.returns
  have hts : ∀ w ∈ lw_g, w.before [.ref a0, .int x1, .int x2].toArray s = true := fun w hw => atoms_spec (ws := wz yX7_isLine cX7_isLine 3 (some .boolean)) B.pre w (List.mem_cons_of_mem _ hw)
  have hown : s.vm.findClass RX7 = some m.cls := findClass_of_methodNamed B.named
  have hlocks := B.notSynchronized
  have C : Cx p s m [.ref a0, .int x1, .int x2].toArray meth c D dA RX7 cX7_isLine 3 (some .boolean) := ⟨hx, hb, hr, hml, hown, hts, hK, hlocks⟩
  have hS : va_S A s.heap s.heap [] := va_S.rf
  have hl := lv_entry ([.ref a0, .int x1, .int x2]) (n := 3) (Nat.le_of_ble_eq_true rfl)
  rw [lg_entry_eq]
  generalize (lg_sl ([.ref a0, .int x1, .int x2]) ++ List.replicate (3 - (lg_sl ([.ref a0, .int x1, .int x2])).length) Slot.unset).toArray = ls at hl ⊢
  have hl : lv_has ls 3 [(0, .ref a0), (1, .int x1), (2, .int x2)] := hl
  unfold fX7_isLine at h
  show W p l e (rz 2 42) s m _ below meth c s.heap [] 0 0 _ _
  refine lv_iload_n hx hb dX7_isLine_0 rfl (lv_at hl 1 rfl) ?_
  obtain ⟨v1, e, h⟩ := bd h
  refine fx_sI' (As := [.int x1]) (rest := []) hx hb hml hts hown hK hR hS (mX7_isFile l D dA A e) my_X7_isFile ms_X7_isFile ml_X7_80 rfl hl.1 rfl (Nat.le_of_ble_eq_true rfl) dX7_isLine_1 ⟨Nat.le_of_ble_eq_true rfl, Nat.le_of_ble_eq_true rfl⟩ ⟨Nat.le_refl _, Nat.le_refl _⟩ (fun H locs hR hS => ?_)
  refine lv_if_eq (tgt := 27) hx hb dX7_isLine_4 (by decide) (fun c => ?_) (fun c => ?_)
  · have h := it c h
    exact qX7_isLine_b27 C   hR hS (lv_sub hl [] rfl) h
  · have h := ie c h
    refine lv_iload_n hx hb dX7_isLine_7 rfl (lv_at hl 2 rfl) ?_
    refine lv_iconst (v := 0) hx hb dX7_isLine_8 (by decide) ?_
    refine lv_aload_n hx hb dX7_isLine_9 rfl (lv_at hl 0 rfl) ?_
    obtain ⟨r2, e, h⟩ := bd h
    refine fx_gR hx hb hts hown hK hR fl_X7_7 e dX7_isLine_10 ?_
    refine lv_iload_n hx hb dX7_isLine_13 rfl (lv_at hl 1 rfl) ?_
    obtain ⟨v3, e, h⟩ := bd h
    refine fx_lI hx hb hK hR e dX7_isLine_14 ?_
    refine lv_iconst (v := 1) hx hb dX7_isLine_15 (by decide) ?_
    refine lv_isub hx hb dX7_isLine_16 ?_
    obtain ⟨v4, e, h⟩ := bd h
    refine fx_sI' (As := [.int x2, .int 0, .int (v3 - 1)]) (rest := []) hx hb hml hts hown hK hR hS (mX7_isIn l D dA A e) my_X7_isIn ms_X7_isIn ml_X7_76 rfl hl.1 rfl (Nat.le_of_ble_eq_true rfl) dX7_isLine_17 ⟨Nat.le_of_ble_eq_true rfl, Nat.le_of_ble_eq_true rfl⟩ ⟨Nat.le_refl _, Nat.le_refl _⟩ (fun H locs hR hS => ?_)
    refine lv_if_eq (tgt := 27) hx hb dX7_isLine_20 (by decide) (fun c => ?_) (fun c => ?_)
    · have h := it c h
      exact qX7_isLine_b27 C   hR hS (lv_sub hl [] rfl) h
    · have h := ie c h
      refine lv_iconst (v := 1) hx hb dX7_isLine_23 (by decide) ?_
      refine lv_goto (tgt := 28) hx hb dX7_isLine_24 (by decide) ?_
      exact qX7_isLine_b28 C   hR hS (lv_sub hl [] rfl) h
def fX7_kind (w : Fw) (a0 : Nat) (x1 : Int32) (x2 : Int32) : Option (Int32) := ((gR w a0 7 1).bind fun r1 => ((lI w r1 ((32 * x1) + x2)).bind fun v2 => some (v2 >>> ((5 : Int32) &&& 31))))
set_option maxRecDepth 100000 in
set_option maxHeartbeats 4000000 in
theorem mX7_kind (l : Launch) (D : va_G) (dA : Nat → ClassId) (A : Nat → Prop) {w : Fw} {a0 : Nat} {x1 : Int32} {x2 : Int32} {res : Int32} (h : fX7_kind w a0 x1 x2 = some res) : Met l yX7_kind (wz yX7_kind cX7_kind 3 (some .int)) (rz 0 0) (Pz D dA A w [.ref a0, .int x1, .int x2]) (QzI D dA A res w) 0 0 A := by
  refine Met.ofW (cc := cX7_kind) (maxL := 3) (ret := (some .int)) (by decide) rfl ?_
  intro p e s m args below meth c s₁ B hml hv
  obtain ⟨rfl, hR, hK⟩ := hv
  have hx := B.exec
  have hb := B.bytes
  have hr := B.returns
  have hts : ∀ w ∈ lw_g, w.before [.ref a0, .int x1, .int x2].toArray s = true := fun w hw => atoms_spec (ws := wz yX7_kind cX7_kind 3 (some .int)) B.pre w (List.mem_cons_of_mem _ hw)
  have hown : s.vm.findClass RX7 = some m.cls := findClass_of_methodNamed B.named
  have hlocks := B.notSynchronized
  have C : Cx p s m [.ref a0, .int x1, .int x2].toArray meth c D dA RX7 cX7_kind 3 (some .int) := ⟨hx, hb, hr, hml, hown, hts, hK, hlocks⟩
  have hS : va_S A s.heap s.heap [] := va_S.rf
  have hl := lv_entry ([.ref a0, .int x1, .int x2]) (n := 3) (Nat.le_of_ble_eq_true rfl)
  rw [lg_entry_eq]
  generalize (lg_sl ([.ref a0, .int x1, .int x2]) ++ List.replicate (3 - (lg_sl ([.ref a0, .int x1, .int x2])).length) Slot.unset).toArray = ls at hl ⊢
  have hl : lv_has ls 3 [(0, .ref a0), (1, .int x1), (2, .int x2)] := hl
  unfold fX7_kind at h
  show W p l e (rz 0 0) s m _ below meth c s.heap [] 0 0 _ _
  refine lv_aload_n hx hb dX7_kind_0 rfl (lv_at hl 0 rfl) ?_
  obtain ⟨r1, e, h⟩ := bd h
  refine fx_gR hx hb hts hown hK hR fl_X7_13 e dX7_kind_1 ?_
  refine lv_bipush (v := 32) hx hb dX7_kind_4 (by decide) ?_
  refine lv_iload_n hx hb dX7_kind_6 rfl (lv_at hl 1 rfl) ?_
  refine lv_imul hx hb dX7_kind_7 ?_
  refine lv_iload_n hx hb dX7_kind_8 rfl (lv_at hl 2 rfl) ?_
  refine lv_iadd hx hb dX7_kind_9 ?_
  obtain ⟨v2, e, h⟩ := bd h
  refine fx_lI hx hb hK hR e dX7_kind_10 ?_
  refine lv_iconst (v := 5) hx hb dX7_kind_11 (by decide) ?_
  refine lv_ishr hx hb dX7_kind_12 ?_
  exact fx_iret hx hb hr hlocks (Option.some.inj h) rfl hR hS dX7_kind_13
def fX7_number (w : Fw) (a0 : Nat) (x1 : Int32) (x2 : Int32) : Option (Int32) := ((gR w a0 7 1).bind fun r1 => ((lI w r1 ((32 * x1) + x2)).bind fun v2 => some (v2 &&& 31)))
set_option maxRecDepth 100000 in
set_option maxHeartbeats 4000000 in
theorem mX7_number (l : Launch) (D : va_G) (dA : Nat → ClassId) (A : Nat → Prop) {w : Fw} {a0 : Nat} {x1 : Int32} {x2 : Int32} {res : Int32} (h : fX7_number w a0 x1 x2 = some res) : Met l yX7_number (wz yX7_number cX7_number 3 (some .int)) (rz 0 0) (Pz D dA A w [.ref a0, .int x1, .int x2]) (QzI D dA A res w) 0 0 A := by
  refine Met.ofW (cc := cX7_number) (maxL := 3) (ret := (some .int)) (by decide) rfl ?_
  intro p e s m args below meth c s₁ B hml hv
  obtain ⟨rfl, hR, hK⟩ := hv
  have hx := B.exec
  have hb := B.bytes
  have hr := B.returns
  have hts : ∀ w ∈ lw_g, w.before [.ref a0, .int x1, .int x2].toArray s = true := fun w hw => atoms_spec (ws := wz yX7_number cX7_number 3 (some .int)) B.pre w (List.mem_cons_of_mem _ hw)
  have hown : s.vm.findClass RX7 = some m.cls := findClass_of_methodNamed B.named
  have hlocks := B.notSynchronized
  have C : Cx p s m [.ref a0, .int x1, .int x2].toArray meth c D dA RX7 cX7_number 3 (some .int) := ⟨hx, hb, hr, hml, hown, hts, hK, hlocks⟩
  have hS : va_S A s.heap s.heap [] := va_S.rf
  have hl := lv_entry ([.ref a0, .int x1, .int x2]) (n := 3) (Nat.le_of_ble_eq_true rfl)
  rw [lg_entry_eq]
  generalize (lg_sl ([.ref a0, .int x1, .int x2]) ++ List.replicate (3 - (lg_sl ([.ref a0, .int x1, .int x2])).length) Slot.unset).toArray = ls at hl ⊢
  have hl : lv_has ls 3 [(0, .ref a0), (1, .int x1), (2, .int x2)] := hl
  unfold fX7_number at h
  show W p l e (rz 0 0) s m _ below meth c s.heap [] 0 0 _ _
  refine lv_aload_n hx hb dX7_number_0 rfl (lv_at hl 0 rfl) ?_
  obtain ⟨r1, e, h⟩ := bd h
  refine fx_gR hx hb hts hown hK hR fl_X7_13 e dX7_number_1 ?_
  refine lv_bipush (v := 32) hx hb dX7_number_4 (by decide) ?_
  refine lv_iload_n hx hb dX7_number_6 rfl (lv_at hl 1 rfl) ?_
  refine lv_imul hx hb dX7_number_7 ?_
  refine lv_iload_n hx hb dX7_number_8 rfl (lv_at hl 2 rfl) ?_
  refine lv_iadd hx hb dX7_number_9 ?_
  obtain ⟨v2, e, h⟩ := bd h
  refine fx_lI hx hb hK hR e dX7_number_10 ?_
  refine lv_bipush (v := 31) hx hb dX7_number_11 (by decide) ?_
  refine lv_iand hx hb dX7_number_13 ?_
  exact fx_iret hx hb hr hlocks (Option.some.inj h) rfl hR hS dX7_number_14
def fX7_defs_b35 (w : Fw) (K4 : Nat → Int32 → Int32 → Int32 → Option (Int32)) (a0 : Nat) (x1 : Int32) (x2 : Int32) (x3 : Int32) : Option (Int32) := (K4 a0 x1 x2 (x3 + 1))
set_option maxRecDepth 100000 in
set_option maxHeartbeats 4000000 in
theorem qX7_defs_b35 {p : Program} {l : Launch} {e : Env} {s : State} {m : MethodId} {args : Array Value} {below : List Frame} {meth : Method} {c : Code} {D : va_G} {dA : Nat → ClassId} {A : Nat → Prop} (C : Cx p s m args meth c D dA RX7 cX7_defs 4 (some .int)) {w : Fw} {res : Int32} {K4 : Nat → Int32 → Int32 → Int32 → Option (Int32)} (hK4 : ∀ {H : Heap} {locs : List Loc} {ls : Array Slot} {a0 : Nat} {x1 : Int32} {x2 : Int32} {x3 : Int32}, Rp D dA A w H → va_S A s.heap H locs → lv_has ls 4 [(0, .ref a0), (1, .int x1), (2, .int x2), (3, .int x3)] → K4 a0 x1 x2 x3 = some res → W p l e (rz 1 22) s m args below meth c H locs 0 0 (MQ below (QzI D dA A res w) args s 0 0 A) (F0 m 4 ls [])) {H : Heap} {locs : List Loc} {ls : Array Slot} {a0 : Nat} {x1 : Int32} {x2 : Int32} {x3 : Int32} (hR : Rp D dA A w H) (hS : va_S A s.heap H locs) (hl : lv_has ls 4 [(0, .ref a0), (1, .int x1), (2, .int x2), (3, .int x3)]) (h : fX7_defs_b35 w K4 a0 x1 x2 x3 = some res) : W p l e (rz 1 22) s m args below meth c H locs 0 0 (MQ below (QzI D dA A res w) args s 0 0 A) (F0 m 35 ls []) := by
  obtain ⟨hx, hb, hr, hml, hown, hts, hK, hlocks⟩ := id C
  unfold fX7_defs_b35 at h
  refine lv_iinc (v := (x3 + 1)) (lv' := [(3, .int (x3 + 1)), (0, .ref a0), (1, .int x1), (2, .int x2)]) hx hb dX7_defs_35 hl (k := 3) rfl rfl (by decide) rfl (fun ls hl => ?_)
  refine lv_goto (tgt := 4) hx hb dX7_defs_38 (by decide) ?_
  exact hK4 hR hS (lv_sub hl [1, 2, 3, 0] rfl) h
def fX7_defs_L4 (w : Fw)  : Nat → Nat → Int32 → Int32 → Int32 → Option (Int32)
  | 0, _, _, _, _ => none
  | n + 1, a0, x1, x2, x3 => ((gR w a0 7 0).bind fun r1 => ((lI w r1 x1).bind fun v2 => (if v2 ≤ x3 then some x2 else ((isO w a0 7).bind fun _ => ((fX7_kind w a0 x1 x3).bind fun v3 => (if v3 = 1 then ((isO w a0 7).bind fun _ => ((fX7_number w a0 x1 x3).bind fun v4 => (fX7_defs_b35 w (fX7_defs_L4 w n) a0 x1 (x2 ||| ((1 : Int32) <<< (v4 &&& 31))) x3))) else (fX7_defs_b35 w (fX7_defs_L4 w n) a0 x1 x2 x3)))))))
set_option maxRecDepth 100000 in
set_option maxHeartbeats 4000000 in
theorem qX7_defs_L4 {p : Program} {l : Launch} {e : Env} {s : State} {m : MethodId} {args : Array Value} {below : List Frame} {meth : Method} {c : Code} {D : va_G} {dA : Nat → ClassId} {A : Nat → Prop} (C : Cx p s m args meth c D dA RX7 cX7_defs 4 (some .int)) {w : Fw} {res : Int32}   : ∀ (n : Nat) {H : Heap} {locs : List Loc} {ls : Array Slot} {a0 : Nat} {x1 : Int32} {x2 : Int32} {x3 : Int32}, Rp D dA A w H → va_S A s.heap H locs → lv_has ls 4 [(0, .ref a0), (1, .int x1), (2, .int x2), (3, .int x3)] → fX7_defs_L4 w n a0 x1 x2 x3 = some res → W p l e (rz 1 22) s m args below meth c H locs 0 0 (MQ below (QzI D dA A res w) args s 0 0 A) (F0 m 4 ls []) := by
  obtain ⟨hx, hb, hr, hml, hown, hts, hK, hlocks⟩ := id C
  intro n
  induction n with
  | zero =>
    intro H locs ls a0 x1 x2 x3 hR hS hl h
    rw [fX7_defs_L4.eq_1] at h
    cases h
  | succ n ih =>
    intro H locs ls a0 x1 x2 x3 hR hS hl h
    rw [fX7_defs_L4.eq_2] at h
    refine lv_iload_n hx hb dX7_defs_4 rfl (lv_at hl 3 rfl) ?_
    refine lv_aload_n hx hb dX7_defs_5 rfl (lv_at hl 0 rfl) ?_
    obtain ⟨r1, e, h⟩ := bd h
    refine fx_gR hx hb hts hown hK hR fl_X7_7 e dX7_defs_6 ?_
    refine lv_iload_n hx hb dX7_defs_9 rfl (lv_at hl 1 rfl) ?_
    obtain ⟨v2, e, h⟩ := bd h
    refine fx_lI hx hb hK hR e dX7_defs_10 ?_
    refine lv_icmp_ge (tgt := 41) hx hb dX7_defs_11 (by decide) (fun c => ?_) (fun c => ?_)
    · have h := it c h
      refine lv_iload_n hx hb dX7_defs_41 rfl (lv_at hl 2 rfl) ?_
      exact fx_iret hx hb hr hlocks (Option.some.inj h) rfl hR hS dX7_defs_42
    · have h := ie c h
      refine lv_aload_n hx hb dX7_defs_14 rfl (lv_at hl 0 rfl) ?_
      refine lv_iload_n hx hb dX7_defs_15 rfl (lv_at hl 1 rfl) ?_
      refine lv_iload_n hx hb dX7_defs_16 rfl (lv_at hl 3 rfl) ?_
      obtain ⟨_, eO, h⟩ := bd h
      obtain ⟨v3, e, h⟩ := bd h
      refine fx_vI (As := [.int x1, .int x3]) (rest := []) hx hb hml hts hown hK hR hS eO (mX7_kind l D dA A e) my_X7_kind mv_X7_kind rfl ml_X7_84 rfl hl.1 rfl (Nat.le_of_ble_eq_true rfl) dX7_defs_17 ⟨Nat.le_of_ble_eq_true rfl, Nat.le_of_ble_eq_true rfl⟩ ⟨Nat.le_refl _, Nat.le_refl _⟩ (fun H locs hR hS => ?_)
      refine lv_iconst (v := 1) hx hb dX7_defs_20 (by decide) ?_
      refine lv_icmp_ne (tgt := 35) hx hb dX7_defs_21 (by decide) (fun c => ?_) (fun c => ?_)
      · have h := ie c h
        exact qX7_defs_b35 C (K4 := fX7_defs_L4 w n) (hK4 := @ih) hR hS (lv_sub hl [0, 1, 2, 3] rfl) h
      · have h := it c h
        refine lv_iload_n hx hb dX7_defs_24 rfl (lv_at hl 2 rfl) ?_
        refine lv_iconst (v := 1) hx hb dX7_defs_25 (by decide) ?_
        refine lv_aload_n hx hb dX7_defs_26 rfl (lv_at hl 0 rfl) ?_
        refine lv_iload_n hx hb dX7_defs_27 rfl (lv_at hl 1 rfl) ?_
        refine lv_iload_n hx hb dX7_defs_28 rfl (lv_at hl 3 rfl) ?_
        obtain ⟨_, eO, h⟩ := bd h
        obtain ⟨v4, e, h⟩ := bd h
        refine fx_vI (As := [.int x1, .int x3]) (rest := [.int 1, .int x2]) hx hb hml hts hown hK hR hS eO (mX7_number l D dA A e) my_X7_number mv_X7_number rfl ml_X7_88 rfl hl.1 rfl (Nat.le_of_ble_eq_true rfl) dX7_defs_29 ⟨Nat.le_of_ble_eq_true rfl, Nat.le_of_ble_eq_true rfl⟩ ⟨Nat.le_refl _, Nat.le_refl _⟩ (fun H locs hR hS => ?_)
        refine lv_ishl hx hb dX7_defs_32 ?_
        refine lv_ior hx hb dX7_defs_33 ?_
        refine lv_istore_n (lv' := [(2, .int (x2 ||| ((1 : Int32) <<< (v4 &&& 31)))), (0, .ref a0), (1, .int x1), (3, .int x3)]) hx hb dX7_defs_34 rfl hl (by decide) rfl (fun ls hl => ?_)
        exact qX7_defs_b35 C (K4 := fX7_defs_L4 w n) (hK4 := @ih) hR hS (lv_sub hl [1, 2, 0, 3] rfl) h
def fX7_defs (w : Fw) (a0 : Nat) (x1 : Int32) : Option (Int32) := (fX7_defs_L4 w 1000 a0 x1 0 0)
set_option maxRecDepth 100000 in
set_option maxHeartbeats 4000000 in
theorem mX7_defs (l : Launch) (D : va_G) (dA : Nat → ClassId) (A : Nat → Prop) {w : Fw} {a0 : Nat} {x1 : Int32} {res : Int32} (h : fX7_defs w a0 x1 = some res) : Met l yX7_defs (wz yX7_defs cX7_defs 4 (some .int)) (rz 1 22) (Pz D dA A w [.ref a0, .int x1]) (QzI D dA A res w) 0 0 A := by
  refine Met.ofW (cc := cX7_defs) (maxL := 4) (ret := (some .int)) (by decide) rfl ?_
  intro p e s m args below meth c s₁ B hml hv
  obtain ⟨rfl, hR, hK⟩ := hv
  have hx := B.exec
  have hb := B.bytes
  have hr := B.returns
  have hts : ∀ w ∈ lw_g, w.before [.ref a0, .int x1].toArray s = true := fun w hw => atoms_spec (ws := wz yX7_defs cX7_defs 4 (some .int)) B.pre w (List.mem_cons_of_mem _ hw)
  have hown : s.vm.findClass RX7 = some m.cls := findClass_of_methodNamed B.named
  have hlocks := B.notSynchronized
  have C : Cx p s m [.ref a0, .int x1].toArray meth c D dA RX7 cX7_defs 4 (some .int) := ⟨hx, hb, hr, hml, hown, hts, hK, hlocks⟩
  have hS : va_S A s.heap s.heap [] := va_S.rf
  have hl := lv_entry ([.ref a0, .int x1]) (n := 4) (Nat.le_of_ble_eq_true rfl)
  rw [lg_entry_eq]
  generalize (lg_sl ([.ref a0, .int x1]) ++ List.replicate (4 - (lg_sl ([.ref a0, .int x1])).length) Slot.unset).toArray = ls at hl ⊢
  have hl : lv_has ls 4 [(0, .ref a0), (1, .int x1)] := hl
  unfold fX7_defs at h
  show W p l e (rz 1 22) s m _ below meth c s.heap [] 0 0 _ _
  refine lv_iconst (v := 0) hx hb dX7_defs_0 (by decide) ?_
  refine lv_istore_n (lv' := [(2, .int 0), (0, .ref a0), (1, .int x1)]) hx hb dX7_defs_1 rfl hl (by decide) rfl (fun ls hl => ?_)
  refine lv_iconst (v := 0) hx hb dX7_defs_2 (by decide) ?_
  refine lv_istore_n (lv' := [(3, .int 0), (2, .int 0), (0, .ref a0), (1, .int x1)]) hx hb dX7_defs_3 rfl hl (by decide) rfl (fun ls hl => ?_)
  exact qX7_defs_L4 C   1000 hR hS (lv_sub hl [2, 3, 1, 0] rfl) h
def fX7_uses_b35 (w : Fw) (K4 : Nat → Int32 → Int32 → Int32 → Option (Int32)) (a0 : Nat) (x1 : Int32) (x2 : Int32) (x3 : Int32) : Option (Int32) := (K4 a0 x1 x2 (x3 + 1))
set_option maxRecDepth 100000 in
set_option maxHeartbeats 4000000 in
theorem qX7_uses_b35 {p : Program} {l : Launch} {e : Env} {s : State} {m : MethodId} {args : Array Value} {below : List Frame} {meth : Method} {c : Code} {D : va_G} {dA : Nat → ClassId} {A : Nat → Prop} (C : Cx p s m args meth c D dA RX7 cX7_uses 4 (some .int)) {w : Fw} {res : Int32} {K4 : Nat → Int32 → Int32 → Int32 → Option (Int32)} (hK4 : ∀ {H : Heap} {locs : List Loc} {ls : Array Slot} {a0 : Nat} {x1 : Int32} {x2 : Int32} {x3 : Int32}, Rp D dA A w H → va_S A s.heap H locs → lv_has ls 4 [(0, .ref a0), (1, .int x1), (2, .int x2), (3, .int x3)] → K4 a0 x1 x2 x3 = some res → W p l e (rz 1 22) s m args below meth c H locs 0 0 (MQ below (QzI D dA A res w) args s 0 0 A) (F0 m 4 ls [])) {H : Heap} {locs : List Loc} {ls : Array Slot} {a0 : Nat} {x1 : Int32} {x2 : Int32} {x3 : Int32} (hR : Rp D dA A w H) (hS : va_S A s.heap H locs) (hl : lv_has ls 4 [(0, .ref a0), (1, .int x1), (2, .int x2), (3, .int x3)]) (h : fX7_uses_b35 w K4 a0 x1 x2 x3 = some res) : W p l e (rz 1 22) s m args below meth c H locs 0 0 (MQ below (QzI D dA A res w) args s 0 0 A) (F0 m 35 ls []) := by
  obtain ⟨hx, hb, hr, hml, hown, hts, hK, hlocks⟩ := id C
  unfold fX7_uses_b35 at h
  refine lv_iinc (v := (x3 + 1)) (lv' := [(3, .int (x3 + 1)), (0, .ref a0), (1, .int x1), (2, .int x2)]) hx hb dX7_uses_35 hl (k := 3) rfl rfl (by decide) rfl (fun ls hl => ?_)
  refine lv_goto (tgt := 4) hx hb dX7_uses_38 (by decide) ?_
  exact hK4 hR hS (lv_sub hl [1, 2, 3, 0] rfl) h
def fX7_uses_L4 (w : Fw)  : Nat → Nat → Int32 → Int32 → Int32 → Option (Int32)
  | 0, _, _, _, _ => none
  | n + 1, a0, x1, x2, x3 => ((gR w a0 7 0).bind fun r1 => ((lI w r1 x1).bind fun v2 => (if v2 ≤ x3 then some x2 else ((isO w a0 7).bind fun _ => ((fX7_kind w a0 x1 x3).bind fun v3 => (if v3 = 2 then ((isO w a0 7).bind fun _ => ((fX7_number w a0 x1 x3).bind fun v4 => (fX7_uses_b35 w (fX7_uses_L4 w n) a0 x1 (x2 ||| ((1 : Int32) <<< (v4 &&& 31))) x3))) else (fX7_uses_b35 w (fX7_uses_L4 w n) a0 x1 x2 x3)))))))
set_option maxRecDepth 100000 in
set_option maxHeartbeats 4000000 in
theorem qX7_uses_L4 {p : Program} {l : Launch} {e : Env} {s : State} {m : MethodId} {args : Array Value} {below : List Frame} {meth : Method} {c : Code} {D : va_G} {dA : Nat → ClassId} {A : Nat → Prop} (C : Cx p s m args meth c D dA RX7 cX7_uses 4 (some .int)) {w : Fw} {res : Int32}   : ∀ (n : Nat) {H : Heap} {locs : List Loc} {ls : Array Slot} {a0 : Nat} {x1 : Int32} {x2 : Int32} {x3 : Int32}, Rp D dA A w H → va_S A s.heap H locs → lv_has ls 4 [(0, .ref a0), (1, .int x1), (2, .int x2), (3, .int x3)] → fX7_uses_L4 w n a0 x1 x2 x3 = some res → W p l e (rz 1 22) s m args below meth c H locs 0 0 (MQ below (QzI D dA A res w) args s 0 0 A) (F0 m 4 ls []) := by
  obtain ⟨hx, hb, hr, hml, hown, hts, hK, hlocks⟩ := id C
  intro n
  induction n with
  | zero =>
    intro H locs ls a0 x1 x2 x3 hR hS hl h
    rw [fX7_uses_L4.eq_1] at h
    cases h
  | succ n ih =>
    intro H locs ls a0 x1 x2 x3 hR hS hl h
    rw [fX7_uses_L4.eq_2] at h
    refine lv_iload_n hx hb dX7_uses_4 rfl (lv_at hl 3 rfl) ?_
    refine lv_aload_n hx hb dX7_uses_5 rfl (lv_at hl 0 rfl) ?_
    obtain ⟨r1, e, h⟩ := bd h
    refine fx_gR hx hb hts hown hK hR fl_X7_7 e dX7_uses_6 ?_
    refine lv_iload_n hx hb dX7_uses_9 rfl (lv_at hl 1 rfl) ?_
    obtain ⟨v2, e, h⟩ := bd h
    refine fx_lI hx hb hK hR e dX7_uses_10 ?_
    refine lv_icmp_ge (tgt := 41) hx hb dX7_uses_11 (by decide) (fun c => ?_) (fun c => ?_)
    · have h := it c h
      refine lv_iload_n hx hb dX7_uses_41 rfl (lv_at hl 2 rfl) ?_
      exact fx_iret hx hb hr hlocks (Option.some.inj h) rfl hR hS dX7_uses_42
    · have h := ie c h
      refine lv_aload_n hx hb dX7_uses_14 rfl (lv_at hl 0 rfl) ?_
      refine lv_iload_n hx hb dX7_uses_15 rfl (lv_at hl 1 rfl) ?_
      refine lv_iload_n hx hb dX7_uses_16 rfl (lv_at hl 3 rfl) ?_
      obtain ⟨_, eO, h⟩ := bd h
      obtain ⟨v3, e, h⟩ := bd h
      refine fx_vI (As := [.int x1, .int x3]) (rest := []) hx hb hml hts hown hK hR hS eO (mX7_kind l D dA A e) my_X7_kind mv_X7_kind rfl ml_X7_84 rfl hl.1 rfl (Nat.le_of_ble_eq_true rfl) dX7_uses_17 ⟨Nat.le_of_ble_eq_true rfl, Nat.le_of_ble_eq_true rfl⟩ ⟨Nat.le_refl _, Nat.le_refl _⟩ (fun H locs hR hS => ?_)
      refine lv_iconst (v := 2) hx hb dX7_uses_20 (by decide) ?_
      refine lv_icmp_ne (tgt := 35) hx hb dX7_uses_21 (by decide) (fun c => ?_) (fun c => ?_)
      · have h := ie c h
        exact qX7_uses_b35 C (K4 := fX7_uses_L4 w n) (hK4 := @ih) hR hS (lv_sub hl [0, 1, 2, 3] rfl) h
      · have h := it c h
        refine lv_iload_n hx hb dX7_uses_24 rfl (lv_at hl 2 rfl) ?_
        refine lv_iconst (v := 1) hx hb dX7_uses_25 (by decide) ?_
        refine lv_aload_n hx hb dX7_uses_26 rfl (lv_at hl 0 rfl) ?_
        refine lv_iload_n hx hb dX7_uses_27 rfl (lv_at hl 1 rfl) ?_
        refine lv_iload_n hx hb dX7_uses_28 rfl (lv_at hl 3 rfl) ?_
        obtain ⟨_, eO, h⟩ := bd h
        obtain ⟨v4, e, h⟩ := bd h
        refine fx_vI (As := [.int x1, .int x3]) (rest := [.int 1, .int x2]) hx hb hml hts hown hK hR hS eO (mX7_number l D dA A e) my_X7_number mv_X7_number rfl ml_X7_88 rfl hl.1 rfl (Nat.le_of_ble_eq_true rfl) dX7_uses_29 ⟨Nat.le_of_ble_eq_true rfl, Nat.le_of_ble_eq_true rfl⟩ ⟨Nat.le_refl _, Nat.le_refl _⟩ (fun H locs hR hS => ?_)
        refine lv_ishl hx hb dX7_uses_32 ?_
        refine lv_ior hx hb dX7_uses_33 ?_
        refine lv_istore_n (lv' := [(2, .int (x2 ||| ((1 : Int32) <<< (v4 &&& 31)))), (0, .ref a0), (1, .int x1), (3, .int x3)]) hx hb dX7_uses_34 rfl hl (by decide) rfl (fun ls hl => ?_)
        exact qX7_uses_b35 C (K4 := fX7_uses_L4 w n) (hK4 := @ih) hR hS (lv_sub hl [1, 2, 0, 3] rfl) h
def fX7_uses (w : Fw) (a0 : Nat) (x1 : Int32) : Option (Int32) := (fX7_uses_L4 w 1000 a0 x1 0 0)
set_option maxRecDepth 100000 in
set_option maxHeartbeats 4000000 in
theorem mX7_uses (l : Launch) (D : va_G) (dA : Nat → ClassId) (A : Nat → Prop) {w : Fw} {a0 : Nat} {x1 : Int32} {res : Int32} (h : fX7_uses w a0 x1 = some res) : Met l yX7_uses (wz yX7_uses cX7_uses 4 (some .int)) (rz 1 22) (Pz D dA A w [.ref a0, .int x1]) (QzI D dA A res w) 0 0 A := by
  refine Met.ofW (cc := cX7_uses) (maxL := 4) (ret := (some .int)) (by decide) rfl ?_
  intro p e s m args below meth c s₁ B hml hv
  obtain ⟨rfl, hR, hK⟩ := hv
  have hx := B.exec
  have hb := B.bytes
  have hr := B.returns
  have hts : ∀ w ∈ lw_g, w.before [.ref a0, .int x1].toArray s = true := fun w hw => atoms_spec (ws := wz yX7_uses cX7_uses 4 (some .int)) B.pre w (List.mem_cons_of_mem _ hw)
  have hown : s.vm.findClass RX7 = some m.cls := findClass_of_methodNamed B.named
  have hlocks := B.notSynchronized
  have C : Cx p s m [.ref a0, .int x1].toArray meth c D dA RX7 cX7_uses 4 (some .int) := ⟨hx, hb, hr, hml, hown, hts, hK, hlocks⟩
  have hS : va_S A s.heap s.heap [] := va_S.rf
  have hl := lv_entry ([.ref a0, .int x1]) (n := 4) (Nat.le_of_ble_eq_true rfl)
  rw [lg_entry_eq]
  generalize (lg_sl ([.ref a0, .int x1]) ++ List.replicate (4 - (lg_sl ([.ref a0, .int x1])).length) Slot.unset).toArray = ls at hl ⊢
  have hl : lv_has ls 4 [(0, .ref a0), (1, .int x1)] := hl
  unfold fX7_uses at h
  show W p l e (rz 1 22) s m _ below meth c s.heap [] 0 0 _ _
  refine lv_iconst (v := 0) hx hb dX7_uses_0 (by decide) ?_
  refine lv_istore_n (lv' := [(2, .int 0), (0, .ref a0), (1, .int x1)]) hx hb dX7_uses_1 rfl hl (by decide) rfl (fun ls hl => ?_)
  refine lv_iconst (v := 0) hx hb dX7_uses_2 (by decide) ?_
  refine lv_istore_n (lv' := [(3, .int 0), (2, .int 0), (0, .ref a0), (1, .int x1)]) hx hb dX7_uses_3 rfl hl (by decide) rfl (fun ls hl => ?_)
  exact qX7_uses_L4 C   1000 hR hS (lv_sub hl [2, 3, 1, 0] rfl) h
def fX7_imports_b50 (w : Fw) (K5 : Nat → Int32 → Int32 → Int32 → Int32 → Option (Int32)) (a0 : Nat) (x1 : Int32) (x2 : Int32) (x4 : Int32) (s0 : Int32) : Option (Int32) := (K5 a0 x1 x2 s0 (x4 + 1))
set_option maxRecDepth 100000 in
set_option maxHeartbeats 4000000 in
theorem qX7_imports_b50 {p : Program} {l : Launch} {e : Env} {s : State} {m : MethodId} {args : Array Value} {below : List Frame} {meth : Method} {c : Code} {D : va_G} {dA : Nat → ClassId} {A : Nat → Prop} (C : Cx p s m args meth c D dA RX7 cX7_imports 5 (some .boolean)) {w : Fw} {res : Int32} {K5 : Nat → Int32 → Int32 → Int32 → Int32 → Option (Int32)} (hK5 : ∀ {H : Heap} {locs : List Loc} {ls : Array Slot} {a0 : Nat} {x1 : Int32} {x2 : Int32} {x3 : Int32} {x4 : Int32}, Rp D dA A w H → va_S A s.heap H locs → lv_has ls 5 [(0, .ref a0), (1, .int x1), (2, .int x2), (3, .int x3), (4, .int x4)] → K5 a0 x1 x2 x3 x4 = some res → W p l e (rz 1 22) s m args below meth c H locs 0 0 (MQ below (QzI D dA A res w) args s 0 0 A) (F0 m 5 ls [])) {H : Heap} {locs : List Loc} {ls : Array Slot} {a0 : Nat} {x1 : Int32} {x2 : Int32} {x4 : Int32} {s0 : Int32} (hR : Rp D dA A w H) (hS : va_S A s.heap H locs) (hl : lv_has ls 5 [(0, .ref a0), (1, .int x1), (2, .int x2), (4, .int x4)]) (h : fX7_imports_b50 w K5 a0 x1 x2 x4 s0 = some res) : W p l e (rz 1 22) s m args below meth c H locs 0 0 (MQ below (QzI D dA A res w) args s 0 0 A) (F0 m 50 ls [.int s0]) := by
  obtain ⟨hx, hb, hr, hml, hown, hts, hK, hlocks⟩ := id C
  unfold fX7_imports_b50 at h
  refine lv_istore_n (lv' := [(3, .int s0), (0, .ref a0), (1, .int x1), (2, .int x2), (4, .int x4)]) hx hb dX7_imports_50 rfl hl (by decide) rfl (fun ls hl => ?_)
  refine lv_iinc (v := (x4 + 1)) (lv' := [(4, .int (x4 + 1)), (3, .int s0), (0, .ref a0), (1, .int x1), (2, .int x2)]) hx hb dX7_imports_51 hl (k := 4) rfl rfl (by decide) rfl (fun ls hl => ?_)
  refine lv_goto (tgt := 5) hx hb dX7_imports_54 (by decide) ?_
  exact hK5 hR hS (lv_sub hl [2, 3, 4, 1, 0] rfl) h
def fX7_imports_b49 (w : Fw) (K5 : Nat → Int32 → Int32 → Int32 → Int32 → Option (Int32)) (a0 : Nat) (x1 : Int32) (x2 : Int32) (x4 : Int32) : Option (Int32) := (fX7_imports_b50 w K5 a0 x1 x2 x4 0)
set_option maxRecDepth 100000 in
set_option maxHeartbeats 4000000 in
theorem qX7_imports_b49 {p : Program} {l : Launch} {e : Env} {s : State} {m : MethodId} {args : Array Value} {below : List Frame} {meth : Method} {c : Code} {D : va_G} {dA : Nat → ClassId} {A : Nat → Prop} (C : Cx p s m args meth c D dA RX7 cX7_imports 5 (some .boolean)) {w : Fw} {res : Int32} {K5 : Nat → Int32 → Int32 → Int32 → Int32 → Option (Int32)} (hK5 : ∀ {H : Heap} {locs : List Loc} {ls : Array Slot} {a0 : Nat} {x1 : Int32} {x2 : Int32} {x3 : Int32} {x4 : Int32}, Rp D dA A w H → va_S A s.heap H locs → lv_has ls 5 [(0, .ref a0), (1, .int x1), (2, .int x2), (3, .int x3), (4, .int x4)] → K5 a0 x1 x2 x3 x4 = some res → W p l e (rz 1 22) s m args below meth c H locs 0 0 (MQ below (QzI D dA A res w) args s 0 0 A) (F0 m 5 ls [])) {H : Heap} {locs : List Loc} {ls : Array Slot} {a0 : Nat} {x1 : Int32} {x2 : Int32} {x4 : Int32} (hR : Rp D dA A w H) (hS : va_S A s.heap H locs) (hl : lv_has ls 5 [(0, .ref a0), (1, .int x1), (2, .int x2), (4, .int x4)]) (h : fX7_imports_b49 w K5 a0 x1 x2 x4 = some res) : W p l e (rz 1 22) s m args below meth c H locs 0 0 (MQ below (QzI D dA A res w) args s 0 0 A) (F0 m 49 ls []) := by
  obtain ⟨hx, hb, hr, hml, hown, hts, hK, hlocks⟩ := id C
  unfold fX7_imports_b49 at h
  refine lv_iconst (v := 0) hx hb dX7_imports_49 (by decide) ?_
  exact qX7_imports_b50 C (K5 := K5) (hK5 := @hK5) hR hS (lv_sub hl [0, 1, 2, 3] rfl) h
def fX7_imports_b45 (w : Fw) (K5 : Nat → Int32 → Int32 → Int32 → Int32 → Option (Int32)) (a0 : Nat) (x1 : Int32) (x2 : Int32) (x4 : Int32) : Option (Int32) := (fX7_imports_b50 w K5 a0 x1 x2 x4 1)
set_option maxRecDepth 100000 in
set_option maxHeartbeats 4000000 in
theorem qX7_imports_b45 {p : Program} {l : Launch} {e : Env} {s : State} {m : MethodId} {args : Array Value} {below : List Frame} {meth : Method} {c : Code} {D : va_G} {dA : Nat → ClassId} {A : Nat → Prop} (C : Cx p s m args meth c D dA RX7 cX7_imports 5 (some .boolean)) {w : Fw} {res : Int32} {K5 : Nat → Int32 → Int32 → Int32 → Int32 → Option (Int32)} (hK5 : ∀ {H : Heap} {locs : List Loc} {ls : Array Slot} {a0 : Nat} {x1 : Int32} {x2 : Int32} {x3 : Int32} {x4 : Int32}, Rp D dA A w H → va_S A s.heap H locs → lv_has ls 5 [(0, .ref a0), (1, .int x1), (2, .int x2), (3, .int x3), (4, .int x4)] → K5 a0 x1 x2 x3 x4 = some res → W p l e (rz 1 22) s m args below meth c H locs 0 0 (MQ below (QzI D dA A res w) args s 0 0 A) (F0 m 5 ls [])) {H : Heap} {locs : List Loc} {ls : Array Slot} {a0 : Nat} {x1 : Int32} {x2 : Int32} {x4 : Int32} (hR : Rp D dA A w H) (hS : va_S A s.heap H locs) (hl : lv_has ls 5 [(0, .ref a0), (1, .int x1), (2, .int x2), (4, .int x4)]) (h : fX7_imports_b45 w K5 a0 x1 x2 x4 = some res) : W p l e (rz 1 22) s m args below meth c H locs 0 0 (MQ below (QzI D dA A res w) args s 0 0 A) (F0 m 45 ls []) := by
  obtain ⟨hx, hb, hr, hml, hown, hts, hK, hlocks⟩ := id C
  unfold fX7_imports_b45 at h
  refine lv_iconst (v := 1) hx hb dX7_imports_45 (by decide) ?_
  refine lv_goto (tgt := 50) hx hb dX7_imports_46 (by decide) ?_
  exact qX7_imports_b50 C (K5 := K5) (hK5 := @hK5) hR hS (lv_sub hl [0, 1, 2, 3] rfl) h
def fX7_imports_L5 (w : Fw)  : Nat → Nat → Int32 → Int32 → Int32 → Int32 → Option (Int32)
  | 0, _, _, _, _, _ => none
  | n + 1, a0, x1, x2, x3, x4 => ((gR w a0 7 0).bind fun r1 => ((lI w r1 x1).bind fun v2 => (if v2 ≤ x4 then zb x3 else if x3 = 0 then ((isO w a0 7).bind fun _ => ((fX7_kind w a0 x1 x4).bind fun v3 => (if v3 = 5 then ((isO w a0 7).bind fun _ => ((fX7_number w a0 x1 x4).bind fun v4 => (if (v4 - v4 / 6 * 6) = x2 then (fX7_imports_b45 w (fX7_imports_L5 w n) a0 x1 x2 x4) else (fX7_imports_b49 w (fX7_imports_L5 w n) a0 x1 x2 x4)))) else (fX7_imports_b49 w (fX7_imports_L5 w n) a0 x1 x2 x4)))) else (fX7_imports_b45 w (fX7_imports_L5 w n) a0 x1 x2 x4))))
set_option maxRecDepth 100000 in
set_option maxHeartbeats 4000000 in
theorem qX7_imports_L5 {p : Program} {l : Launch} {e : Env} {s : State} {m : MethodId} {args : Array Value} {below : List Frame} {meth : Method} {c : Code} {D : va_G} {dA : Nat → ClassId} {A : Nat → Prop} (C : Cx p s m args meth c D dA RX7 cX7_imports 5 (some .boolean)) {w : Fw} {res : Int32}   : ∀ (n : Nat) {H : Heap} {locs : List Loc} {ls : Array Slot} {a0 : Nat} {x1 : Int32} {x2 : Int32} {x3 : Int32} {x4 : Int32}, Rp D dA A w H → va_S A s.heap H locs → lv_has ls 5 [(0, .ref a0), (1, .int x1), (2, .int x2), (3, .int x3), (4, .int x4)] → fX7_imports_L5 w n a0 x1 x2 x3 x4 = some res → W p l e (rz 1 22) s m args below meth c H locs 0 0 (MQ below (QzI D dA A res w) args s 0 0 A) (F0 m 5 ls []) := by
  obtain ⟨hx, hb, hr, hml, hown, hts, hK, hlocks⟩ := id C
  intro n
  induction n with
  | zero =>
    intro H locs ls a0 x1 x2 x3 x4 hR hS hl h
    rw [fX7_imports_L5.eq_1] at h
    cases h
  | succ n ih =>
    intro H locs ls a0 x1 x2 x3 x4 hR hS hl h
    rw [fX7_imports_L5.eq_2] at h
    refine lv_iload hx hb dX7_imports_5 (lv_at hl 4 rfl) ?_
    refine lv_aload_n hx hb dX7_imports_7 rfl (lv_at hl 0 rfl) ?_
    obtain ⟨r1, e, h⟩ := bd h
    refine fx_gR hx hb hts hown hK hR fl_X7_7 e dX7_imports_8 ?_
    refine lv_iload_n hx hb dX7_imports_11 rfl (lv_at hl 1 rfl) ?_
    obtain ⟨v2, e, h⟩ := bd h
    refine fx_lI hx hb hK hR e dX7_imports_12 ?_
    refine lv_icmp_ge (tgt := 57) hx hb dX7_imports_13 (by decide) (fun c => ?_) (fun c => ?_)
    · have h := it c h
      refine lv_iload_n hx hb dX7_imports_57 rfl (lv_at hl 3 rfl) ?_
      exact fx_zret hx hb hr hlocks h rfl hR hS dX7_imports_58
    · have h := ie c h
      refine lv_iload_n hx hb dX7_imports_16 rfl (lv_at hl 3 rfl) ?_
      refine lv_if_ne (tgt := 45) hx hb dX7_imports_17 (by decide) (fun c => ?_) (fun c => ?_)
      · have h := ie c h
        exact qX7_imports_b45 C (K5 := fX7_imports_L5 w n) (hK5 := @ih) hR hS (lv_sub hl [0, 1, 2, 4] rfl) h
      · have h := it c h
        refine lv_aload_n hx hb dX7_imports_20 rfl (lv_at hl 0 rfl) ?_
        refine lv_iload_n hx hb dX7_imports_21 rfl (lv_at hl 1 rfl) ?_
        refine lv_iload hx hb dX7_imports_22 (lv_at hl 4 rfl) ?_
        obtain ⟨_, eO, h⟩ := bd h
        obtain ⟨v3, e, h⟩ := bd h
        refine fx_vI (As := [.int x1, .int x4]) (rest := []) hx hb hml hts hown hK hR hS eO (mX7_kind l D dA A e) my_X7_kind mv_X7_kind rfl ml_X7_84 rfl hl.1 rfl (Nat.le_of_ble_eq_true rfl) dX7_imports_24 ⟨Nat.le_of_ble_eq_true rfl, Nat.le_of_ble_eq_true rfl⟩ ⟨Nat.le_refl _, Nat.le_refl _⟩ (fun H locs hR hS => ?_)
        refine lv_iconst (v := 5) hx hb dX7_imports_27 (by decide) ?_
        refine lv_icmp_ne (tgt := 49) hx hb dX7_imports_28 (by decide) (fun c => ?_) (fun c => ?_)
        · have h := ie c h
          exact qX7_imports_b49 C (K5 := fX7_imports_L5 w n) (hK5 := @ih) hR hS (lv_sub hl [0, 1, 2, 4] rfl) h
        · have h := it c h
          refine lv_aload_n hx hb dX7_imports_31 rfl (lv_at hl 0 rfl) ?_
          refine lv_iload_n hx hb dX7_imports_32 rfl (lv_at hl 1 rfl) ?_
          refine lv_iload hx hb dX7_imports_33 (lv_at hl 4 rfl) ?_
          obtain ⟨_, eO, h⟩ := bd h
          obtain ⟨v4, e, h⟩ := bd h
          refine fx_vI (As := [.int x1, .int x4]) (rest := []) hx hb hml hts hown hK hR hS eO (mX7_number l D dA A e) my_X7_number mv_X7_number rfl ml_X7_88 rfl hl.1 rfl (Nat.le_of_ble_eq_true rfl) dX7_imports_35 ⟨Nat.le_of_ble_eq_true rfl, Nat.le_of_ble_eq_true rfl⟩ ⟨Nat.le_refl _, Nat.le_refl _⟩ (fun H locs hR hS => ?_)
          refine lv_bipush (v := 6) hx hb dX7_imports_38 (by decide) ?_
          refine lv_irem hx hb dX7_imports_40 (by decide) ?_
          refine lv_iload_n hx hb dX7_imports_41 rfl (lv_at hl 2 rfl) ?_
          refine lv_icmp_ne (tgt := 49) hx hb dX7_imports_42 (by decide) (fun c => ?_) (fun c => ?_)
          · have h := ie c h
            exact qX7_imports_b49 C (K5 := fX7_imports_L5 w n) (hK5 := @ih) hR hS (lv_sub hl [0, 1, 2, 4] rfl) h
          · have h := it c h
            exact qX7_imports_b45 C (K5 := fX7_imports_L5 w n) (hK5 := @ih) hR hS (lv_sub hl [0, 1, 2, 4] rfl) h
def fX7_imports (w : Fw) (a0 : Nat) (x1 : Int32) (x2 : Int32) : Option (Int32) := (fX7_imports_L5 w 1000 a0 x1 x2 0 0)
set_option maxRecDepth 100000 in
set_option maxHeartbeats 4000000 in
theorem mX7_imports (l : Launch) (D : va_G) (dA : Nat → ClassId) (A : Nat → Prop) {w : Fw} {a0 : Nat} {x1 : Int32} {x2 : Int32} {res : Int32} (h : fX7_imports w a0 x1 x2 = some res) : Met l yX7_imports (wz yX7_imports cX7_imports 5 (some .boolean)) (rz 1 22) (Pz D dA A w [.ref a0, .int x1, .int x2]) (QzI D dA A res w) 0 0 A := by
  refine Met.ofW (cc := cX7_imports) (maxL := 5) (ret := (some .boolean)) (by decide) rfl ?_
  intro p e s m args below meth c s₁ B hml hv
  obtain ⟨rfl, hR, hK⟩ := hv
  have hx := B.exec
  have hb := B.bytes
  have hr := B.returns
  have hts : ∀ w ∈ lw_g, w.before [.ref a0, .int x1, .int x2].toArray s = true := fun w hw => atoms_spec (ws := wz yX7_imports cX7_imports 5 (some .boolean)) B.pre w (List.mem_cons_of_mem _ hw)
  have hown : s.vm.findClass RX7 = some m.cls := findClass_of_methodNamed B.named
  have hlocks := B.notSynchronized
  have C : Cx p s m [.ref a0, .int x1, .int x2].toArray meth c D dA RX7 cX7_imports 5 (some .boolean) := ⟨hx, hb, hr, hml, hown, hts, hK, hlocks⟩
  have hS : va_S A s.heap s.heap [] := va_S.rf
  have hl := lv_entry ([.ref a0, .int x1, .int x2]) (n := 5) (Nat.le_of_ble_eq_true rfl)
  rw [lg_entry_eq]
  generalize (lg_sl ([.ref a0, .int x1, .int x2]) ++ List.replicate (5 - (lg_sl ([.ref a0, .int x1, .int x2])).length) Slot.unset).toArray = ls at hl ⊢
  have hl : lv_has ls 5 [(0, .ref a0), (1, .int x1), (2, .int x2)] := hl
  unfold fX7_imports at h
  show W p l e (rz 1 22) s m _ below meth c s.heap [] 0 0 _ _
  refine lv_iconst (v := 0) hx hb dX7_imports_0 (by decide) ?_
  refine lv_istore_n (lv' := [(3, .int 0), (0, .ref a0), (1, .int x1), (2, .int x2)]) hx hb dX7_imports_1 rfl hl (by decide) rfl (fun ls hl => ?_)
  refine lv_iconst (v := 0) hx hb dX7_imports_2 (by decide) ?_
  refine lv_istore (lv' := [(4, .int 0), (3, .int 0), (0, .ref a0), (1, .int x1), (2, .int x2)]) hx hb dX7_imports_3 hl (by decide) rfl (fun ls hl => ?_)
  exact qX7_imports_L5 C   1000 hR hS (lv_sub hl [2, 3, 4, 1, 0] rfl) h
