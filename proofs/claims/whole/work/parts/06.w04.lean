def fX6_feed (w : Fw) (a0 : Nat) (x1 : Int32) (x2 : Int32) (x3 : Int32) (x4 : Int32) (x5 : Int32) : Option (Int32 × Fw) := ((gR w a0 6 1).bind fun r1 => ((isO w r1 5).bind fun _ => ((fX5_size w r1).bind fun v2 => (if (v2 + 20) ≤ 40 then ((gR w a0 6 1).bind fun r3 => ((isO w r3 5).bind fun _ => ((fX5_append w r3 x1).bind fun w4 => ((gR w4 a0 6 1).bind fun r5 => ((isO w4 r5 5).bind fun _ => ((fX5_append w4 r5 x2).bind fun w6 => ((gR w6 a0 6 1).bind fun r7 => ((isO w6 r7 5).bind fun _ => ((fX5_append w6 r7 x3).bind fun w8 => ((gR w8 a0 6 1).bind fun r9 => ((isO w8 r9 5).bind fun _ => ((fX5_append w8 r9 x4).bind fun w10 => ((gR w10 a0 6 1).bind fun r11 => ((isO w10 r11 5).bind fun _ => ((fX5_append w10 r11 x5).bind fun w12 => ((gR w12 a0 6 1).bind fun r13 => ((isO w12 r13 5).bind fun _ => ((fX5_size w12 r13).bind fun v14 => some (v14, w12))))))))))))))))))) else some ((-1), w)))))
set_option maxRecDepth 100000 in
set_option maxHeartbeats 4000000 in
theorem mX6_feed (l : Launch) (D : va_G) (dA : Nat → ClassId) (A : Nat → Prop) {w : Fw} {a0 : Nat} {x1 : Int32} {x2 : Int32} {x3 : Int32} {x4 : Int32} {x5 : Int32} {res : Int32 × Fw} (h : fX6_feed w a0 x1 x2 x3 x4 x5 = some res) : Met l yX6_feed (wz yX6_feed cX6_feed 6 (some .int)) (rz 1 22) (Pz D dA A w [.ref a0, .int x1, .int x2, .int x3, .int x4, .int x5]) (QzI D dA A res.1 res.2) 0 0 A := by
  refine Met.ofW (cc := cX6_feed) (maxL := 6) (ret := (some .int)) (by decide) rfl ?_
  intro p e s m args below meth c s₁ B hml hv
  obtain ⟨rfl, hR, hK⟩ := hv
  have hx := B.exec
  have hb := B.bytes
  have hr := B.returns
  have hts : ∀ w ∈ lw_g, w.before [.ref a0, .int x1, .int x2, .int x3, .int x4, .int x5].toArray s = true := fun w hw => atoms_spec (ws := wz yX6_feed cX6_feed 6 (some .int)) B.pre w (List.mem_cons_of_mem _ hw)
  have hown : s.vm.findClass RX6 = some m.cls := findClass_of_methodNamed B.named
  have hlocks := B.notSynchronized
  have C : Cx p s m [.ref a0, .int x1, .int x2, .int x3, .int x4, .int x5].toArray meth c D dA RX6 cX6_feed 6 (some .int) := ⟨hx, hb, hr, hml, hown, hts, hK, hlocks⟩
  have hS : va_S A s.heap s.heap [] := va_S.rf
  have hl := lv_entry ([.ref a0, .int x1, .int x2, .int x3, .int x4, .int x5]) (n := 6) (Nat.le_of_ble_eq_true rfl)
  rw [lg_entry_eq]
  generalize (lg_sl ([.ref a0, .int x1, .int x2, .int x3, .int x4, .int x5]) ++ List.replicate (6 - (lg_sl ([.ref a0, .int x1, .int x2, .int x3, .int x4, .int x5])).length) Slot.unset).toArray = ls at hl ⊢
  have hl : lv_has ls 6 [(0, .ref a0), (1, .int x1), (2, .int x2), (3, .int x3), (4, .int x4), (5, .int x5)] := hl
  unfold fX6_feed at h
  show W p l e (rz 1 22) s m _ below meth c s.heap [] 0 0 _ _
  refine lv_aload_n hx hb dX6_feed_0 rfl (lv_at hl 0 rfl) ?_
  obtain ⟨r1, e, h⟩ := bd h
  refine fx_gR hx hb hts hown hK hR fl_X6_19 e dX6_feed_1 ?_
  obtain ⟨_, eO, h⟩ := bd h
  obtain ⟨v2, e, h⟩ := bd h
  refine fx_vI (As := []) (rest := []) hx hb hml hts hown hK hR hS eO (mX5_size l D dA A e) my_X5_size mv_X5_size rfl ml_X6_84 rfl hl.1 rfl (Nat.le_of_ble_eq_true rfl) dX6_feed_4 ⟨Nat.le_of_ble_eq_true rfl, Nat.le_of_ble_eq_true rfl⟩ ⟨Nat.le_refl _, Nat.le_refl _⟩ (fun H locs hR hS => ?_)
  refine lv_bipush (v := 20) hx hb dX6_feed_7 (by decide) ?_
  refine lv_iadd hx hb dX6_feed_9 ?_
  refine lv_bipush (v := 40) hx hb dX6_feed_10 (by decide) ?_
  refine lv_icmp_le (tgt := 17) hx hb dX6_feed_12 (by decide) (fun c => ?_) (fun c => ?_)
  · have h := it c h
    refine lv_aload_n hx hb dX6_feed_17 rfl (lv_at hl 0 rfl) ?_
    obtain ⟨r3, e, h⟩ := bd h
    refine fx_gR hx hb hts hown hK hR fl_X6_19 e dX6_feed_18 ?_
    refine lv_iload_n hx hb dX6_feed_21 rfl (lv_at hl 1 rfl) ?_
    obtain ⟨_, eO, h⟩ := bd h
    obtain ⟨w4, e, h⟩ := bd h
    refine fx_vV (As := [.int x1]) (rest := []) hx hb hml hts hown hK hR hS eO (mX5_append l D dA A e) my_X5_append mv_X5_append rfl ml_X6_88 rfl hl.1 rfl (Nat.le_of_ble_eq_true rfl) dX6_feed_22 ⟨Nat.le_of_ble_eq_true rfl, Nat.le_of_ble_eq_true rfl⟩ ⟨Nat.le_refl _, Nat.le_refl _⟩ (fun H locs hR hS => ?_)
    refine lv_aload_n hx hb dX6_feed_25 rfl (lv_at hl 0 rfl) ?_
    obtain ⟨r5, e, h⟩ := bd h
    refine fx_gR hx hb hts hown hK hR fl_X6_19 e dX6_feed_26 ?_
    refine lv_iload_n hx hb dX6_feed_29 rfl (lv_at hl 2 rfl) ?_
    obtain ⟨_, eO, h⟩ := bd h
    obtain ⟨w6, e, h⟩ := bd h
    refine fx_vV (As := [.int x2]) (rest := []) hx hb hml hts hown hK hR hS eO (mX5_append l D dA A e) my_X5_append mv_X5_append rfl ml_X6_88 rfl hl.1 rfl (Nat.le_of_ble_eq_true rfl) dX6_feed_30 ⟨Nat.le_of_ble_eq_true rfl, Nat.le_of_ble_eq_true rfl⟩ ⟨Nat.le_refl _, Nat.le_refl _⟩ (fun H locs hR hS => ?_)
    refine lv_aload_n hx hb dX6_feed_33 rfl (lv_at hl 0 rfl) ?_
    obtain ⟨r7, e, h⟩ := bd h
    refine fx_gR hx hb hts hown hK hR fl_X6_19 e dX6_feed_34 ?_
    refine lv_iload_n hx hb dX6_feed_37 rfl (lv_at hl 3 rfl) ?_
    obtain ⟨_, eO, h⟩ := bd h
    obtain ⟨w8, e, h⟩ := bd h
    refine fx_vV (As := [.int x3]) (rest := []) hx hb hml hts hown hK hR hS eO (mX5_append l D dA A e) my_X5_append mv_X5_append rfl ml_X6_88 rfl hl.1 rfl (Nat.le_of_ble_eq_true rfl) dX6_feed_38 ⟨Nat.le_of_ble_eq_true rfl, Nat.le_of_ble_eq_true rfl⟩ ⟨Nat.le_refl _, Nat.le_refl _⟩ (fun H locs hR hS => ?_)
    refine lv_aload_n hx hb dX6_feed_41 rfl (lv_at hl 0 rfl) ?_
    obtain ⟨r9, e, h⟩ := bd h
    refine fx_gR hx hb hts hown hK hR fl_X6_19 e dX6_feed_42 ?_
    refine lv_iload hx hb dX6_feed_45 (lv_at hl 4 rfl) ?_
    obtain ⟨_, eO, h⟩ := bd h
    obtain ⟨w10, e, h⟩ := bd h
    refine fx_vV (As := [.int x4]) (rest := []) hx hb hml hts hown hK hR hS eO (mX5_append l D dA A e) my_X5_append mv_X5_append rfl ml_X6_88 rfl hl.1 rfl (Nat.le_of_ble_eq_true rfl) dX6_feed_47 ⟨Nat.le_of_ble_eq_true rfl, Nat.le_of_ble_eq_true rfl⟩ ⟨Nat.le_refl _, Nat.le_refl _⟩ (fun H locs hR hS => ?_)
    refine lv_aload_n hx hb dX6_feed_50 rfl (lv_at hl 0 rfl) ?_
    obtain ⟨r11, e, h⟩ := bd h
    refine fx_gR hx hb hts hown hK hR fl_X6_19 e dX6_feed_51 ?_
    refine lv_iload hx hb dX6_feed_54 (lv_at hl 5 rfl) ?_
    obtain ⟨_, eO, h⟩ := bd h
    obtain ⟨w12, e, h⟩ := bd h
    refine fx_vV (As := [.int x5]) (rest := []) hx hb hml hts hown hK hR hS eO (mX5_append l D dA A e) my_X5_append mv_X5_append rfl ml_X6_88 rfl hl.1 rfl (Nat.le_of_ble_eq_true rfl) dX6_feed_56 ⟨Nat.le_of_ble_eq_true rfl, Nat.le_of_ble_eq_true rfl⟩ ⟨Nat.le_refl _, Nat.le_refl _⟩ (fun H locs hR hS => ?_)
    refine lv_aload_n hx hb dX6_feed_59 rfl (lv_at hl 0 rfl) ?_
    obtain ⟨r13, e, h⟩ := bd h
    refine fx_gR hx hb hts hown hK hR fl_X6_19 e dX6_feed_60 ?_
    obtain ⟨_, eO, h⟩ := bd h
    obtain ⟨v14, e, h⟩ := bd h
    refine fx_vI (As := []) (rest := []) hx hb hml hts hown hK hR hS eO (mX5_size l D dA A e) my_X5_size mv_X5_size rfl ml_X6_84 rfl hl.1 rfl (Nat.le_of_ble_eq_true rfl) dX6_feed_63 ⟨Nat.le_of_ble_eq_true rfl, Nat.le_of_ble_eq_true rfl⟩ ⟨Nat.le_refl _, Nat.le_refl _⟩ (fun H locs hR hS => ?_)
    exact fx_iret hx hb hr hlocks (pr1 h) (pr2 h) hR hS dX6_feed_66
  · have h := ie c h
    refine lv_iconst (v := (-1)) hx hb dX6_feed_15 (by decide) ?_
    exact fx_iret hx hb hr hlocks (pr1 h) (pr2 h) hR hS dX6_feed_16
def fX6_end_b15  (w : Fw)  : Option (Int32 × Fw) := (zb 0).bind fun z1 => some (z1, w)
set_option maxRecDepth 100000 in
set_option maxHeartbeats 4000000 in
theorem qX6_end_b15 {p : Program} {l : Launch} {e : Env} {s : State} {m : MethodId} {args : Array Value} {below : List Frame} {meth : Method} {c : Code} {D : va_G} {dA : Nat → ClassId} {A : Nat → Prop} (C : Cx p s m args meth c D dA RX6 cX6_end 2 (some .boolean)) {w : Fw} {res : Int32 × Fw}   {H : Heap} {locs : List Loc} {ls : Array Slot}  (hR : Rp D dA A w H) (hS : va_S A s.heap H locs) (hl : lv_has ls 2 []) (h : fX6_end_b15 w = some res) : W p l e (rz 1 21) s m args below meth c H locs 0 0 (MQ below (QzI D dA A res.1 res.2) args s 0 0 A) (F0 m 15 ls []) := by
  obtain ⟨hx, hb, hr, hml, hown, hts, hK, hlocks⟩ := id C
  unfold fX6_end_b15 at h
  refine lv_iconst (v := 0) hx hb dX6_end_15 (by decide) ?_
  obtain ⟨z1, e, h⟩ := bd h
  exact fx_zret hx hb hr hlocks (e.trans (congrArg some (pr1 h))) (pr2 h) hR hS dX6_end_16
def fX6_end (w : Fw) (a0 : Nat) (x1 : Int32) : Option (Int32 × Fw) := if x1 < 0 then (fX6_end_b15 w) else ((gR w a0 6 1).bind fun r2 => ((isO w r2 5).bind fun _ => ((fX5_size w r2).bind fun v3 => (if x1 ≤ v3 then ((gR w a0 6 1).bind fun r4 => ((isO w r4 5).bind fun _ => ((fX5_shorten w r4 x1).bind fun w5 => (zb 1).bind fun z6 => some (z6, w5)))) else (fX6_end_b15 w)))))
set_option maxRecDepth 100000 in
set_option maxHeartbeats 4000000 in
theorem mX6_end (l : Launch) (D : va_G) (dA : Nat → ClassId) (A : Nat → Prop) {w : Fw} {a0 : Nat} {x1 : Int32} {res : Int32 × Fw} (h : fX6_end w a0 x1 = some res) : Met l yX6_end (wz yX6_end cX6_end 2 (some .boolean)) (rz 1 21) (Pz D dA A w [.ref a0, .int x1]) (QzI D dA A res.1 res.2) 0 0 A := by
  refine Met.ofW (cc := cX6_end) (maxL := 2) (ret := (some .boolean)) (by decide) rfl ?_
  intro p e s m args below meth c s₁ B hml hv
  obtain ⟨rfl, hR, hK⟩ := hv
  have hx := B.exec
  have hb := B.bytes
  have hr := B.returns
  have hts : ∀ w ∈ lw_g, w.before [.ref a0, .int x1].toArray s = true := fun w hw => atoms_spec (ws := wz yX6_end cX6_end 2 (some .boolean)) B.pre w (List.mem_cons_of_mem _ hw)
  have hown : s.vm.findClass RX6 = some m.cls := findClass_of_methodNamed B.named
  have hlocks := B.notSynchronized
  have C : Cx p s m [.ref a0, .int x1].toArray meth c D dA RX6 cX6_end 2 (some .boolean) := ⟨hx, hb, hr, hml, hown, hts, hK, hlocks⟩
  have hS : va_S A s.heap s.heap [] := va_S.rf
  have hl := lv_entry ([.ref a0, .int x1]) (n := 2) (Nat.le_of_ble_eq_true rfl)
  rw [lg_entry_eq]
  generalize (lg_sl ([.ref a0, .int x1]) ++ List.replicate (2 - (lg_sl ([.ref a0, .int x1])).length) Slot.unset).toArray = ls at hl ⊢
  have hl : lv_has ls 2 [(0, .ref a0), (1, .int x1)] := hl
  unfold fX6_end at h
  show W p l e (rz 1 21) s m _ below meth c s.heap [] 0 0 _ _
  refine lv_iload_n hx hb dX6_end_0 rfl (lv_at hl 1 rfl) ?_
  refine lv_if_lt (tgt := 15) hx hb dX6_end_1 (by decide) (fun c => ?_) (fun c => ?_)
  · have h := it c h
    exact qX6_end_b15 C   hR hS (lv_sub hl [] rfl) h
  · have h := ie c h
    refine lv_iload_n hx hb dX6_end_4 rfl (lv_at hl 1 rfl) ?_
    refine lv_aload_n hx hb dX6_end_5 rfl (lv_at hl 0 rfl) ?_
    obtain ⟨r2, e, h⟩ := bd h
    refine fx_gR hx hb hts hown hK hR fl_X6_19 e dX6_end_6 ?_
    obtain ⟨_, eO, h⟩ := bd h
    obtain ⟨v3, e, h⟩ := bd h
    refine fx_vI (As := []) (rest := [.int x1]) hx hb hml hts hown hK hR hS eO (mX5_size l D dA A e) my_X5_size mv_X5_size rfl ml_X6_84 rfl hl.1 rfl (Nat.le_of_ble_eq_true rfl) dX6_end_9 ⟨Nat.le_of_ble_eq_true rfl, Nat.le_of_ble_eq_true rfl⟩ ⟨Nat.le_refl _, Nat.le_refl _⟩ (fun H locs hR hS => ?_)
    refine lv_icmp_le (tgt := 17) hx hb dX6_end_12 (by decide) (fun c => ?_) (fun c => ?_)
    · have h := it c h
      refine lv_aload_n hx hb dX6_end_17 rfl (lv_at hl 0 rfl) ?_
      obtain ⟨r4, e, h⟩ := bd h
      refine fx_gR hx hb hts hown hK hR fl_X6_19 e dX6_end_18 ?_
      refine lv_iload_n hx hb dX6_end_21 rfl (lv_at hl 1 rfl) ?_
      obtain ⟨_, eO, h⟩ := bd h
      obtain ⟨w5, e, h⟩ := bd h
      refine fx_vV (As := [.int x1]) (rest := []) hx hb hml hts hown hK hR hS eO (mX5_shorten l D dA A e) my_X5_shorten mv_X5_shorten rfl ml_X6_91 rfl hl.1 rfl (Nat.le_of_ble_eq_true rfl) dX6_end_22 ⟨Nat.le_of_ble_eq_true rfl, Nat.le_of_ble_eq_true rfl⟩ ⟨Nat.le_refl _, Nat.le_refl _⟩ (fun H locs hR hS => ?_)
      refine lv_iconst (v := 1) hx hb dX6_end_25 (by decide) ?_
      obtain ⟨z6, e, h⟩ := bd h
      exact fx_zret hx hb hr hlocks (e.trans (congrArg some (pr1 h))) (pr2 h) hR hS dX6_end_26
    · have h := ie c h
      exact qX6_end_b15 C   hR hS (lv_sub hl [] rfl) h
def fX6_load_b21  (w : Fw) (a0 : Nat) : Option (Int32 × Fw) := ((gR w a0 6 1).bind fun r1 => ((isO w r1 5).bind fun _ => ((fX5_shorten w r1 0).bind fun w2 => some ((-1), w2))))
set_option maxRecDepth 100000 in
set_option maxHeartbeats 4000000 in
theorem qX6_load_b21 {p : Program} {l : Launch} {e : Env} {s : State} {m : MethodId} {args : Array Value} {below : List Frame} {meth : Method} {c : Code} {D : va_G} {dA : Nat → ClassId} {A : Nat → Prop} (C : Cx p s m args meth c D dA RX6 cX6_load 5 (some .int)) {w : Fw} {res : Int32 × Fw}   {H : Heap} {locs : List Loc} {ls : Array Slot} {a0 : Nat} (hR : Rp D dA A w H) (hS : va_S A s.heap H locs) (hl : lv_has ls 5 [(0, .ref a0)]) (h : fX6_load_b21 w a0 = some res) : W p l e (rz 6 140) s m args below meth c H locs 0 0 (MQ below (QzI D dA A res.1 res.2) args s 0 0 A) (F0 m 21 ls []) := by
  obtain ⟨hx, hb, hr, hml, hown, hts, hK, hlocks⟩ := id C
  unfold fX6_load_b21 at h
  refine lv_aload_n hx hb dX6_load_21 rfl (lv_at hl 0 rfl) ?_
  obtain ⟨r1, e, h⟩ := bd h
  refine fx_gR hx hb hts hown hK hR fl_X6_19 e dX6_load_22 ?_
  refine lv_iconst (v := 0) hx hb dX6_load_25 (by decide) ?_
  obtain ⟨_, eO, h⟩ := bd h
  obtain ⟨w2, e, h⟩ := bd h
  refine fx_vV (As := [.int 0]) (rest := []) hx hb hml hts hown hK hR hS eO (mX5_shorten l D dA A e) my_X5_shorten mv_X5_shorten rfl ml_X6_91 rfl hl.1 rfl (Nat.le_of_ble_eq_true rfl) dX6_load_26 ⟨Nat.le_of_ble_eq_true rfl, Nat.le_of_ble_eq_true rfl⟩ ⟨Nat.le_refl _, Nat.le_refl _⟩ (fun H locs hR hS => ?_)
  refine lv_iconst (v := (-1)) hx hb dX6_load_29 (by decide) ?_
  exact fx_iret hx hb hr hlocks (pr1 h) (pr2 h) hR hS dX6_load_30
def fX6_load (w : Fw) (a0 : Nat) (x1 : Int32) : Option (Int32 × Fw) := ((gR w a0 6 1).bind fun r3 => ((isO w r3 5).bind fun _ => ((fX5_size w r3).bind fun v4 => ((fX6_isFile w x1).bind fun v5 => (if v5 = 0 then (fX6_load_b21 w a0) else if v4 ≤ 32 then ((gR w a0 6 0).bind fun r6 => ((lR w 0 r6 x1).bind fun r7 => ((isO w r7 4).bind fun _ => ((fX4_numbersOf w r7 1).bind fun v8 => ((gR w a0 6 2).bind fun r9 => ((gR w a0 6 0).bind fun r10 => ((lR w 0 r10 x1).bind fun r11 => ((gR w a0 6 1).bind fun r12 => ((gI w a0 6 7).bind fun v13 => ((isO w r9 3).bind fun _ => ((fX3_match w r9 r11 r12 v13).bind fun t14 => ((gI t14.2 a0 6 7).bind fun v15 => ((pF t14.2 a0 6 7 (.int (v15 + (v4 - t14.1)))).bind fun w16 => ((gR w16 a0 6 0).bind fun r17 => ((lR w16 0 r17 x1).bind fun r18 => ((gR w16 a0 6 1).bind fun r19 => ((gR w16 a0 6 2).bind fun r20 => ((isO w16 r18 4).bind fun _ => ((fX4_retell w16 r18 r19 r20).bind fun w21 => ((gR w21 a0 6 1).bind fun r22 => ((isO w21 r22 5).bind fun _ => ((fX5_shorten w21 r22 0).bind fun w23 => ((isO w23 a0 6).bind fun _ => ((fX6_settle w23 a0 x1 v8).bind fun w24 => some (t14.1, w24))))))))))))))))))))))))) else (fX6_load_b21 w a0))))))
set_option maxRecDepth 100000 in
set_option maxHeartbeats 4000000 in
theorem mX6_load (l : Launch) (D : va_G) (dA : Nat → ClassId) (A : Nat → Prop) {w : Fw} {a0 : Nat} {x1 : Int32} {res : Int32 × Fw} (h : fX6_load w a0 x1 = some res) : Met l yX6_load (wz yX6_load cX6_load 5 (some .int)) (rz 6 140) (Pz D dA A w [.ref a0, .int x1]) (QzI D dA A res.1 res.2) 0 0 A := by
  refine Met.ofW (cc := cX6_load) (maxL := 5) (ret := (some .int)) (by decide) rfl ?_
  intro p e s m args below meth c s₁ B hml hv
  obtain ⟨rfl, hR, hK⟩ := hv
  have hx := B.exec
  have hb := B.bytes
  have hr := B.returns
  have hts : ∀ w ∈ lw_g, w.before [.ref a0, .int x1].toArray s = true := fun w hw => atoms_spec (ws := wz yX6_load cX6_load 5 (some .int)) B.pre w (List.mem_cons_of_mem _ hw)
  have hown : s.vm.findClass RX6 = some m.cls := findClass_of_methodNamed B.named
  have hlocks := B.notSynchronized
  have C : Cx p s m [.ref a0, .int x1].toArray meth c D dA RX6 cX6_load 5 (some .int) := ⟨hx, hb, hr, hml, hown, hts, hK, hlocks⟩
  have hS : va_S A s.heap s.heap [] := va_S.rf
  have hl := lv_entry ([.ref a0, .int x1]) (n := 5) (Nat.le_of_ble_eq_true rfl)
  rw [lg_entry_eq]
  generalize (lg_sl ([.ref a0, .int x1]) ++ List.replicate (5 - (lg_sl ([.ref a0, .int x1])).length) Slot.unset).toArray = ls at hl ⊢
  have hl : lv_has ls 5 [(0, .ref a0), (1, .int x1)] := hl
  unfold fX6_load at h
  show W p l e (rz 6 140) s m _ below meth c s.heap [] 0 0 _ _
  refine lv_aload_n hx hb dX6_load_0 rfl (lv_at hl 0 rfl) ?_
  obtain ⟨r3, e, h⟩ := bd h
  refine fx_gR hx hb hts hown hK hR fl_X6_19 e dX6_load_1 ?_
  obtain ⟨_, eO, h⟩ := bd h
  obtain ⟨v4, e, h⟩ := bd h
  refine fx_vI (As := []) (rest := []) hx hb hml hts hown hK hR hS eO (mX5_size l D dA A e) my_X5_size mv_X5_size rfl ml_X6_84 rfl hl.1 rfl (Nat.le_of_ble_eq_true rfl) dX6_load_4 ⟨Nat.le_of_ble_eq_true rfl, Nat.le_of_ble_eq_true rfl⟩ ⟨Nat.le_refl _, Nat.le_refl _⟩ (fun H locs hR hS => ?_)
  refine lv_istore_n (lv' := [(2, .int v4), (0, .ref a0), (1, .int x1)]) hx hb dX6_load_7 rfl hl (by decide) rfl (fun ls hl => ?_)
  refine lv_iload_n hx hb dX6_load_8 rfl (lv_at hl 2 rfl) ?_
  obtain ⟨v5, e, h⟩ := bd h
  refine fx_sI' (As := [.int x1]) (rest := []) hx hb hml hts hown hK hR hS (mX6_isFile l D dA A e) my_X6_isFile ms_X6_isFile ml_X6_44 rfl hl.1 rfl (Nat.le_of_ble_eq_true rfl) dX6_load_9 ⟨Nat.le_of_ble_eq_true rfl, Nat.le_of_ble_eq_true rfl⟩ ⟨Nat.le_refl _, Nat.le_refl _⟩ (fun H locs hR hS => ?_)
  refine lv_if_eq (tgt := 21) hx hb dX6_load_12 (by decide) (fun c => ?_) (fun c => ?_)
  · have h := it c h
    exact qX6_load_b21 C   hR hS (lv_sub hl [1] rfl) h
  · have h := ie c h
    refine lv_iload_n hx hb dX6_load_15 rfl (lv_at hl 0 rfl) ?_
    refine lv_bipush (v := 32) hx hb dX6_load_16 (by decide) ?_
    refine lv_icmp_le (tgt := 31) hx hb dX6_load_18 (by decide) (fun c => ?_) (fun c => ?_)
    · have h := it c h
      refine lv_aload_n hx hb dX6_load_31 rfl (lv_at hl 1 rfl) ?_
      obtain ⟨r6, e, h⟩ := bd h
      refine fx_gR hx hb hts hown hK hR fl_X6_11 e dX6_load_32 ?_
      refine lv_iload_n hx hb dX6_load_35 rfl (lv_at hl 2 rfl) ?_
      obtain ⟨r7, e, h⟩ := bd h
      refine fx_lR hx hb hK hR (kd := 0) rfl rfl e dX6_load_36 ?_
      refine lv_iconst (v := 1) hx hb dX6_load_37 (by decide) ?_
      obtain ⟨_, eO, h⟩ := bd h
      obtain ⟨v8, e, h⟩ := bd h
      refine fx_vI (As := [.int 1]) (rest := []) hx hb hml hts hown hK hR hS eO (mX4_numbersOf l D dA A e) my_X4_numbersOf mv_X4_numbersOf rfl ml_X6_54 rfl hl.1 rfl (Nat.le_of_ble_eq_true rfl) dX6_load_38 ⟨Nat.le_of_ble_eq_true rfl, Nat.le_of_ble_eq_true rfl⟩ ⟨Nat.le_refl _, Nat.le_refl _⟩ (fun H locs hR hS => ?_)
      refine lv_istore_n (lv' := [(3, .int v8), (2, .int v4), (0, .ref a0), (1, .int x1)]) hx hb dX6_load_41 rfl hl (by decide) rfl (fun ls hl => ?_)
      refine lv_aload_n hx hb dX6_load_42 rfl (lv_at hl 2 rfl) ?_
      obtain ⟨r9, e, h⟩ := bd h
      refine fx_gR hx hb hts hown hK hR fl_X6_26 e dX6_load_43 ?_
      refine lv_aload_n hx hb dX6_load_46 rfl (lv_at hl 2 rfl) ?_
      obtain ⟨r10, e, h⟩ := bd h
      refine fx_gR hx hb hts hown hK hR fl_X6_11 e dX6_load_47 ?_
      refine lv_iload_n hx hb dX6_load_50 rfl (lv_at hl 3 rfl) ?_
      obtain ⟨r11, e, h⟩ := bd h
      refine fx_lR hx hb hK hR (kd := 0) rfl rfl e dX6_load_51 ?_
      refine lv_aload_n hx hb dX6_load_52 rfl (lv_at hl 2 rfl) ?_
      obtain ⟨r12, e, h⟩ := bd h
      refine fx_gR hx hb hts hown hK hR fl_X6_19 e dX6_load_53 ?_
      refine lv_aload_n hx hb dX6_load_56 rfl (lv_at hl 2 rfl) ?_
      obtain ⟨v13, e, h⟩ := bd h
      refine fx_gI hx hb hts hown hK hR fl_X6_58 e dX6_load_57 ?_
      obtain ⟨_, eO, h⟩ := bd h
      obtain ⟨t14, e, h⟩ := bd h
      refine fx_vI (As := [.ref r11, .ref r12, .int v13]) (rest := []) hx hb hml hts hown hK hR hS eO (mX3_match l D dA A e) my_X3_match mv_X3_match rfl ml_X6_94 rfl hl.1 rfl (Nat.le_of_ble_eq_true rfl) dX6_load_60 ⟨Nat.le_of_ble_eq_true rfl, Nat.le_of_ble_eq_true rfl⟩ ⟨Nat.le_refl _, Nat.le_refl _⟩ (fun H locs hR hS => ?_)
      refine lv_istore (lv' := [(4, .int t14.1), (3, .int v8), (2, .int v4), (0, .ref a0), (1, .int x1)]) hx hb dX6_load_63 hl (by decide) rfl (fun ls hl => ?_)
      refine lv_aload_n hx hb dX6_load_65 rfl (lv_at hl 3 rfl) ?_
      refine lv_dup hx hb dX6_load_66 rfl ?_
      obtain ⟨v15, e, h⟩ := bd h
      refine fx_gI hx hb hts hown hK hR fl_X6_58 e dX6_load_67 ?_
      refine lv_iload_n hx hb dX6_load_70 rfl (lv_at hl 2 rfl) ?_
      refine lv_iload hx hb dX6_load_71 (lv_at hl 0 rfl) ?_
      refine lv_isub hx hb dX6_load_73 ?_
      refine lv_iadd hx hb dX6_load_74 ?_
      obtain ⟨w16, e, h⟩ := bd h
      refine fx_p hx hb hts hown hK hR hS fp_X6_58 e rfl rfl dX6_load_75 (fun H locs hR hS => ?_)
      refine lv_aload_n hx hb dX6_load_78 rfl (lv_at hl 3 rfl) ?_
      obtain ⟨r17, e, h⟩ := bd h
      refine fx_gR hx hb hts hown hK hR fl_X6_11 e dX6_load_79 ?_
      refine lv_iload_n hx hb dX6_load_82 rfl (lv_at hl 4 rfl) ?_
      obtain ⟨r18, e, h⟩ := bd h
      refine fx_lR hx hb hK hR (kd := 0) rfl rfl e dX6_load_83 ?_
      refine lv_aload_n hx hb dX6_load_84 rfl (lv_at hl 3 rfl) ?_
      obtain ⟨r19, e, h⟩ := bd h
      refine fx_gR hx hb hts hown hK hR fl_X6_19 e dX6_load_85 ?_
      refine lv_aload_n hx hb dX6_load_88 rfl (lv_at hl 3 rfl) ?_
      obtain ⟨r20, e, h⟩ := bd h
      refine fx_gR hx hb hts hown hK hR fl_X6_26 e dX6_load_89 ?_
      obtain ⟨_, eO, h⟩ := bd h
      obtain ⟨w21, e, h⟩ := bd h
      refine fx_vV (As := [.ref r19, .ref r20]) (rest := []) hx hb hml hts hown hK hR hS eO (mX4_retell l D dA A e) my_X4_retell mv_X4_retell rfl ml_X6_98 rfl hl.1 rfl (Nat.le_of_ble_eq_true rfl) dX6_load_92 ⟨Nat.le_of_ble_eq_true rfl, Nat.le_of_ble_eq_true rfl⟩ ⟨Nat.le_refl _, Nat.le_refl _⟩ (fun H locs hR hS => ?_)
      refine lv_aload_n hx hb dX6_load_95 rfl (lv_at hl 3 rfl) ?_
      obtain ⟨r22, e, h⟩ := bd h
      refine fx_gR hx hb hts hown hK hR fl_X6_19 e dX6_load_96 ?_
      refine lv_iconst (v := 0) hx hb dX6_load_99 (by decide) ?_
      obtain ⟨_, eO, h⟩ := bd h
      obtain ⟨w23, e, h⟩ := bd h
      refine fx_vV (As := [.int 0]) (rest := []) hx hb hml hts hown hK hR hS eO (mX5_shorten l D dA A e) my_X5_shorten mv_X5_shorten rfl ml_X6_91 rfl hl.1 rfl (Nat.le_of_ble_eq_true rfl) dX6_load_100 ⟨Nat.le_of_ble_eq_true rfl, Nat.le_of_ble_eq_true rfl⟩ ⟨Nat.le_refl _, Nat.le_refl _⟩ (fun H locs hR hS => ?_)
      refine lv_aload_n hx hb dX6_load_103 rfl (lv_at hl 3 rfl) ?_
      refine lv_iload_n hx hb dX6_load_104 rfl (lv_at hl 4 rfl) ?_
      refine lv_iload_n hx hb dX6_load_105 rfl (lv_at hl 1 rfl) ?_
      obtain ⟨_, eO, h⟩ := bd h
      obtain ⟨w24, e, h⟩ := bd h
      refine fx_vV (As := [.int x1, .int v8]) (rest := []) hx hb hml hts hown hK hR hS eO (mX6_settle l D dA A e) my_X6_settle mv_X6_settle rfl ml_X6_66 rfl hl.1 rfl (Nat.le_of_ble_eq_true rfl) dX6_load_106 ⟨Nat.le_of_ble_eq_true rfl, Nat.le_of_ble_eq_true rfl⟩ ⟨Nat.le_refl _, Nat.le_refl _⟩ (fun H locs hR hS => ?_)
      refine lv_iload hx hb dX6_load_109 (lv_at hl 0 rfl) ?_
      exact fx_iret hx hb hr hlocks (pr1 h) (pr2 h) hR hS dX6_load_111
    · have h := ie c h
      exact qX6_load_b21 C   hR hS (lv_sub hl [1] rfl) h
def fX6_bad_b57 (K27 : Fw → Nat → Int32 → Int32 → Int32 → Option (Int32 × Fw)) (w : Fw) (a0 : Nat) (x2 : Int32) (x3 : Int32) (x4 : Int32) : Option (Int32 × Fw) := (K27 w a0 x2 x3 (x4 + 1))
set_option maxRecDepth 100000 in
set_option maxHeartbeats 4000000 in
theorem qX6_bad_b57 {p : Program} {l : Launch} {e : Env} {s : State} {m : MethodId} {args : Array Value} {below : List Frame} {meth : Method} {c : Code} {D : va_G} {dA : Nat → ClassId} {A : Nat → Prop} (C : Cx p s m args meth c D dA RX6 cX6_bad 5 (some .boolean)) {w : Fw} {res : Int32 × Fw} {K27 : Fw → Nat → Int32 → Int32 → Int32 → Option (Int32 × Fw)} (hK27 : ∀ {w : Fw} {H : Heap} {locs : List Loc} {ls : Array Slot} {a0 : Nat} {x2 : Int32} {x3 : Int32} {x4 : Int32}, Rp D dA A w H → va_S A s.heap H locs → lv_has ls 5 [(0, .ref a0), (2, .int x2), (3, .int x3), (4, .int x4)] → K27 w a0 x2 x3 x4 = some res → W p l e (rz 5 117) s m args below meth c H locs 0 0 (MQ below (QzI D dA A res.1 res.2) args s 0 0 A) (F0 m 27 ls [])) {H : Heap} {locs : List Loc} {ls : Array Slot} {a0 : Nat} {x2 : Int32} {x3 : Int32} {x4 : Int32} (hR : Rp D dA A w H) (hS : va_S A s.heap H locs) (hl : lv_has ls 5 [(0, .ref a0), (2, .int x2), (3, .int x3), (4, .int x4)]) (h : fX6_bad_b57 K27 w a0 x2 x3 x4 = some res) : W p l e (rz 5 117) s m args below meth c H locs 0 0 (MQ below (QzI D dA A res.1 res.2) args s 0 0 A) (F0 m 57 ls []) := by
  obtain ⟨hx, hb, hr, hml, hown, hts, hK, hlocks⟩ := id C
  unfold fX6_bad_b57 at h
  refine lv_iinc (v := (x4 + 1)) (lv' := [(4, .int (x4 + 1)), (0, .ref a0), (2, .int x2), (3, .int x3)]) hx hb dX6_bad_57 hl (k := 3) rfl rfl (by decide) rfl (fun ls hl => ?_)
  refine lv_goto (tgt := 27) hx hb dX6_bad_60 (by decide) ?_
  exact hK27 hR hS (lv_sub hl [1, 2, 3, 0] rfl) h
def fX6_bad_L27  : Nat → Fw → Nat → Int32 → Int32 → Int32 → Option (Int32 × Fw)
  | 0, _, _, _, _, _ => none
  | n + 1, w, a0, x2, x3, x4 => if 6 ≤ x4 then ((isO w a0 6).bind fun _ => ((fX6_work w a0 x3).bind fun w1 => (zb 1).bind fun z2 => some (z2, w1))) else ((gR w a0 6 0).bind fun r3 => ((lR w 0 r3 x4).bind fun r4 => ((isO w r4 4).bind fun _ => ((fX4_numbersOf w r4 0).bind fun v5 => (if (v5 &&& x2) = 0 then (fX6_bad_b57 (fX6_bad_L27  n) w a0 x2 x3 x4) else (fX6_bad_b57 (fX6_bad_L27  n) w a0 x2 (x3 ||| ((1 : Int32) <<< (x4 &&& 31))) x4))))))
set_option maxRecDepth 100000 in
set_option maxHeartbeats 4000000 in
theorem qX6_bad_L27 {p : Program} {l : Launch} {e : Env} {s : State} {m : MethodId} {args : Array Value} {below : List Frame} {meth : Method} {c : Code} {D : va_G} {dA : Nat → ClassId} {A : Nat → Prop} (C : Cx p s m args meth c D dA RX6 cX6_bad 5 (some .boolean)) {res : Int32 × Fw}   : ∀ (n : Nat) {w : Fw} {H : Heap} {locs : List Loc} {ls : Array Slot} {a0 : Nat} {x2 : Int32} {x3 : Int32} {x4 : Int32}, Rp D dA A w H → va_S A s.heap H locs → lv_has ls 5 [(0, .ref a0), (2, .int x2), (3, .int x3), (4, .int x4)] → fX6_bad_L27 n w a0 x2 x3 x4 = some res → W p l e (rz 5 117) s m args below meth c H locs 0 0 (MQ below (QzI D dA A res.1 res.2) args s 0 0 A) (F0 m 27 ls []) := by
  obtain ⟨hx, hb, hr, hml, hown, hts, hK, hlocks⟩ := id C
  intro n
  induction n with
  | zero =>
    intro w H locs ls a0 x2 x3 x4 hR hS hl h
    rw [fX6_bad_L27.eq_1] at h
    cases h
  | succ n ih =>
    intro w H locs ls a0 x2 x3 x4 hR hS hl h
    rw [fX6_bad_L27.eq_2] at h
    refine lv_iload hx hb dX6_bad_27 (lv_at hl 3 rfl) ?_
    refine lv_bipush (v := 6) hx hb dX6_bad_29 (by decide) ?_
    refine lv_icmp_ge (tgt := 63) hx hb dX6_bad_31 (by decide) (fun c => ?_) (fun c => ?_)
    · have h := it c h
      refine lv_aload_n hx hb dX6_bad_63 rfl (lv_at hl 0 rfl) ?_
      refine lv_iload_n hx hb dX6_bad_64 rfl (lv_at hl 2 rfl) ?_
      obtain ⟨_, eO, h⟩ := bd h
      obtain ⟨w1, e, h⟩ := bd h
      refine fx_vV (As := [.int x3]) (rest := []) hx hb hml hts hown hK hR hS eO (mX6_work l D dA A e) my_X6_work mv_X6_work rfl ml_X6_105 rfl hl.1 rfl (Nat.le_of_ble_eq_true rfl) dX6_bad_65 ⟨Nat.le_of_ble_eq_true rfl, Nat.le_of_ble_eq_true rfl⟩ ⟨Nat.le_refl _, Nat.le_refl _⟩ (fun H locs hR hS => ?_)
      refine lv_iconst (v := 1) hx hb dX6_bad_68 (by decide) ?_
      obtain ⟨z2, e, h⟩ := bd h
      exact fx_zret hx hb hr hlocks (e.trans (congrArg some (pr1 h))) (pr2 h) hR hS dX6_bad_69
    · have h := ie c h
      refine lv_aload_n hx hb dX6_bad_34 rfl (lv_at hl 0 rfl) ?_
      obtain ⟨r3, e, h⟩ := bd h
      refine fx_gR hx hb hts hown hK hR fl_X6_11 e dX6_bad_35 ?_
      refine lv_iload hx hb dX6_bad_38 (lv_at hl 3 rfl) ?_
      obtain ⟨r4, e, h⟩ := bd h
      refine fx_lR hx hb hK hR (kd := 0) rfl rfl e dX6_bad_40 ?_
      refine lv_iconst (v := 0) hx hb dX6_bad_41 (by decide) ?_
      obtain ⟨_, eO, h⟩ := bd h
      obtain ⟨v5, e, h⟩ := bd h
      refine fx_vI (As := [.int 0]) (rest := []) hx hb hml hts hown hK hR hS eO (mX4_numbersOf l D dA A e) my_X4_numbersOf mv_X4_numbersOf rfl ml_X6_54 rfl hl.1 rfl (Nat.le_of_ble_eq_true rfl) dX6_bad_42 ⟨Nat.le_of_ble_eq_true rfl, Nat.le_of_ble_eq_true rfl⟩ ⟨Nat.le_refl _, Nat.le_refl _⟩ (fun H locs hR hS => ?_)
      refine lv_iload_n hx hb dX6_bad_45 rfl (lv_at hl 1 rfl) ?_
      refine lv_iand hx hb dX6_bad_46 ?_
      refine lv_if_eq (tgt := 57) hx hb dX6_bad_47 (by decide) (fun c => ?_) (fun c => ?_)
      · have h := it c h
        exact qX6_bad_b57 C (K27 := fX6_bad_L27  n) (hK27 := @ih) hR hS (lv_sub hl [0, 1, 2, 3] rfl) h
      · have h := ie c h
        refine lv_iload_n hx hb dX6_bad_50 rfl (lv_at hl 2 rfl) ?_
        refine lv_iconst (v := 1) hx hb dX6_bad_51 (by decide) ?_
        refine lv_iload hx hb dX6_bad_52 (lv_at hl 3 rfl) ?_
        refine lv_ishl hx hb dX6_bad_54 ?_
        refine lv_ior hx hb dX6_bad_55 ?_
        refine lv_istore_n (lv' := [(3, .int (x3 ||| ((1 : Int32) <<< (x4 &&& 31)))), (0, .ref a0), (2, .int x2), (4, .int x4)]) hx hb dX6_bad_56 rfl hl (by decide) rfl (fun ls hl => ?_)
        exact qX6_bad_b57 C (K27 := fX6_bad_L27  n) (hK27 := @ih) hR hS (lv_sub hl [1, 2, 0, 3] rfl) h
def fX6_bad (w : Fw) (a0 : Nat) (x1 : Int32) : Option (Int32 × Fw) := ((gI w a0 6 8).bind fun v6 => (if x1 = v6 then (zb 0).bind fun z9 => some (z9, w) else ((gI w a0 6 8).bind fun v7 => ((pF w a0 6 8 (.int x1)).bind fun w8 => (fX6_bad_L27 1000 w8 a0 (x1 ^^^ v7) 0 0)))))
set_option maxRecDepth 100000 in
set_option maxHeartbeats 4000000 in
theorem mX6_bad (l : Launch) (D : va_G) (dA : Nat → ClassId) (A : Nat → Prop) {w : Fw} {a0 : Nat} {x1 : Int32} {res : Int32 × Fw} (h : fX6_bad w a0 x1 = some res) : Met l yX6_bad (wz yX6_bad cX6_bad 5 (some .boolean)) (rz 5 117) (Pz D dA A w [.ref a0, .int x1]) (QzI D dA A res.1 res.2) 0 0 A := by
  refine Met.ofW (cc := cX6_bad) (maxL := 5) (ret := (some .boolean)) (by decide) rfl ?_
  intro p e s m args below meth c s₁ B hml hv
  obtain ⟨rfl, hR, hK⟩ := hv
  have hx := B.exec
  have hb := B.bytes
  have hr := B.returns
  have hts : ∀ w ∈ lw_g, w.before [.ref a0, .int x1].toArray s = true := fun w hw => atoms_spec (ws := wz yX6_bad cX6_bad 5 (some .boolean)) B.pre w (List.mem_cons_of_mem _ hw)
  have hown : s.vm.findClass RX6 = some m.cls := findClass_of_methodNamed B.named
  have hlocks := B.notSynchronized
  have C : Cx p s m [.ref a0, .int x1].toArray meth c D dA RX6 cX6_bad 5 (some .boolean) := ⟨hx, hb, hr, hml, hown, hts, hK, hlocks⟩
  have hS : va_S A s.heap s.heap [] := va_S.rf
  have hl := lv_entry ([.ref a0, .int x1]) (n := 5) (Nat.le_of_ble_eq_true rfl)
  rw [lg_entry_eq]
  generalize (lg_sl ([.ref a0, .int x1]) ++ List.replicate (5 - (lg_sl ([.ref a0, .int x1])).length) Slot.unset).toArray = ls at hl ⊢
  have hl : lv_has ls 5 [(0, .ref a0), (1, .int x1)] := hl
  unfold fX6_bad at h
  show W p l e (rz 5 117) s m _ below meth c s.heap [] 0 0 _ _
  refine lv_iload_n hx hb dX6_bad_0 rfl (lv_at hl 1 rfl) ?_
  refine lv_aload_n hx hb dX6_bad_1 rfl (lv_at hl 0 rfl) ?_
  obtain ⟨v6, e, h⟩ := bd h
  refine fx_gI hx hb hts hown hK hR fl_X6_102 e dX6_bad_2 ?_
  refine lv_icmp_ne (tgt := 10) hx hb dX6_bad_5 (by decide) (fun c => ?_) (fun c => ?_)
  · have h := ie c h
    refine lv_iload_n hx hb dX6_bad_10 rfl (lv_at hl 1 rfl) ?_
    refine lv_aload_n hx hb dX6_bad_11 rfl (lv_at hl 0 rfl) ?_
    obtain ⟨v7, e, h⟩ := bd h
    refine fx_gI hx hb hts hown hK hR fl_X6_102 e dX6_bad_12 ?_
    refine lv_ixor hx hb dX6_bad_15 ?_
    refine lv_istore_n (lv' := [(2, .int (x1 ^^^ v7)), (0, .ref a0), (1, .int x1)]) hx hb dX6_bad_16 rfl hl (by decide) rfl (fun ls hl => ?_)
    refine lv_aload_n hx hb dX6_bad_17 rfl (lv_at hl 1 rfl) ?_
    refine lv_iload_n hx hb dX6_bad_18 rfl (lv_at hl 2 rfl) ?_
    obtain ⟨w8, e, h⟩ := bd h
    refine fx_p hx hb hts hown hK hR hS fp_X6_102 e rfl rfl dX6_bad_19 (fun H locs hR hS => ?_)
    refine lv_iconst (v := 0) hx hb dX6_bad_22 (by decide) ?_
    refine lv_istore_n (lv' := [(3, .int 0), (2, .int (x1 ^^^ v7)), (0, .ref a0), (1, .int x1)]) hx hb dX6_bad_23 rfl hl (by decide) rfl (fun ls hl => ?_)
    refine lv_iconst (v := 0) hx hb dX6_bad_24 (by decide) ?_
    refine lv_istore (lv' := [(4, .int 0), (3, .int 0), (2, .int (x1 ^^^ v7)), (0, .ref a0), (1, .int x1)]) hx hb dX6_bad_25 hl (by decide) rfl (fun ls hl => ?_)
    exact qX6_bad_L27 C   1000 hR hS (lv_sub hl [3, 2, 1, 0] rfl) h
  · have h := it c h
    refine lv_iconst (v := 0) hx hb dX6_bad_8 (by decide) ?_
    obtain ⟨z9, e, h⟩ := bd h
    exact fx_zret hx hb hr hlocks (e.trans (congrArg some (pr1 h))) (pr2 h) hR hS dX6_bad_9
def fX6_day (w : Fw) (a0 : Nat) : Option (Int32 × Fw) := ((gI w a0 6 6).bind fun v1 => (if v1 < 10000 then ((gI w a0 6 6).bind fun v2 => ((pF w a0 6 6 (.int (v2 + 1))).bind fun w3 => ((gI w3 a0 6 6).bind fun v4 => some (v4, w3)))) else some ((-1), w)))
set_option maxRecDepth 100000 in
set_option maxHeartbeats 4000000 in
theorem mX6_day (l : Launch) (D : va_G) (dA : Nat → ClassId) (A : Nat → Prop) {w : Fw} {a0 : Nat} {res : Int32 × Fw} (h : fX6_day w a0 = some res) : Met l yX6_day (wz yX6_day cX6_day 1 (some .int)) (rz 0 0) (Pz D dA A w [.ref a0]) (QzI D dA A res.1 res.2) 0 0 A := by
  refine Met.ofW (cc := cX6_day) (maxL := 1) (ret := (some .int)) (by decide) rfl ?_
  intro p e s m args below meth c s₁ B hml hv
  obtain ⟨rfl, hR, hK⟩ := hv
  have hx := B.exec
  have hb := B.bytes
  have hr := B.returns
  have hts : ∀ w ∈ lw_g, w.before [.ref a0].toArray s = true := fun w hw => atoms_spec (ws := wz yX6_day cX6_day 1 (some .int)) B.pre w (List.mem_cons_of_mem _ hw)
  have hown : s.vm.findClass RX6 = some m.cls := findClass_of_methodNamed B.named
  have hlocks := B.notSynchronized
  have C : Cx p s m [.ref a0].toArray meth c D dA RX6 cX6_day 1 (some .int) := ⟨hx, hb, hr, hml, hown, hts, hK, hlocks⟩
  have hS : va_S A s.heap s.heap [] := va_S.rf
  have hl := lv_entry ([.ref a0]) (n := 1) (Nat.le_of_ble_eq_true rfl)
  rw [lg_entry_eq]
  generalize (lg_sl ([.ref a0]) ++ List.replicate (1 - (lg_sl ([.ref a0])).length) Slot.unset).toArray = ls at hl ⊢
  have hl : lv_has ls 1 [(0, .ref a0)] := hl
  unfold fX6_day at h
  show W p l e (rz 0 0) s m _ below meth c s.heap [] 0 0 _ _
  refine lv_aload_n hx hb dX6_day_0 rfl (lv_at hl 0 rfl) ?_
  obtain ⟨v1, e, h⟩ := bd h
  refine fx_gI hx hb hts hown hK hR fl_X6_108 e dX6_day_1 ?_
  refine lv_sipush (v := 10000) hx hb dX6_day_4 (by decide) ?_
  refine lv_icmp_lt (tgt := 12) hx hb dX6_day_7 (by decide) (fun c => ?_) (fun c => ?_)
  · have h := it c h
    refine lv_aload_n hx hb dX6_day_12 rfl (lv_at hl 0 rfl) ?_
    refine lv_dup hx hb dX6_day_13 rfl ?_
    obtain ⟨v2, e, h⟩ := bd h
    refine fx_gI hx hb hts hown hK hR fl_X6_108 e dX6_day_14 ?_
    refine lv_iconst (v := 1) hx hb dX6_day_17 (by decide) ?_
    refine lv_iadd hx hb dX6_day_18 ?_
    obtain ⟨w3, e, h⟩ := bd h
    refine fx_p hx hb hts hown hK hR hS fp_X6_108 e rfl rfl dX6_day_19 (fun H locs hR hS => ?_)
    refine lv_aload_n hx hb dX6_day_22 rfl (lv_at hl 0 rfl) ?_
    obtain ⟨v4, e, h⟩ := bd h
    refine fx_gI hx hb hts hown hK hR fl_X6_108 e dX6_day_23 ?_
    exact fx_iret hx hb hr hlocks (pr1 h) (pr2 h) hR hS dX6_day_26
  · have h := ie c h
    refine lv_iconst (v := (-1)) hx hb dX6_day_10 (by decide) ?_
    exact fx_iret hx hb hr hlocks (pr1 h) (pr2 h) hR hS dX6_day_11
def fX6_findingsAhead_b36 (w : Fw)  (x2 : Int32) : Option (Int32) := some x2
set_option maxRecDepth 100000 in
set_option maxHeartbeats 4000000 in
theorem qX6_findingsAhead_b36 {p : Program} {l : Launch} {e : Env} {s : State} {m : MethodId} {args : Array Value} {below : List Frame} {meth : Method} {c : Code} {D : va_G} {dA : Nat → ClassId} {A : Nat → Prop} (C : Cx p s m args meth c D dA RX6 cX6_findingsAhead 4 (some .int)) {w : Fw} {res : Int32}   {H : Heap} {locs : List Loc} {ls : Array Slot} {x2 : Int32} (hR : Rp D dA A w H) (hS : va_S A s.heap H locs) (hl : lv_has ls 4 [(2, .int x2)]) (h : fX6_findingsAhead_b36 w x2 = some res) : W p l e (rz 1 20) s m args below meth c H locs 0 0 (MQ below (QzI D dA A res w) args s 0 0 A) (F0 m 36 ls []) := by
  obtain ⟨hx, hb, hr, hml, hown, hts, hK, hlocks⟩ := id C
  unfold fX6_findingsAhead_b36 at h
  refine lv_iload_n hx hb dX6_findingsAhead_36 rfl (lv_at hl 0 rfl) ?_
  exact fx_iret hx hb hr hlocks (Option.some.inj h) rfl hR hS dX6_findingsAhead_37
def fX6_findingsAhead_L4 (w : Fw)  : Nat → Nat → Int32 → Int32 → Int32 → Option (Int32)
  | 0, _, _, _, _ => none
  | n + 1, a0, x1, x2, x3 => if x1 ≤ x3 then (fX6_findingsAhead_b36 w x2) else if 6 ≤ x3 then (fX6_findingsAhead_b36 w x2) else ((gR w a0 6 0).bind fun r1 => ((lR w 0 r1 x3).bind fun r2 => ((isO w r2 4).bind fun _ => ((fX4_findings w r2).bind fun r3 => ((isO w r3 2).bind fun _ => ((fX2_size w r3).bind fun v4 => (fX6_findingsAhead_L4 w n a0 x1 (x2 + v4) (x3 + 1))))))))
set_option maxRecDepth 100000 in
set_option maxHeartbeats 4000000 in
theorem qX6_findingsAhead_L4 {p : Program} {l : Launch} {e : Env} {s : State} {m : MethodId} {args : Array Value} {below : List Frame} {meth : Method} {c : Code} {D : va_G} {dA : Nat → ClassId} {A : Nat → Prop} (C : Cx p s m args meth c D dA RX6 cX6_findingsAhead 4 (some .int)) {w : Fw} {res : Int32}   : ∀ (n : Nat) {H : Heap} {locs : List Loc} {ls : Array Slot} {a0 : Nat} {x1 : Int32} {x2 : Int32} {x3 : Int32}, Rp D dA A w H → va_S A s.heap H locs → lv_has ls 4 [(0, .ref a0), (1, .int x1), (2, .int x2), (3, .int x3)] → fX6_findingsAhead_L4 w n a0 x1 x2 x3 = some res → W p l e (rz 1 20) s m args below meth c H locs 0 0 (MQ below (QzI D dA A res w) args s 0 0 A) (F0 m 4 ls []) := by
  obtain ⟨hx, hb, hr, hml, hown, hts, hK, hlocks⟩ := id C
  intro n
  induction n with
  | zero =>
    intro H locs ls a0 x1 x2 x3 hR hS hl h
    rw [fX6_findingsAhead_L4.eq_1] at h
    cases h
  | succ n ih =>
    intro H locs ls a0 x1 x2 x3 hR hS hl h
    rw [fX6_findingsAhead_L4.eq_2] at h
    refine lv_iload_n hx hb dX6_findingsAhead_4 rfl (lv_at hl 3 rfl) ?_
    refine lv_iload_n hx hb dX6_findingsAhead_5 rfl (lv_at hl 1 rfl) ?_
    refine lv_icmp_ge (tgt := 36) hx hb dX6_findingsAhead_6 (by decide) (fun c => ?_) (fun c => ?_)
    · have h := it c h
      exact qX6_findingsAhead_b36 C   hR hS (lv_sub hl [2] rfl) h
    · have h := ie c h
      refine lv_iload_n hx hb dX6_findingsAhead_9 rfl (lv_at hl 3 rfl) ?_
      refine lv_bipush (v := 6) hx hb dX6_findingsAhead_10 (by decide) ?_
      refine lv_icmp_ge (tgt := 36) hx hb dX6_findingsAhead_12 (by decide) (fun c => ?_) (fun c => ?_)
      · have h := it c h
        exact qX6_findingsAhead_b36 C   hR hS (lv_sub hl [2] rfl) h
      · have h := ie c h
        refine lv_iload_n hx hb dX6_findingsAhead_15 rfl (lv_at hl 2 rfl) ?_
        refine lv_aload_n hx hb dX6_findingsAhead_16 rfl (lv_at hl 0 rfl) ?_
        obtain ⟨r1, e, h⟩ := bd h
        refine fx_gR hx hb hts hown hK hR fl_X6_11 e dX6_findingsAhead_17 ?_
        refine lv_iload_n hx hb dX6_findingsAhead_20 rfl (lv_at hl 3 rfl) ?_
        obtain ⟨r2, e, h⟩ := bd h
        refine fx_lR hx hb hK hR (kd := 0) rfl rfl e dX6_findingsAhead_21 ?_
        obtain ⟨_, eO, h⟩ := bd h
        obtain ⟨r3, e, h⟩ := bd h
        refine fx_vR (As := []) (rest := [.int x2]) hx hb hml hts hown hK hR hS eO (mX4_findings l D dA A e) my_X4_findings mv_X4_findings rfl ml_X6_133 rfl hl.1 rfl (Nat.le_of_ble_eq_true rfl) dX6_findingsAhead_22 ⟨Nat.le_of_ble_eq_true rfl, Nat.le_of_ble_eq_true rfl⟩ ⟨Nat.le_refl _, Nat.le_refl _⟩ (fun H locs hR hS => ?_)
        obtain ⟨_, eO, h⟩ := bd h
        obtain ⟨v4, e, h⟩ := bd h
        refine fx_vI (As := []) (rest := [.int x2]) hx hb hml hts hown hK hR hS eO (mX2_size l D dA A e) my_X2_size mv_X2_size rfl ml_X6_200 rfl hl.1 rfl (Nat.le_of_ble_eq_true rfl) dX6_findingsAhead_25 ⟨Nat.le_of_ble_eq_true rfl, Nat.le_of_ble_eq_true rfl⟩ ⟨Nat.le_refl _, Nat.le_refl _⟩ (fun H locs hR hS => ?_)
        refine lv_iadd hx hb dX6_findingsAhead_28 ?_
        refine lv_istore_n (lv' := [(2, .int (x2 + v4)), (0, .ref a0), (1, .int x1), (3, .int x3)]) hx hb dX6_findingsAhead_29 rfl hl (by decide) rfl (fun ls hl => ?_)
        refine lv_iinc (v := (x3 + 1)) (lv' := [(3, .int (x3 + 1)), (2, .int (x2 + v4)), (0, .ref a0), (1, .int x1)]) hx hb dX6_findingsAhead_30 hl (k := 3) rfl rfl (by decide) rfl (fun ls hl => ?_)
        refine lv_goto (tgt := 4) hx hb dX6_findingsAhead_33 (by decide) ?_
        exact ih hR hS (lv_sub hl [2, 3, 1, 0] rfl) h
def fX6_findingsAhead (w : Fw) (a0 : Nat) (x1 : Int32) : Option (Int32) := (fX6_findingsAhead_L4 w 1000 a0 x1 0 0)
set_option maxRecDepth 100000 in
set_option maxHeartbeats 4000000 in
theorem mX6_findingsAhead (l : Launch) (D : va_G) (dA : Nat → ClassId) (A : Nat → Prop) {w : Fw} {a0 : Nat} {x1 : Int32} {res : Int32} (h : fX6_findingsAhead w a0 x1 = some res) : Met l yX6_findingsAhead (wz yX6_findingsAhead cX6_findingsAhead 4 (some .int)) (rz 1 20) (Pz D dA A w [.ref a0, .int x1]) (QzI D dA A res w) 0 0 A := by
  refine Met.ofW (cc := cX6_findingsAhead) (maxL := 4) (ret := (some .int)) (by decide) rfl ?_
  intro p e s m args below meth c s₁ B hml hv
  obtain ⟨rfl, hR, hK⟩ := hv
  have hx := B.exec
  have hb := B.bytes
  have hr := B.returns
  have hts : ∀ w ∈ lw_g, w.before [.ref a0, .int x1].toArray s = true := fun w hw => atoms_spec (ws := wz yX6_findingsAhead cX6_findingsAhead 4 (some .int)) B.pre w (List.mem_cons_of_mem _ hw)
  have hown : s.vm.findClass RX6 = some m.cls := findClass_of_methodNamed B.named
  have hlocks := B.notSynchronized
  have C : Cx p s m [.ref a0, .int x1].toArray meth c D dA RX6 cX6_findingsAhead 4 (some .int) := ⟨hx, hb, hr, hml, hown, hts, hK, hlocks⟩
  have hS : va_S A s.heap s.heap [] := va_S.rf
  have hl := lv_entry ([.ref a0, .int x1]) (n := 4) (Nat.le_of_ble_eq_true rfl)
  rw [lg_entry_eq]
  generalize (lg_sl ([.ref a0, .int x1]) ++ List.replicate (4 - (lg_sl ([.ref a0, .int x1])).length) Slot.unset).toArray = ls at hl ⊢
  have hl : lv_has ls 4 [(0, .ref a0), (1, .int x1)] := hl
  unfold fX6_findingsAhead at h
  show W p l e (rz 1 20) s m _ below meth c s.heap [] 0 0 _ _
  refine lv_iconst (v := 0) hx hb dX6_findingsAhead_0 (by decide) ?_
  refine lv_istore_n (lv' := [(2, .int 0), (0, .ref a0), (1, .int x1)]) hx hb dX6_findingsAhead_1 rfl hl (by decide) rfl (fun ls hl => ?_)
  refine lv_iconst (v := 0) hx hb dX6_findingsAhead_2 (by decide) ?_
  refine lv_istore_n (lv' := [(3, .int 0), (2, .int 0), (0, .ref a0), (1, .int x1)]) hx hb dX6_findingsAhead_3 rfl hl (by decide) rfl (fun ls hl => ?_)
  exact qX6_findingsAhead_L4 C   1000 hR hS (lv_sub hl [2, 3, 1, 0] rfl) h
def fX6_countSilenced_L4 (w : Fw)  : Nat → Nat → Int32 → Int32 → Option (Int32)
  | 0, _, _, _ => none
  | n + 1, a0, x1, x2 => if 6 ≤ x2 then some x1 else ((gR w a0 6 0).bind fun r1 => ((lR w 0 r1 x2).bind fun r2 => ((isO w r2 4).bind fun _ => ((fX4_findings w r2).bind fun r3 => ((gI w a0 6 6).bind fun v4 => ((isO w r3 2).bind fun _ => ((fX2_countSilenced w r3 v4).bind fun v5 => (fX6_countSilenced_L4 w n a0 (x1 + v5) (x2 + 1)))))))))
set_option maxRecDepth 100000 in
set_option maxHeartbeats 4000000 in
theorem qX6_countSilenced_L4 {p : Program} {l : Launch} {e : Env} {s : State} {m : MethodId} {args : Array Value} {below : List Frame} {meth : Method} {c : Code} {D : va_G} {dA : Nat → ClassId} {A : Nat → Prop} (C : Cx p s m args meth c D dA RX6 cX6_countSilenced 3 (some .int)) {w : Fw} {res : Int32}   : ∀ (n : Nat) {H : Heap} {locs : List Loc} {ls : Array Slot} {a0 : Nat} {x1 : Int32} {x2 : Int32}, Rp D dA A w H → va_S A s.heap H locs → lv_has ls 3 [(0, .ref a0), (1, .int x1), (2, .int x2)] → fX6_countSilenced_L4 w n a0 x1 x2 = some res → W p l e (rz 2 45) s m args below meth c H locs 0 0 (MQ below (QzI D dA A res w) args s 0 0 A) (F0 m 4 ls []) := by
  obtain ⟨hx, hb, hr, hml, hown, hts, hK, hlocks⟩ := id C
  intro n
  induction n with
  | zero =>
    intro H locs ls a0 x1 x2 hR hS hl h
    rw [fX6_countSilenced_L4.eq_1] at h
    cases h
  | succ n ih =>
    intro H locs ls a0 x1 x2 hR hS hl h
    rw [fX6_countSilenced_L4.eq_2] at h
    refine lv_iload_n hx hb dX6_countSilenced_4 rfl (lv_at hl 2 rfl) ?_
    refine lv_bipush (v := 6) hx hb dX6_countSilenced_5 (by decide) ?_
    refine lv_icmp_ge (tgt := 35) hx hb dX6_countSilenced_7 (by decide) (fun c => ?_) (fun c => ?_)
    · have h := it c h
      refine lv_iload_n hx hb dX6_countSilenced_35 rfl (lv_at hl 1 rfl) ?_
      exact fx_iret hx hb hr hlocks (Option.some.inj h) rfl hR hS dX6_countSilenced_36
    · have h := ie c h
      refine lv_iload_n hx hb dX6_countSilenced_10 rfl (lv_at hl 1 rfl) ?_
      refine lv_aload_n hx hb dX6_countSilenced_11 rfl (lv_at hl 0 rfl) ?_
      obtain ⟨r1, e, h⟩ := bd h
      refine fx_gR hx hb hts hown hK hR fl_X6_11 e dX6_countSilenced_12 ?_
      refine lv_iload_n hx hb dX6_countSilenced_15 rfl (lv_at hl 2 rfl) ?_
      obtain ⟨r2, e, h⟩ := bd h
      refine fx_lR hx hb hK hR (kd := 0) rfl rfl e dX6_countSilenced_16 ?_
      obtain ⟨_, eO, h⟩ := bd h
      obtain ⟨r3, e, h⟩ := bd h
      refine fx_vR (As := []) (rest := [.int x1]) hx hb hml hts hown hK hR hS eO (mX4_findings l D dA A e) my_X4_findings mv_X4_findings rfl ml_X6_133 rfl hl.1 rfl (Nat.le_of_ble_eq_true rfl) dX6_countSilenced_17 ⟨Nat.le_of_ble_eq_true rfl, Nat.le_of_ble_eq_true rfl⟩ ⟨Nat.le_refl _, Nat.le_refl _⟩ (fun H locs hR hS => ?_)
      refine lv_aload_n hx hb dX6_countSilenced_20 rfl (lv_at hl 0 rfl) ?_
      obtain ⟨v4, e, h⟩ := bd h
      refine fx_gI hx hb hts hown hK hR fl_X6_108 e dX6_countSilenced_21 ?_
      obtain ⟨_, eO, h⟩ := bd h
      obtain ⟨v5, e, h⟩ := bd h
      refine fx_vI (As := [.int v4]) (rest := [.int x1]) hx hb hml hts hown hK hR hS eO (mX2_countSilenced l D dA A e) my_X2_countSilenced mv_X2_countSilenced rfl ml_X6_201 rfl hl.1 rfl (Nat.le_of_ble_eq_true rfl) dX6_countSilenced_24 ⟨Nat.le_of_ble_eq_true rfl, Nat.le_of_ble_eq_true rfl⟩ ⟨Nat.le_refl _, Nat.le_refl _⟩ (fun H locs hR hS => ?_)
      refine lv_iadd hx hb dX6_countSilenced_27 ?_
      refine lv_istore_n (lv' := [(1, .int (x1 + v5)), (0, .ref a0), (2, .int x2)]) hx hb dX6_countSilenced_28 rfl hl (by decide) rfl (fun ls hl => ?_)
      refine lv_iinc (v := (x2 + 1)) (lv' := [(2, .int (x2 + 1)), (1, .int (x1 + v5)), (0, .ref a0)]) hx hb dX6_countSilenced_29 hl (k := 2) rfl rfl (by decide) rfl (fun ls hl => ?_)
      refine lv_goto (tgt := 4) hx hb dX6_countSilenced_32 (by decide) ?_
      exact ih hR hS (lv_sub hl [2, 1, 0] rfl) h
def fX6_countSilenced (w : Fw) (a0 : Nat) : Option (Int32) := (fX6_countSilenced_L4 w 1000 a0 0 0)
set_option maxRecDepth 100000 in
set_option maxHeartbeats 4000000 in
theorem mX6_countSilenced (l : Launch) (D : va_G) (dA : Nat → ClassId) (A : Nat → Prop) {w : Fw} {a0 : Nat} {res : Int32} (h : fX6_countSilenced w a0 = some res) : Met l yX6_countSilenced (wz yX6_countSilenced cX6_countSilenced 3 (some .int)) (rz 2 45) (Pz D dA A w [.ref a0]) (QzI D dA A res w) 0 0 A := by
  refine Met.ofW (cc := cX6_countSilenced) (maxL := 3) (ret := (some .int)) (by decide) rfl ?_
  intro p e s m args below meth c s₁ B hml hv
  obtain ⟨rfl, hR, hK⟩ := hv
  have hx := B.exec
  have hb := B.bytes
  have hr := B.returns
  have hts : ∀ w ∈ lw_g, w.before [.ref a0].toArray s = true := fun w hw => atoms_spec (ws := wz yX6_countSilenced cX6_countSilenced 3 (some .int)) B.pre w (List.mem_cons_of_mem _ hw)
  have hown : s.vm.findClass RX6 = some m.cls := findClass_of_methodNamed B.named
  have hlocks := B.notSynchronized
  have C : Cx p s m [.ref a0].toArray meth c D dA RX6 cX6_countSilenced 3 (some .int) := ⟨hx, hb, hr, hml, hown, hts, hK, hlocks⟩
  have hS : va_S A s.heap s.heap [] := va_S.rf
  have hl := lv_entry ([.ref a0]) (n := 3) (Nat.le_of_ble_eq_true rfl)
  rw [lg_entry_eq]
  generalize (lg_sl ([.ref a0]) ++ List.replicate (3 - (lg_sl ([.ref a0])).length) Slot.unset).toArray = ls at hl ⊢
  have hl : lv_has ls 3 [(0, .ref a0)] := hl
  unfold fX6_countSilenced at h
  show W p l e (rz 2 45) s m _ below meth c s.heap [] 0 0 _ _
  refine lv_iconst (v := 0) hx hb dX6_countSilenced_0 (by decide) ?_
  refine lv_istore_n (lv' := [(1, .int 0), (0, .ref a0)]) hx hb dX6_countSilenced_1 rfl hl (by decide) rfl (fun ls hl => ?_)
  refine lv_iconst (v := 0) hx hb dX6_countSilenced_2 (by decide) ?_
  refine lv_istore_n (lv' := [(2, .int 0), (1, .int 0), (0, .ref a0)]) hx hb dX6_countSilenced_3 rfl hl (by decide) rfl (fun ls hl => ?_)
  exact qX6_countSilenced_L4 C   1000 hR hS (lv_sub hl [2, 1, 0] rfl) h
def fX6_countLines_L4 (w : Fw)  : Nat → Nat → Int32 → Int32 → Option (Int32)
  | 0, _, _, _ => none
  | n + 1, a0, x1, x2 => if 6 ≤ x2 then some x1 else ((gR w a0 6 0).bind fun r1 => ((lR w 0 r1 x2).bind fun r2 => ((isO w r2 4).bind fun _ => ((fX4_size w r2).bind fun v3 => (fX6_countLines_L4 w n a0 (x1 + v3) (x2 + 1))))))
set_option maxRecDepth 100000 in
set_option maxHeartbeats 4000000 in
theorem qX6_countLines_L4 {p : Program} {l : Launch} {e : Env} {s : State} {m : MethodId} {args : Array Value} {below : List Frame} {meth : Method} {c : Code} {D : va_G} {dA : Nat → ClassId} {A : Nat → Prop} (C : Cx p s m args meth c D dA RX6 cX6_countLines 3 (some .int)) {w : Fw} {res : Int32}   : ∀ (n : Nat) {H : Heap} {locs : List Loc} {ls : Array Slot} {a0 : Nat} {x1 : Int32} {x2 : Int32}, Rp D dA A w H → va_S A s.heap H locs → lv_has ls 3 [(0, .ref a0), (1, .int x1), (2, .int x2)] → fX6_countLines_L4 w n a0 x1 x2 = some res → W p l e (rz 1 20) s m args below meth c H locs 0 0 (MQ below (QzI D dA A res w) args s 0 0 A) (F0 m 4 ls []) := by
  obtain ⟨hx, hb, hr, hml, hown, hts, hK, hlocks⟩ := id C
  intro n
  induction n with
  | zero =>
    intro H locs ls a0 x1 x2 hR hS hl h
    rw [fX6_countLines_L4.eq_1] at h
    cases h
  | succ n ih =>
    intro H locs ls a0 x1 x2 hR hS hl h
    rw [fX6_countLines_L4.eq_2] at h
    refine lv_iload_n hx hb dX6_countLines_4 rfl (lv_at hl 2 rfl) ?_
    refine lv_bipush (v := 6) hx hb dX6_countLines_5 (by decide) ?_
    refine lv_icmp_ge (tgt := 28) hx hb dX6_countLines_7 (by decide) (fun c => ?_) (fun c => ?_)
    · have h := it c h
      refine lv_iload_n hx hb dX6_countLines_28 rfl (lv_at hl 1 rfl) ?_
      exact fx_iret hx hb hr hlocks (Option.some.inj h) rfl hR hS dX6_countLines_29
    · have h := ie c h
      refine lv_iload_n hx hb dX6_countLines_10 rfl (lv_at hl 1 rfl) ?_
      refine lv_aload_n hx hb dX6_countLines_11 rfl (lv_at hl 0 rfl) ?_
      obtain ⟨r1, e, h⟩ := bd h
      refine fx_gR hx hb hts hown hK hR fl_X6_11 e dX6_countLines_12 ?_
      refine lv_iload_n hx hb dX6_countLines_15 rfl (lv_at hl 2 rfl) ?_
      obtain ⟨r2, e, h⟩ := bd h
      refine fx_lR hx hb hK hR (kd := 0) rfl rfl e dX6_countLines_16 ?_
      obtain ⟨_, eO, h⟩ := bd h
      obtain ⟨v3, e, h⟩ := bd h
      refine fx_vI (As := []) (rest := [.int x1]) hx hb hml hts hown hK hR hS eO (mX4_size l D dA A e) my_X4_size mv_X4_size rfl ml_X6_203 rfl hl.1 rfl (Nat.le_of_ble_eq_true rfl) dX6_countLines_17 ⟨Nat.le_of_ble_eq_true rfl, Nat.le_of_ble_eq_true rfl⟩ ⟨Nat.le_refl _, Nat.le_refl _⟩ (fun H locs hR hS => ?_)
      refine lv_iadd hx hb dX6_countLines_20 ?_
      refine lv_istore_n (lv' := [(1, .int (x1 + v3)), (0, .ref a0), (2, .int x2)]) hx hb dX6_countLines_21 rfl hl (by decide) rfl (fun ls hl => ?_)
      refine lv_iinc (v := (x2 + 1)) (lv' := [(2, .int (x2 + 1)), (1, .int (x1 + v3)), (0, .ref a0)]) hx hb dX6_countLines_22 hl (k := 2) rfl rfl (by decide) rfl (fun ls hl => ?_)
      refine lv_goto (tgt := 4) hx hb dX6_countLines_25 (by decide) ?_
      exact ih hR hS (lv_sub hl [2, 1, 0] rfl) h
def fX6_countLines (w : Fw) (a0 : Nat) : Option (Int32) := (fX6_countLines_L4 w 1000 a0 0 0)
set_option maxRecDepth 100000 in
set_option maxHeartbeats 4000000 in
theorem mX6_countLines (l : Launch) (D : va_G) (dA : Nat → ClassId) (A : Nat → Prop) {w : Fw} {a0 : Nat} {res : Int32} (h : fX6_countLines w a0 = some res) : Met l yX6_countLines (wz yX6_countLines cX6_countLines 3 (some .int)) (rz 1 20) (Pz D dA A w [.ref a0]) (QzI D dA A res w) 0 0 A := by
  refine Met.ofW (cc := cX6_countLines) (maxL := 3) (ret := (some .int)) (by decide) rfl ?_
  intro p e s m args below meth c s₁ B hml hv
  obtain ⟨rfl, hR, hK⟩ := hv
  have hx := B.exec
  have hb := B.bytes
  have hr := B.returns
  have hts : ∀ w ∈ lw_g, w.before [.ref a0].toArray s = true := fun w hw => atoms_spec (ws := wz yX6_countLines cX6_countLines 3 (some .int)) B.pre w (List.mem_cons_of_mem _ hw)
  have hown : s.vm.findClass RX6 = some m.cls := findClass_of_methodNamed B.named
  have hlocks := B.notSynchronized
  have C : Cx p s m [.ref a0].toArray meth c D dA RX6 cX6_countLines 3 (some .int) := ⟨hx, hb, hr, hml, hown, hts, hK, hlocks⟩
  have hS : va_S A s.heap s.heap [] := va_S.rf
  have hl := lv_entry ([.ref a0]) (n := 3) (Nat.le_of_ble_eq_true rfl)
  rw [lg_entry_eq]
  generalize (lg_sl ([.ref a0]) ++ List.replicate (3 - (lg_sl ([.ref a0])).length) Slot.unset).toArray = ls at hl ⊢
  have hl : lv_has ls 3 [(0, .ref a0)] := hl
  unfold fX6_countLines at h
  show W p l e (rz 1 20) s m _ below meth c s.heap [] 0 0 _ _
  refine lv_iconst (v := 0) hx hb dX6_countLines_0 (by decide) ?_
  refine lv_istore_n (lv' := [(1, .int 0), (0, .ref a0)]) hx hb dX6_countLines_1 rfl hl (by decide) rfl (fun ls hl => ?_)
  refine lv_iconst (v := 0) hx hb dX6_countLines_2 (by decide) ?_
  refine lv_istore_n (lv' := [(2, .int 0), (1, .int 0), (0, .ref a0)]) hx hb dX6_countLines_3 rfl hl (by decide) rfl (fun ls hl => ?_)
  exact qX6_countLines_L4 C   1000 hR hS (lv_sub hl [2, 1, 0] rfl) h
def fX6_look (w : Fw) (a0 : Nat) (x1 : Int32) : Option (Int32) := (if x1 = 0 then ((gI w a0 6 5).bind fun v1 => some v1) else (if x1 = 1 then ((gI w a0 6 6).bind fun v2 => some v2) else (if x1 = 2 then ((isO w a0 6).bind fun _ => ((fX6_findingsAhead w a0 6).bind fun v3 => some v3)) else (if x1 = 3 then ((isO w a0 6).bind fun _ => ((fX6_countSilenced w a0).bind fun v4 => some v4)) else (if x1 = 4 then ((gR w a0 6 4).bind fun r5 => ((isO w r5 1).bind fun _ => ((fX1_size w r5).bind fun v6 => some v6))) else (if x1 = 5 then ((gI w a0 6 9).bind fun v7 => some v7) else (if x1 = 6 then ((isO w a0 6).bind fun _ => ((fX6_countLines w a0).bind fun v8 => some v8)) else (if x1 = 7 then ((gI w a0 6 7).bind fun v9 => some v9) else (if x1 = 8 then ((gI w a0 6 8).bind fun v10 => some v10) else some ((-1) : Int32))))))))))
set_option maxRecDepth 100000 in
set_option maxHeartbeats 4000000 in
theorem mX6_look (l : Launch) (D : va_G) (dA : Nat → ClassId) (A : Nat → Prop) {w : Fw} {a0 : Nat} {x1 : Int32} {res : Int32} (h : fX6_look w a0 x1 = some res) : Met l yX6_look (wz yX6_look cX6_look 2 (some .int)) (rz 3 67) (Pz D dA A w [.ref a0, .int x1]) (QzI D dA A res w) 0 0 A := by
  refine Met.ofW (cc := cX6_look) (maxL := 2) (ret := (some .int)) (by decide) rfl ?_
  intro p e s m args below meth c s₁ B hml hv
  obtain ⟨rfl, hR, hK⟩ := hv
  have hx := B.exec
  have hb := B.bytes
  have hr := B.returns
  have hts : ∀ w ∈ lw_g, w.before [.ref a0, .int x1].toArray s = true := fun w hw => atoms_spec (ws := wz yX6_look cX6_look 2 (some .int)) B.pre w (List.mem_cons_of_mem _ hw)
  have hown : s.vm.findClass RX6 = some m.cls := findClass_of_methodNamed B.named
  have hlocks := B.notSynchronized
  have C : Cx p s m [.ref a0, .int x1].toArray meth c D dA RX6 cX6_look 2 (some .int) := ⟨hx, hb, hr, hml, hown, hts, hK, hlocks⟩
  have hS : va_S A s.heap s.heap [] := va_S.rf
  have hl := lv_entry ([.ref a0, .int x1]) (n := 2) (Nat.le_of_ble_eq_true rfl)
  rw [lg_entry_eq]
  generalize (lg_sl ([.ref a0, .int x1]) ++ List.replicate (2 - (lg_sl ([.ref a0, .int x1])).length) Slot.unset).toArray = ls at hl ⊢
  have hl : lv_has ls 2 [(0, .ref a0), (1, .int x1)] := hl
  unfold fX6_look at h
  show W p l e (rz 3 67) s m _ below meth c s.heap [] 0 0 _ _
  refine lv_iload_n hx hb dX6_look_0 rfl (lv_at hl 1 rfl) ?_
  by_cases c0 : x1 = 0
  · have h := it c0 h
    refine lv_tableIn (off := 51) (tgt := 52) hx hb dX6_look_1 (by rw [c0]; decide) (by rw [c0]; decide) (by rw [c0]; decide) (by decide) ?_
    refine lv_aload_n hx hb dX6_look_52 rfl (lv_at hl 0 rfl) ?_
    obtain ⟨v1, e, h⟩ := bd h
    refine fx_gI hx hb hts hown hK hR fl_X6_111 e dX6_look_53 ?_
    exact fx_iret hx hb hr hlocks (Option.some.inj h) rfl hR hS dX6_look_56
  have h := ie c0 h
  by_cases c1 : x1 = 1
  · have h := it c1 h
    refine lv_tableIn (off := 56) (tgt := 57) hx hb dX6_look_1 (by rw [c1]; decide) (by rw [c1]; decide) (by rw [c1]; decide) (by decide) ?_
    refine lv_aload_n hx hb dX6_look_57 rfl (lv_at hl 0 rfl) ?_
    obtain ⟨v2, e, h⟩ := bd h
    refine fx_gI hx hb hts hown hK hR fl_X6_108 e dX6_look_58 ?_
    exact fx_iret hx hb hr hlocks (Option.some.inj h) rfl hR hS dX6_look_61
  have h := ie c1 h
  by_cases c2 : x1 = 2
  · have h := it c2 h
    refine lv_tableIn (off := 61) (tgt := 62) hx hb dX6_look_1 (by rw [c2]; decide) (by rw [c2]; decide) (by rw [c2]; decide) (by decide) ?_
    refine lv_aload_n hx hb dX6_look_62 rfl (lv_at hl 0 rfl) ?_
    refine lv_bipush (v := 6) hx hb dX6_look_63 (by decide) ?_
    obtain ⟨_, eO, h⟩ := bd h
    obtain ⟨v3, e, h⟩ := bd h
    refine fx_vI (As := [.int 6]) (rest := []) hx hb hml hts hown hK hR hS eO (mX6_findingsAhead l D dA A e) my_X6_findingsAhead mv_X6_findingsAhead rfl ml_X6_114 rfl hl.1 rfl (Nat.le_of_ble_eq_true rfl) dX6_look_65 ⟨Nat.le_of_ble_eq_true rfl, Nat.le_of_ble_eq_true rfl⟩ ⟨Nat.le_refl _, Nat.le_refl _⟩ (fun H locs hR hS => ?_)
    exact fx_iret hx hb hr hlocks (Option.some.inj h) rfl hR hS dX6_look_68
  have h := ie c2 h
  by_cases c3 : x1 = 3
  · have h := it c3 h
    refine lv_tableIn (off := 68) (tgt := 69) hx hb dX6_look_1 (by rw [c3]; decide) (by rw [c3]; decide) (by rw [c3]; decide) (by decide) ?_
    refine lv_aload_n hx hb dX6_look_69 rfl (lv_at hl 0 rfl) ?_
    obtain ⟨_, eO, h⟩ := bd h
    obtain ⟨v4, e, h⟩ := bd h
    refine fx_vI (As := []) (rest := []) hx hb hml hts hown hK hR hS eO (mX6_countSilenced l D dA A e) my_X6_countSilenced mv_X6_countSilenced rfl ml_X6_117 rfl hl.1 rfl (Nat.le_of_ble_eq_true rfl) dX6_look_70 ⟨Nat.le_of_ble_eq_true rfl, Nat.le_of_ble_eq_true rfl⟩ ⟨Nat.le_refl _, Nat.le_refl _⟩ (fun H locs hR hS => ?_)
    exact fx_iret hx hb hr hlocks (Option.some.inj h) rfl hR hS dX6_look_73
  have h := ie c3 h
  by_cases c4 : x1 = 4
  · have h := it c4 h
    refine lv_tableIn (off := 73) (tgt := 74) hx hb dX6_look_1 (by rw [c4]; decide) (by rw [c4]; decide) (by rw [c4]; decide) (by decide) ?_
    refine lv_aload_n hx hb dX6_look_74 rfl (lv_at hl 0 rfl) ?_
    obtain ⟨r5, e, h⟩ := bd h
    refine fx_gR hx hb hts hown hK hR fl_X6_40 e dX6_look_75 ?_
    obtain ⟨_, eO, h⟩ := bd h
    obtain ⟨v6, e, h⟩ := bd h
    refine fx_vI (As := []) (rest := []) hx hb hml hts hown hK hR hS eO (mX1_size l D dA A e) my_X1_size mv_X1_size rfl ml_X6_120 rfl hl.1 rfl (Nat.le_of_ble_eq_true rfl) dX6_look_78 ⟨Nat.le_of_ble_eq_true rfl, Nat.le_of_ble_eq_true rfl⟩ ⟨Nat.le_refl _, Nat.le_refl _⟩ (fun H locs hR hS => ?_)
    exact fx_iret hx hb hr hlocks (Option.some.inj h) rfl hR hS dX6_look_81
  have h := ie c4 h
  by_cases c5 : x1 = 5
  · have h := it c5 h
    refine lv_tableIn (off := 81) (tgt := 82) hx hb dX6_look_1 (by rw [c5]; decide) (by rw [c5]; decide) (by rw [c5]; decide) (by decide) ?_
    refine lv_aload_n hx hb dX6_look_82 rfl (lv_at hl 0 rfl) ?_
    obtain ⟨v7, e, h⟩ := bd h
    refine fx_gI hx hb hts hown hK hR fl_X6_121 e dX6_look_83 ?_
    exact fx_iret hx hb hr hlocks (Option.some.inj h) rfl hR hS dX6_look_86
  have h := ie c5 h
  by_cases c6 : x1 = 6
  · have h := it c6 h
    refine lv_tableIn (off := 86) (tgt := 87) hx hb dX6_look_1 (by rw [c6]; decide) (by rw [c6]; decide) (by rw [c6]; decide) (by decide) ?_
    refine lv_aload_n hx hb dX6_look_87 rfl (lv_at hl 0 rfl) ?_
    obtain ⟨_, eO, h⟩ := bd h
    obtain ⟨v8, e, h⟩ := bd h
    refine fx_vI (As := []) (rest := []) hx hb hml hts hown hK hR hS eO (mX6_countLines l D dA A e) my_X6_countLines mv_X6_countLines rfl ml_X6_124 rfl hl.1 rfl (Nat.le_of_ble_eq_true rfl) dX6_look_88 ⟨Nat.le_of_ble_eq_true rfl, Nat.le_of_ble_eq_true rfl⟩ ⟨Nat.le_refl _, Nat.le_refl _⟩ (fun H locs hR hS => ?_)
    exact fx_iret hx hb hr hlocks (Option.some.inj h) rfl hR hS dX6_look_91
  have h := ie c6 h
  by_cases c7 : x1 = 7
  · have h := it c7 h
    refine lv_tableIn (off := 91) (tgt := 92) hx hb dX6_look_1 (by rw [c7]; decide) (by rw [c7]; decide) (by rw [c7]; decide) (by decide) ?_
    refine lv_aload_n hx hb dX6_look_92 rfl (lv_at hl 0 rfl) ?_
    obtain ⟨v9, e, h⟩ := bd h
    refine fx_gI hx hb hts hown hK hR fl_X6_58 e dX6_look_93 ?_
    exact fx_iret hx hb hr hlocks (Option.some.inj h) rfl hR hS dX6_look_96
  have h := ie c7 h
  by_cases c8 : x1 = 8
  · have h := it c8 h
    refine lv_tableIn (off := 96) (tgt := 97) hx hb dX6_look_1 (by rw [c8]; decide) (by rw [c8]; decide) (by rw [c8]; decide) (by decide) ?_
    refine lv_aload_n hx hb dX6_look_97 rfl (lv_at hl 0 rfl) ?_
    obtain ⟨v10, e, h⟩ := bd h
    refine fx_gI hx hb hts hown hK hR fl_X6_102 e dX6_look_98 ?_
    exact fx_iret hx hb hr hlocks (Option.some.inj h) rfl hR hS dX6_look_101
  have h := ie c8 h
  have nc0 := fz_ne 0 0 (by decide) c0
  have nc1 := fz_ne 1 1 (by decide) c1
  have nc2 := fz_ne 2 2 (by decide) c2
  have nc3 := fz_ne 3 3 (by decide) c3
  have nc4 := fz_ne 4 4 (by decide) c4
  have nc5 := fz_ne 5 5 (by decide) c5
  have nc6 := fz_ne 6 6 (by decide) c6
  have nc7 := fz_ne 7 7 (by decide) c7
  have nc8 := fz_ne 8 8 (by decide) c8
  refine lv_tableOut (tgt := 102) hx hb dX6_look_1 (by omega) (by decide) ?_
  refine lv_iconst (v := (-1)) hx hb dX6_look_102 (by decide) ?_
  exact fx_iret hx hb hr hlocks (Option.some.inj h) rfl hR hS dX6_look_103
def fX6_line (w : Fw) (a0 : Nat) (x1 : Int32) (x2 : Int32) (x3 : Int32) : Option (Int32) := ((isO w a0 6).bind fun _ => ((fX6_isLine w a0 x1 x2).bind fun v1 => (if v1 = 0 then some ((-1) : Int32) else (if x3 = 0 then ((gR w a0 6 0).bind fun r2 => ((lR w 0 r2 x1).bind fun r3 => ((isO w r3 4).bind fun _ => ((fX4_byteAt w r3 x2).bind fun v4 => some v4)))) else (if x3 = 1 then ((gR w a0 6 0).bind fun r5 => ((lR w 0 r5 x1).bind fun r6 => ((isO w r6 4).bind fun _ => ((fX4_idAt w r6 x2).bind fun v7 => some v7)))) else some ((-1) : Int32))))))
set_option maxRecDepth 100000 in
set_option maxHeartbeats 4000000 in
theorem mX6_line (l : Launch) (D : va_G) (dA : Nat → ClassId) (A : Nat → Prop) {w : Fw} {a0 : Nat} {x1 : Int32} {x2 : Int32} {x3 : Int32} {res : Int32} (h : fX6_line w a0 x1 x2 x3 = some res) : Met l yX6_line (wz yX6_line cX6_line 4 (some .int)) (rz 2 43) (Pz D dA A w [.ref a0, .int x1, .int x2, .int x3]) (QzI D dA A res w) 0 0 A := by
  refine Met.ofW (cc := cX6_line) (maxL := 4) (ret := (some .int)) (by decide) rfl ?_
  intro p e s m args below meth c s₁ B hml hv
  obtain ⟨rfl, hR, hK⟩ := hv
  have hx := B.exec
  have hb := B.bytes
  have hr := B.returns
  have hts : ∀ w ∈ lw_g, w.before [.ref a0, .int x1, .int x2, .int x3].toArray s = true := fun w hw => atoms_spec (ws := wz yX6_line cX6_line 4 (some .int)) B.pre w (List.mem_cons_of_mem _ hw)
  have hown : s.vm.findClass RX6 = some m.cls := findClass_of_methodNamed B.named
  have hlocks := B.notSynchronized
  have C : Cx p s m [.ref a0, .int x1, .int x2, .int x3].toArray meth c D dA RX6 cX6_line 4 (some .int) := ⟨hx, hb, hr, hml, hown, hts, hK, hlocks⟩
  have hS : va_S A s.heap s.heap [] := va_S.rf
  have hl := lv_entry ([.ref a0, .int x1, .int x2, .int x3]) (n := 4) (Nat.le_of_ble_eq_true rfl)
  rw [lg_entry_eq]
  generalize (lg_sl ([.ref a0, .int x1, .int x2, .int x3]) ++ List.replicate (4 - (lg_sl ([.ref a0, .int x1, .int x2, .int x3])).length) Slot.unset).toArray = ls at hl ⊢
  have hl : lv_has ls 4 [(0, .ref a0), (1, .int x1), (2, .int x2), (3, .int x3)] := hl
  unfold fX6_line at h
  show W p l e (rz 2 43) s m _ below meth c s.heap [] 0 0 _ _
  refine lv_aload_n hx hb dX6_line_0 rfl (lv_at hl 0 rfl) ?_
  refine lv_iload_n hx hb dX6_line_1 rfl (lv_at hl 1 rfl) ?_
  refine lv_iload_n hx hb dX6_line_2 rfl (lv_at hl 2 rfl) ?_
  obtain ⟨_, eO, h⟩ := bd h
  obtain ⟨v1, e, h⟩ := bd h
  refine fx_vI (As := [.int x1, .int x2]) (rest := []) hx hb hml hts hown hK hR hS eO (mX6_isLine l D dA A e) my_X6_isLine mv_X6_isLine rfl ml_X6_70 rfl hl.1 rfl (Nat.le_of_ble_eq_true rfl) dX6_line_3 ⟨Nat.le_of_ble_eq_true rfl, Nat.le_of_ble_eq_true rfl⟩ ⟨Nat.le_refl _, Nat.le_refl _⟩ (fun H locs hR hS => ?_)
  refine lv_if_ne (tgt := 11) hx hb dX6_line_6 (by decide) (fun c => ?_) (fun c => ?_)
  · have h := ie c h
    refine lv_iload_n hx hb dX6_line_11 rfl (lv_at hl 3 rfl) ?_
    by_cases c0 : x3 = 0
    · have h := it c0 h
      refine lv_lookup (off := 28) (tgt := 40) hx hb dX6_line_12 (by decide) (by rw [c0]; decide) (by decide) ?_
      refine lv_aload_n hx hb dX6_line_40 rfl (lv_at hl 0 rfl) ?_
      obtain ⟨r2, e, h⟩ := bd h
      refine fx_gR hx hb hts hown hK hR fl_X6_11 e dX6_line_41 ?_
      refine lv_iload_n hx hb dX6_line_44 rfl (lv_at hl 1 rfl) ?_
      obtain ⟨r3, e, h⟩ := bd h
      refine fx_lR hx hb hK hR (kd := 0) rfl rfl e dX6_line_45 ?_
      refine lv_iload_n hx hb dX6_line_46 rfl (lv_at hl 2 rfl) ?_
      obtain ⟨_, eO, h⟩ := bd h
      obtain ⟨v4, e, h⟩ := bd h
      refine fx_vI (As := [.int x2]) (rest := []) hx hb hml hts hown hK hR hS eO (mX4_byteAt l D dA A e) my_X4_byteAt mv_X4_byteAt rfl ml_X6_78 rfl hl.1 rfl (Nat.le_of_ble_eq_true rfl) dX6_line_47 ⟨Nat.le_of_ble_eq_true rfl, Nat.le_of_ble_eq_true rfl⟩ ⟨Nat.le_refl _, Nat.le_refl _⟩ (fun H locs hR hS => ?_)
      exact fx_iret hx hb hr hlocks (Option.some.inj h) rfl hR hS dX6_line_50
    have h := ie c0 h
    by_cases c1 : x3 = 1
    · have h := it c1 h
      refine lv_lookup (off := 39) (tgt := 51) hx hb dX6_line_12 (by decide) (by rw [c1]; decide) (by decide) ?_
      refine lv_aload_n hx hb dX6_line_51 rfl (lv_at hl 0 rfl) ?_
      obtain ⟨r5, e, h⟩ := bd h
      refine fx_gR hx hb hts hown hK hR fl_X6_11 e dX6_line_52 ?_
      refine lv_iload_n hx hb dX6_line_55 rfl (lv_at hl 1 rfl) ?_
      obtain ⟨r6, e, h⟩ := bd h
      refine fx_lR hx hb hK hR (kd := 0) rfl rfl e dX6_line_56 ?_
      refine lv_iload_n hx hb dX6_line_57 rfl (lv_at hl 2 rfl) ?_
      obtain ⟨_, eO, h⟩ := bd h
      obtain ⟨v7, e, h⟩ := bd h
      refine fx_vI (As := [.int x2]) (rest := []) hx hb hml hts hown hK hR hS eO (mX4_idAt l D dA A e) my_X4_idAt mv_X4_idAt rfl ml_X6_127 rfl hl.1 rfl (Nat.le_of_ble_eq_true rfl) dX6_line_58 ⟨Nat.le_of_ble_eq_true rfl, Nat.le_of_ble_eq_true rfl⟩ ⟨Nat.le_refl _, Nat.le_refl _⟩ (fun H locs hR hS => ?_)
      exact fx_iret hx hb hr hlocks (Option.some.inj h) rfl hR hS dX6_line_61
    have h := ie c1 h
    have nc0 := fz_ne 0 0 (by decide) c0
    have nc1 := fz_ne 1 1 (by decide) c1
    refine lv_lookup (off := 50) (tgt := 62) hx hb dX6_line_12 (by decide) (by simp [Op.lookupswitch.offset, nc0, Ne.symm nc0, nc1, Ne.symm nc1]) (by decide) ?_
    refine lv_iconst (v := (-1)) hx hb dX6_line_62 (by decide) ?_
    exact fx_iret hx hb hr hlocks (Option.some.inj h) rfl hR hS dX6_line_63
  · have h := it c h
    refine lv_iconst (v := (-1)) hx hb dX6_line_9 (by decide) ?_
    exact fx_iret hx hb hr hlocks (Option.some.inj h) rfl hR hS dX6_line_10
def fX6_fileOfFinding_L10 (w : Fw)  : Nat → Nat → Int32 → Int32 → Option (Int32)
  | 0, _, _, _ => none
  | n + 1, a0, x2, x3 => if 6 ≤ x3 then some ((-1) : Int32) else ((gR w a0 6 0).bind fun r1 => ((lR w 0 r1 x3).bind fun r2 => ((isO w r2 4).bind fun _ => ((fX4_findings w r2).bind fun r3 => ((isO w r3 2).bind fun _ => ((fX2_size w r3).bind fun v4 => (if v4 ≤ x2 then (fX6_fileOfFinding_L10 w n a0 (x2 - v4) (x3 + 1)) else some x3)))))))
set_option maxRecDepth 100000 in
set_option maxHeartbeats 4000000 in
theorem qX6_fileOfFinding_L10 {p : Program} {l : Launch} {e : Env} {s : State} {m : MethodId} {args : Array Value} {below : List Frame} {meth : Method} {c : Code} {D : va_G} {dA : Nat → ClassId} {A : Nat → Prop} (C : Cx p s m args meth c D dA RX6 cX6_fileOfFinding 5 (some .int)) {w : Fw} {res : Int32}   : ∀ (n : Nat) {H : Heap} {locs : List Loc} {ls : Array Slot} {a0 : Nat} {x2 : Int32} {x3 : Int32}, Rp D dA A w H → va_S A s.heap H locs → lv_has ls 5 [(0, .ref a0), (2, .int x2), (3, .int x3)] → fX6_fileOfFinding_L10 w n a0 x2 x3 = some res → W p l e (rz 1 20) s m args below meth c H locs 0 0 (MQ below (QzI D dA A res w) args s 0 0 A) (F0 m 10 ls []) := by
  obtain ⟨hx, hb, hr, hml, hown, hts, hK, hlocks⟩ := id C
  intro n
  induction n with
  | zero =>
    intro H locs ls a0 x2 x3 hR hS hl h
    rw [fX6_fileOfFinding_L10.eq_1] at h
    cases h
  | succ n ih =>
    intro H locs ls a0 x2 x3 hR hS hl h
    rw [fX6_fileOfFinding_L10.eq_2] at h
    refine lv_iload_n hx hb dX6_fileOfFinding_10 rfl (lv_at hl 2 rfl) ?_
    refine lv_bipush (v := 6) hx hb dX6_fileOfFinding_11 (by decide) ?_
    refine lv_icmp_ge (tgt := 49) hx hb dX6_fileOfFinding_13 (by decide) (fun c => ?_) (fun c => ?_)
    · have h := it c h
      refine lv_iconst (v := (-1)) hx hb dX6_fileOfFinding_49 (by decide) ?_
      exact fx_iret hx hb hr hlocks (Option.some.inj h) rfl hR hS dX6_fileOfFinding_50
    · have h := ie c h
      refine lv_aload_n hx hb dX6_fileOfFinding_16 rfl (lv_at hl 0 rfl) ?_
      obtain ⟨r1, e, h⟩ := bd h
      refine fx_gR hx hb hts hown hK hR fl_X6_11 e dX6_fileOfFinding_17 ?_
      refine lv_iload_n hx hb dX6_fileOfFinding_20 rfl (lv_at hl 2 rfl) ?_
      obtain ⟨r2, e, h⟩ := bd h
      refine fx_lR hx hb hK hR (kd := 0) rfl rfl e dX6_fileOfFinding_21 ?_
      obtain ⟨_, eO, h⟩ := bd h
      obtain ⟨r3, e, h⟩ := bd h
      refine fx_vR (As := []) (rest := []) hx hb hml hts hown hK hR hS eO (mX4_findings l D dA A e) my_X4_findings mv_X4_findings rfl ml_X6_133 rfl hl.1 rfl (Nat.le_of_ble_eq_true rfl) dX6_fileOfFinding_22 ⟨Nat.le_of_ble_eq_true rfl, Nat.le_of_ble_eq_true rfl⟩ ⟨Nat.le_refl _, Nat.le_refl _⟩ (fun H locs hR hS => ?_)
      obtain ⟨_, eO, h⟩ := bd h
      obtain ⟨v4, e, h⟩ := bd h
      refine fx_vI (As := []) (rest := []) hx hb hml hts hown hK hR hS eO (mX2_size l D dA A e) my_X2_size mv_X2_size rfl ml_X6_200 rfl hl.1 rfl (Nat.le_of_ble_eq_true rfl) dX6_fileOfFinding_25 ⟨Nat.le_of_ble_eq_true rfl, Nat.le_of_ble_eq_true rfl⟩ ⟨Nat.le_refl _, Nat.le_refl _⟩ (fun H locs hR hS => ?_)
      refine lv_istore (lv' := [(4, .int v4), (0, .ref a0), (2, .int x2), (3, .int x3)]) hx hb dX6_fileOfFinding_28 hl (by decide) rfl (fun ls hl => ?_)
      refine lv_iload_n hx hb dX6_fileOfFinding_30 rfl (lv_at hl 2 rfl) ?_
      refine lv_iload hx hb dX6_fileOfFinding_31 (lv_at hl 0 rfl) ?_
      refine lv_icmp_ge (tgt := 38) hx hb dX6_fileOfFinding_33 (by decide) (fun c => ?_) (fun c => ?_)
      · have h := it c h
        refine lv_iload_n hx hb dX6_fileOfFinding_38 rfl (lv_at hl 2 rfl) ?_
        refine lv_iload hx hb dX6_fileOfFinding_39 (lv_at hl 0 rfl) ?_
        refine lv_isub hx hb dX6_fileOfFinding_41 ?_
        refine lv_istore_n (lv' := [(2, .int (x2 - v4)), (4, .int v4), (0, .ref a0), (3, .int x3)]) hx hb dX6_fileOfFinding_42 rfl hl (by decide) rfl (fun ls hl => ?_)
        refine lv_iinc (v := (x3 + 1)) (lv' := [(3, .int (x3 + 1)), (2, .int (x2 - v4)), (4, .int v4), (0, .ref a0)]) hx hb dX6_fileOfFinding_43 hl (k := 3) rfl rfl (by decide) rfl (fun ls hl => ?_)
        refine lv_goto (tgt := 10) hx hb dX6_fileOfFinding_46 (by decide) ?_
        exact ih hR hS (lv_sub hl [3, 1, 0] rfl) h
      · have h := ie c h
        refine lv_iload_n hx hb dX6_fileOfFinding_36 rfl (lv_at hl 3 rfl) ?_
        exact fx_iret hx hb hr hlocks (Option.some.inj h) rfl hR hS dX6_fileOfFinding_37
def fX6_fileOfFinding (w : Fw) (a0 : Nat) (x1 : Int32) : Option (Int32) := if 0 ≤ x1 then (fX6_fileOfFinding_L10 w 1000 a0 x1 0) else some ((-1) : Int32)
set_option maxRecDepth 100000 in
set_option maxHeartbeats 4000000 in
theorem mX6_fileOfFinding (l : Launch) (D : va_G) (dA : Nat → ClassId) (A : Nat → Prop) {w : Fw} {a0 : Nat} {x1 : Int32} {res : Int32} (h : fX6_fileOfFinding w a0 x1 = some res) : Met l yX6_fileOfFinding (wz yX6_fileOfFinding cX6_fileOfFinding 5 (some .int)) (rz 1 20) (Pz D dA A w [.ref a0, .int x1]) (QzI D dA A res w) 0 0 A := by
  refine Met.ofW (cc := cX6_fileOfFinding) (maxL := 5) (ret := (some .int)) (by decide) rfl ?_
  intro p e s m args below meth c s₁ B hml hv
  obtain ⟨rfl, hR, hK⟩ := hv
  have hx := B.exec
  have hb := B.bytes
  have hr := B.returns
  have hts : ∀ w ∈ lw_g, w.before [.ref a0, .int x1].toArray s = true := fun w hw => atoms_spec (ws := wz yX6_fileOfFinding cX6_fileOfFinding 5 (some .int)) B.pre w (List.mem_cons_of_mem _ hw)
  have hown : s.vm.findClass RX6 = some m.cls := findClass_of_methodNamed B.named
  have hlocks := B.notSynchronized
  have C : Cx p s m [.ref a0, .int x1].toArray meth c D dA RX6 cX6_fileOfFinding 5 (some .int) := ⟨hx, hb, hr, hml, hown, hts, hK, hlocks⟩
  have hS : va_S A s.heap s.heap [] := va_S.rf
  have hl := lv_entry ([.ref a0, .int x1]) (n := 5) (Nat.le_of_ble_eq_true rfl)
  rw [lg_entry_eq]
  generalize (lg_sl ([.ref a0, .int x1]) ++ List.replicate (5 - (lg_sl ([.ref a0, .int x1])).length) Slot.unset).toArray = ls at hl ⊢
  have hl : lv_has ls 5 [(0, .ref a0), (1, .int x1)] := hl
  unfold fX6_fileOfFinding at h
  show W p l e (rz 1 20) s m _ below meth c s.heap [] 0 0 _ _
  refine lv_iload_n hx hb dX6_fileOfFinding_0 rfl (lv_at hl 1 rfl) ?_
  refine lv_if_ge (tgt := 6) hx hb dX6_fileOfFinding_1 (by decide) (fun c => ?_) (fun c => ?_)
  · have h := it c h
    refine lv_iload_n hx hb dX6_fileOfFinding_6 rfl (lv_at hl 1 rfl) ?_
    refine lv_istore_n (lv' := [(2, .int x1), (0, .ref a0), (1, .int x1)]) hx hb dX6_fileOfFinding_7 rfl hl (by decide) rfl (fun ls hl => ?_)
    refine lv_iconst (v := 0) hx hb dX6_fileOfFinding_8 (by decide) ?_
    refine lv_istore_n (lv' := [(3, .int 0), (2, .int x1), (0, .ref a0), (1, .int x1)]) hx hb dX6_fileOfFinding_9 rfl hl (by decide) rfl (fun ls hl => ?_)
    exact qX6_fileOfFinding_L10 C   1000 hR hS (lv_sub hl [2, 1, 0] rfl) h
  · have h := ie c h
    refine lv_iconst (v := (-1)) hx hb dX6_fileOfFinding_4 (by decide) ?_
    exact fx_iret hx hb hr hlocks (Option.some.inj h) rfl hR hS dX6_fileOfFinding_5
def fX6_finding_b133 (w : Fw)  (s0 : Int32) : Option (Int32) := some s0
set_option maxRecDepth 100000 in
set_option maxHeartbeats 4000000 in
theorem qX6_finding_b133 {p : Program} {l : Launch} {e : Env} {s : State} {m : MethodId} {args : Array Value} {below : List Frame} {meth : Method} {c : Code} {D : va_G} {dA : Nat → ClassId} {A : Nat → Prop} (C : Cx p s m args meth c D dA RX6 cX6_finding 6 (some .int)) {w : Fw} {res : Int32}   {H : Heap} {locs : List Loc} {ls : Array Slot} {s0 : Int32} (hR : Rp D dA A w H) (hS : va_S A s.heap H locs) (hl : lv_has ls 6 []) (h : fX6_finding_b133 w s0 = some res) : W p l e (rz 2 44) s m args below meth c H locs 0 0 (MQ below (QzI D dA A res w) args s 0 0 A) (F0 m 133 ls [.int s0]) := by
  obtain ⟨hx, hb, hr, hml, hown, hts, hK, hlocks⟩ := id C
  unfold fX6_finding_b133 at h
  exact fx_iret hx hb hr hlocks (Option.some.inj h) rfl hR hS dX6_finding_133
def fX6_finding (w : Fw) (a0 : Nat) (x1 : Int32) (x2 : Int32) : Option (Int32) := ((isO w a0 6).bind fun _ => ((fX6_fileOfFinding w a0 x1).bind fun v1 => (if v1 = (-1) then some ((-1) : Int32) else ((gR w a0 6 0).bind fun r2 => ((lR w 0 r2 v1).bind fun r3 => ((isO w r3 4).bind fun _ => ((fX4_findings w r3).bind fun r4 => ((isO w a0 6).bind fun _ => ((fX6_findingsAhead w a0 v1).bind fun v5 => (if x2 = 0 then ((isO w r4 2).bind fun _ => ((fX2_ruleAt w r4 (x1 - v5)).bind fun v6 => some v6)) else (if x2 = 1 then some v1 else (if x2 = 2 then ((isO w r4 2).bind fun _ => ((fX2_lineAt w r4 (x1 - v5)).bind fun v7 => some v7)) else (if x2 = 3 then ((isO w r4 2).bind fun _ => ((fX2_idAt w r4 (x1 - v5)).bind fun v8 => some v8)) else (if x2 = 4 then ((isO w r4 2).bind fun _ => ((fX2_sinceAt w r4 (x1 - v5)).bind fun v9 => some v9)) else (if x2 = 5 then ((gI w a0 6 6).bind fun v10 => ((isO w r4 2).bind fun _ => ((fX2_isSilenced w r4 (x1 - v5) v10).bind fun v11 => (if v11 = 0 then (fX6_finding_b133 w 0) else (fX6_finding_b133 w 1))))) else (if x2 = 6 then ((gI w a0 6 6).bind fun v12 => ((isO w r4 2).bind fun _ => ((fX2_daysLeft w r4 (x1 - v5) v12).bind fun v13 => some v13))) else (if x2 = 7 then ((gI w a0 6 6).bind fun v14 => ((isO w r4 2).bind fun _ => ((fX2_reasonAt w r4 (x1 - v5) v14).bind fun v15 => some v15))) else some ((-1) : Int32))))))))))))))))))
set_option maxRecDepth 100000 in
set_option maxHeartbeats 4000000 in
theorem mX6_finding (l : Launch) (D : va_G) (dA : Nat → ClassId) (A : Nat → Prop) {w : Fw} {a0 : Nat} {x1 : Int32} {x2 : Int32} {res : Int32} (h : fX6_finding w a0 x1 x2 = some res) : Met l yX6_finding (wz yX6_finding cX6_finding 6 (some .int)) (rz 2 44) (Pz D dA A w [.ref a0, .int x1, .int x2]) (QzI D dA A res w) 0 0 A := by
  refine Met.ofW (cc := cX6_finding) (maxL := 6) (ret := (some .int)) (by decide) rfl ?_
  intro p e s m args below meth c s₁ B hml hv
  obtain ⟨rfl, hR, hK⟩ := hv
  have hx := B.exec
  have hb := B.bytes
  have hr := B.returns
  have hts : ∀ w ∈ lw_g, w.before [.ref a0, .int x1, .int x2].toArray s = true := fun w hw => atoms_spec (ws := wz yX6_finding cX6_finding 6 (some .int)) B.pre w (List.mem_cons_of_mem _ hw)
  have hown : s.vm.findClass RX6 = some m.cls := findClass_of_methodNamed B.named
  have hlocks := B.notSynchronized
  have C : Cx p s m [.ref a0, .int x1, .int x2].toArray meth c D dA RX6 cX6_finding 6 (some .int) := ⟨hx, hb, hr, hml, hown, hts, hK, hlocks⟩
  have hS : va_S A s.heap s.heap [] := va_S.rf
  have hl := lv_entry ([.ref a0, .int x1, .int x2]) (n := 6) (Nat.le_of_ble_eq_true rfl)
  rw [lg_entry_eq]
  generalize (lg_sl ([.ref a0, .int x1, .int x2]) ++ List.replicate (6 - (lg_sl ([.ref a0, .int x1, .int x2])).length) Slot.unset).toArray = ls at hl ⊢
  have hl : lv_has ls 6 [(0, .ref a0), (1, .int x1), (2, .int x2)] := hl
  unfold fX6_finding at h
  show W p l e (rz 2 44) s m _ below meth c s.heap [] 0 0 _ _
  refine lv_aload_n hx hb dX6_finding_0 rfl (lv_at hl 0 rfl) ?_
  refine lv_iload_n hx hb dX6_finding_1 rfl (lv_at hl 1 rfl) ?_
  obtain ⟨_, eO, h⟩ := bd h
  obtain ⟨v1, e, h⟩ := bd h
  refine fx_vI (As := [.int x1]) (rest := []) hx hb hml hts hown hK hR hS eO (mX6_fileOfFinding l D dA A e) my_X6_fileOfFinding mv_X6_fileOfFinding rfl ml_X6_130 rfl hl.1 rfl (Nat.le_of_ble_eq_true rfl) dX6_finding_2 ⟨Nat.le_of_ble_eq_true rfl, Nat.le_of_ble_eq_true rfl⟩ ⟨Nat.le_refl _, Nat.le_refl _⟩ (fun H locs hR hS => ?_)
  refine lv_istore_n (lv' := [(3, .int v1), (0, .ref a0), (1, .int x1), (2, .int x2)]) hx hb dX6_finding_5 rfl hl (by decide) rfl (fun ls hl => ?_)
  refine lv_iload_n hx hb dX6_finding_6 rfl (lv_at hl 0 rfl) ?_
  refine lv_iconst (v := (-1)) hx hb dX6_finding_7 (by decide) ?_
  refine lv_icmp_ne (tgt := 13) hx hb dX6_finding_8 (by decide) (fun c => ?_) (fun c => ?_)
  · have h := ie c h
    refine lv_aload_n hx hb dX6_finding_13 rfl (lv_at hl 1 rfl) ?_
    obtain ⟨r2, e, h⟩ := bd h
    refine fx_gR hx hb hts hown hK hR fl_X6_11 e dX6_finding_14 ?_
    refine lv_iload_n hx hb dX6_finding_17 rfl (lv_at hl 0 rfl) ?_
    obtain ⟨r3, e, h⟩ := bd h
    refine fx_lR hx hb hK hR (kd := 0) rfl rfl e dX6_finding_18 ?_
    obtain ⟨_, eO, h⟩ := bd h
    obtain ⟨r4, e, h⟩ := bd h
    refine fx_vR (As := []) (rest := []) hx hb hml hts hown hK hR hS eO (mX4_findings l D dA A e) my_X4_findings mv_X4_findings rfl ml_X6_133 rfl hl.1 rfl (Nat.le_of_ble_eq_true rfl) dX6_finding_19 ⟨Nat.le_of_ble_eq_true rfl, Nat.le_of_ble_eq_true rfl⟩ ⟨Nat.le_refl _, Nat.le_refl _⟩ (fun H locs hR hS => ?_)
    refine lv_astore (lv' := [(4, .ref r4), (3, .int v1), (0, .ref a0), (1, .int x1), (2, .int x2)]) hx hb dX6_finding_22 hl (by decide) rfl (fun ls hl => ?_)
    refine lv_iload_n hx hb dX6_finding_24 rfl (lv_at hl 3 rfl) ?_
    refine lv_aload_n hx hb dX6_finding_25 rfl (lv_at hl 2 rfl) ?_
    refine lv_iload_n hx hb dX6_finding_26 rfl (lv_at hl 1 rfl) ?_
    obtain ⟨_, eO, h⟩ := bd h
    obtain ⟨v5, e, h⟩ := bd h
    refine fx_vI (As := [.int v1]) (rest := [.int x1]) hx hb hml hts hown hK hR hS eO (mX6_findingsAhead l D dA A e) my_X6_findingsAhead mv_X6_findingsAhead rfl ml_X6_114 rfl hl.1 rfl (Nat.le_of_ble_eq_true rfl) dX6_finding_27 ⟨Nat.le_of_ble_eq_true rfl, Nat.le_of_ble_eq_true rfl⟩ ⟨Nat.le_refl _, Nat.le_refl _⟩ (fun H locs hR hS => ?_)
    refine lv_isub hx hb dX6_finding_30 ?_
    refine lv_istore (lv' := [(5, .int (x1 - v5)), (4, .ref r4), (3, .int v1), (0, .ref a0), (1, .int x1), (2, .int x2)]) hx hb dX6_finding_31 hl (by decide) rfl (fun ls hl => ?_)
    refine lv_iload_n hx hb dX6_finding_33 rfl (lv_at hl 5 rfl) ?_
    by_cases c0 : x2 = 0
    · have h := it c0 h
      refine lv_tableIn (off := 46) (tgt := 80) hx hb dX6_finding_34 (by rw [c0]; decide) (by rw [c0]; decide) (by rw [c0]; decide) (by decide) ?_
      refine lv_aload hx hb dX6_finding_80 (lv_at hl 1 rfl) ?_
      refine lv_iload hx hb dX6_finding_82 (lv_at hl 0 rfl) ?_
      obtain ⟨_, eO, h⟩ := bd h
      obtain ⟨v6, e, h⟩ := bd h
      refine fx_vI (As := [.int (x1 - v5)]) (rest := []) hx hb hml hts hown hK hR hS eO (mX2_ruleAt l D dA A e) my_X2_ruleAt mv_X2_ruleAt rfl ml_X6_137 rfl hl.1 rfl (Nat.le_of_ble_eq_true rfl) dX6_finding_84 ⟨Nat.le_of_ble_eq_true rfl, Nat.le_of_ble_eq_true rfl⟩ ⟨Nat.le_refl _, Nat.le_refl _⟩ (fun H locs hR hS => ?_)
      exact fx_iret hx hb hr hlocks (Option.some.inj h) rfl hR hS dX6_finding_87
    have h := ie c0 h
    by_cases c1 : x2 = 1
    · have h := it c1 h
      refine lv_tableIn (off := 54) (tgt := 88) hx hb dX6_finding_34 (by rw [c1]; decide) (by rw [c1]; decide) (by rw [c1]; decide) (by decide) ?_
      refine lv_iload_n hx hb dX6_finding_88 rfl (lv_at hl 2 rfl) ?_
      exact fx_iret hx hb hr hlocks (Option.some.inj h) rfl hR hS dX6_finding_89
    have h := ie c1 h
    by_cases c2 : x2 = 2
    · have h := it c2 h
      refine lv_tableIn (off := 56) (tgt := 90) hx hb dX6_finding_34 (by rw [c2]; decide) (by rw [c2]; decide) (by rw [c2]; decide) (by decide) ?_
      refine lv_aload hx hb dX6_finding_90 (lv_at hl 1 rfl) ?_
      refine lv_iload hx hb dX6_finding_92 (lv_at hl 0 rfl) ?_
      obtain ⟨_, eO, h⟩ := bd h
      obtain ⟨v7, e, h⟩ := bd h
      refine fx_vI (As := [.int (x1 - v5)]) (rest := []) hx hb hml hts hown hK hR hS eO (mX2_lineAt l D dA A e) my_X2_lineAt mv_X2_lineAt rfl ml_X6_142 rfl hl.1 rfl (Nat.le_of_ble_eq_true rfl) dX6_finding_94 ⟨Nat.le_of_ble_eq_true rfl, Nat.le_of_ble_eq_true rfl⟩ ⟨Nat.le_refl _, Nat.le_refl _⟩ (fun H locs hR hS => ?_)
      exact fx_iret hx hb hr hlocks (Option.some.inj h) rfl hR hS dX6_finding_97
    have h := ie c2 h
    by_cases c3 : x2 = 3
    · have h := it c3 h
      refine lv_tableIn (off := 64) (tgt := 98) hx hb dX6_finding_34 (by rw [c3]; decide) (by rw [c3]; decide) (by rw [c3]; decide) (by decide) ?_
      refine lv_aload hx hb dX6_finding_98 (lv_at hl 1 rfl) ?_
      refine lv_iload hx hb dX6_finding_100 (lv_at hl 0 rfl) ?_
      obtain ⟨_, eO, h⟩ := bd h
      obtain ⟨v8, e, h⟩ := bd h
      refine fx_vI (As := [.int (x1 - v5)]) (rest := []) hx hb hml hts hown hK hR hS eO (mX2_idAt l D dA A e) my_X2_idAt mv_X2_idAt rfl ml_X6_145 rfl hl.1 rfl (Nat.le_of_ble_eq_true rfl) dX6_finding_102 ⟨Nat.le_of_ble_eq_true rfl, Nat.le_of_ble_eq_true rfl⟩ ⟨Nat.le_refl _, Nat.le_refl _⟩ (fun H locs hR hS => ?_)
      exact fx_iret hx hb hr hlocks (Option.some.inj h) rfl hR hS dX6_finding_105
    have h := ie c3 h
    by_cases c4 : x2 = 4
    · have h := it c4 h
      refine lv_tableIn (off := 72) (tgt := 106) hx hb dX6_finding_34 (by rw [c4]; decide) (by rw [c4]; decide) (by rw [c4]; decide) (by decide) ?_
      refine lv_aload hx hb dX6_finding_106 (lv_at hl 1 rfl) ?_
      refine lv_iload hx hb dX6_finding_108 (lv_at hl 0 rfl) ?_
      obtain ⟨_, eO, h⟩ := bd h
      obtain ⟨v9, e, h⟩ := bd h
      refine fx_vI (As := [.int (x1 - v5)]) (rest := []) hx hb hml hts hown hK hR hS eO (mX2_sinceAt l D dA A e) my_X2_sinceAt mv_X2_sinceAt rfl ml_X6_146 rfl hl.1 rfl (Nat.le_of_ble_eq_true rfl) dX6_finding_110 ⟨Nat.le_of_ble_eq_true rfl, Nat.le_of_ble_eq_true rfl⟩ ⟨Nat.le_refl _, Nat.le_refl _⟩ (fun H locs hR hS => ?_)
      exact fx_iret hx hb hr hlocks (Option.some.inj h) rfl hR hS dX6_finding_113
    have h := ie c4 h
    by_cases c5 : x2 = 5
    · have h := it c5 h
      refine lv_tableIn (off := 80) (tgt := 114) hx hb dX6_finding_34 (by rw [c5]; decide) (by rw [c5]; decide) (by rw [c5]; decide) (by decide) ?_
      refine lv_aload hx hb dX6_finding_114 (lv_at hl 1 rfl) ?_
      refine lv_iload hx hb dX6_finding_116 (lv_at hl 0 rfl) ?_
      refine lv_aload_n hx hb dX6_finding_118 rfl (lv_at hl 3 rfl) ?_
      obtain ⟨v10, e, h⟩ := bd h
      refine fx_gI hx hb hts hown hK hR fl_X6_108 e dX6_finding_119 ?_
      obtain ⟨_, eO, h⟩ := bd h
      obtain ⟨v11, e, h⟩ := bd h
      refine fx_vI (As := [.int (x1 - v5), .int v10]) (rest := []) hx hb hml hts hown hK hR hS eO (mX2_isSilenced l D dA A e) my_X2_isSilenced mv_X2_isSilenced rfl ml_X6_149 rfl hl.1 rfl (Nat.le_of_ble_eq_true rfl) dX6_finding_122 ⟨Nat.le_of_ble_eq_true rfl, Nat.le_of_ble_eq_true rfl⟩ ⟨Nat.le_refl _, Nat.le_refl _⟩ (fun H locs hR hS => ?_)
      refine lv_if_eq (tgt := 132) hx hb dX6_finding_125 (by decide) (fun c => ?_) (fun c => ?_)
      · have h := it c h
        refine lv_iconst (v := 0) hx hb dX6_finding_132 (by decide) ?_
        exact qX6_finding_b133 C   hR hS (lv_sub hl [] rfl) h
      · have h := ie c h
        refine lv_iconst (v := 1) hx hb dX6_finding_128 (by decide) ?_
        refine lv_goto (tgt := 133) hx hb dX6_finding_129 (by decide) ?_
        exact qX6_finding_b133 C   hR hS (lv_sub hl [] rfl) h
    have h := ie c5 h
    by_cases c6 : x2 = 6
    · have h := it c6 h
      refine lv_tableIn (off := 100) (tgt := 134) hx hb dX6_finding_34 (by rw [c6]; decide) (by rw [c6]; decide) (by rw [c6]; decide) (by decide) ?_
      refine lv_aload hx hb dX6_finding_134 (lv_at hl 1 rfl) ?_
      refine lv_iload hx hb dX6_finding_136 (lv_at hl 0 rfl) ?_
      refine lv_aload_n hx hb dX6_finding_138 rfl (lv_at hl 3 rfl) ?_
      obtain ⟨v12, e, h⟩ := bd h
      refine fx_gI hx hb hts hown hK hR fl_X6_108 e dX6_finding_139 ?_
      obtain ⟨_, eO, h⟩ := bd h
      obtain ⟨v13, e, h⟩ := bd h
      refine fx_vI (As := [.int (x1 - v5), .int v12]) (rest := []) hx hb hml hts hown hK hR hS eO (mX2_daysLeft l D dA A e) my_X2_daysLeft mv_X2_daysLeft rfl ml_X6_152 rfl hl.1 rfl (Nat.le_of_ble_eq_true rfl) dX6_finding_142 ⟨Nat.le_of_ble_eq_true rfl, Nat.le_of_ble_eq_true rfl⟩ ⟨Nat.le_refl _, Nat.le_refl _⟩ (fun H locs hR hS => ?_)
      exact fx_iret hx hb hr hlocks (Option.some.inj h) rfl hR hS dX6_finding_145
    have h := ie c6 h
    by_cases c7 : x2 = 7
    · have h := it c7 h
      refine lv_tableIn (off := 112) (tgt := 146) hx hb dX6_finding_34 (by rw [c7]; decide) (by rw [c7]; decide) (by rw [c7]; decide) (by decide) ?_
      refine lv_aload hx hb dX6_finding_146 (lv_at hl 1 rfl) ?_
      refine lv_iload hx hb dX6_finding_148 (lv_at hl 0 rfl) ?_
      refine lv_aload_n hx hb dX6_finding_150 rfl (lv_at hl 3 rfl) ?_
      obtain ⟨v14, e, h⟩ := bd h
      refine fx_gI hx hb hts hown hK hR fl_X6_108 e dX6_finding_151 ?_
      obtain ⟨_, eO, h⟩ := bd h
      obtain ⟨v15, e, h⟩ := bd h
      refine fx_vI (As := [.int (x1 - v5), .int v14]) (rest := []) hx hb hml hts hown hK hR hS eO (mX2_reasonAt l D dA A e) my_X2_reasonAt mv_X2_reasonAt rfl ml_X6_156 rfl hl.1 rfl (Nat.le_of_ble_eq_true rfl) dX6_finding_154 ⟨Nat.le_of_ble_eq_true rfl, Nat.le_of_ble_eq_true rfl⟩ ⟨Nat.le_refl _, Nat.le_refl _⟩ (fun H locs hR hS => ?_)
      exact fx_iret hx hb hr hlocks (Option.some.inj h) rfl hR hS dX6_finding_157
    have h := ie c7 h
    have nc0 := fz_ne 0 0 (by decide) c0
    have nc1 := fz_ne 1 1 (by decide) c1
    have nc2 := fz_ne 2 2 (by decide) c2
    have nc3 := fz_ne 3 3 (by decide) c3
    have nc4 := fz_ne 4 4 (by decide) c4
    have nc5 := fz_ne 5 5 (by decide) c5
    have nc6 := fz_ne 6 6 (by decide) c6
    have nc7 := fz_ne 7 7 (by decide) c7
    refine lv_tableOut (tgt := 158) hx hb dX6_finding_34 (by omega) (by decide) ?_
    refine lv_iconst (v := (-1)) hx hb dX6_finding_158 (by decide) ?_
    exact fx_iret hx hb hr hlocks (Option.some.inj h) rfl hR hS dX6_finding_159
  · have h := it c h
    refine lv_iconst (v := (-1)) hx hb dX6_finding_11 (by decide) ?_
    exact fx_iret hx hb hr hlocks (Option.some.inj h) rfl hR hS dX6_finding_12
