def fX7_cut_L34  : Nat → Fw → Nat → Int32 → Int32 → Int32 → Option (Int32 × Fw)
  | 0, _, _, _, _, _ => none
  | n + 1, w, a0, x1, x3, x4 => ((gR w a0 7 0).bind fun r1 => ((lI w r1 x1).bind fun v2 => (if v2 ≤ x4 then ((isO w a0 7).bind fun _ => ((fX7_ends w a0 x1 x3).bind fun w3 => (zb 1).bind fun z4 => some (z4, w3))) else ((gR w a0 7 1).bind fun r5 => ((gR w a0 7 1).bind fun r6 => ((lI w r6 (((32 * x1) + x4) + 1)).bind fun v7 => ((sI w r5 ((32 * x1) + x4) v7).bind fun w8 => ((gR w8 a0 7 2).bind fun r9 => ((gR w8 a0 7 2).bind fun r10 => ((lI w8 r10 (((32 * x1) + x4) + 1)).bind fun v11 => ((sI w8 r9 ((32 * x1) + x4) v11).bind fun w12 => (fX7_cut_L34  n w12 a0 x1 x3 (x4 + 1)))))))))))))
set_option maxRecDepth 100000 in
set_option maxHeartbeats 4000000 in
theorem qX7_cut_L34 {p : Program} {l : Launch} {e : Env} {s : State} {m : MethodId} {args : Array Value} {below : List Frame} {meth : Method} {c : Code} {D : va_G} {dA : Nat → ClassId} {A : Nat → Prop} (C : Cx p s m args meth c D dA RX7 cX7_cut 5 (some .boolean)) {res : Int32 × Fw}   : ∀ (n : Nat) {w : Fw} {H : Heap} {locs : List Loc} {ls : Array Slot} {a0 : Nat} {x1 : Int32} {x3 : Int32} {x4 : Int32}, Rp D dA A w H → va_S A s.heap H locs → lv_has ls 5 [(0, .ref a0), (1, .int x1), (3, .int x3), (4, .int x4)] → fX7_cut_L34 n w a0 x1 x3 x4 = some res → W p l e (rz 6 140) s m args below meth c H locs 0 0 (MQ below (QzI D dA A res.1 res.2) args s 0 0 A) (F0 m 34 ls []) := by
  obtain ⟨hx, hb, hr, hml, hown, hts, hK, hlocks⟩ := id C
  intro n
  induction n with
  | zero =>
    intro w H locs ls a0 x1 x3 x4 hR hS hl h
    rw [fX7_cut_L34.eq_1] at h
    cases h
  | succ n ih =>
    intro w H locs ls a0 x1 x3 x4 hR hS hl h
    rw [fX7_cut_L34.eq_2] at h
    refine lv_iload hx hb dX7_cut_34 (lv_at hl 3 rfl) ?_
    refine lv_aload_n hx hb dX7_cut_36 rfl (lv_at hl 0 rfl) ?_
    obtain ⟨r1, e, h⟩ := bd h
    refine fx_gR hx hb hts hown hK hR fl_X7_7 e dX7_cut_37 ?_
    refine lv_iload_n hx hb dX7_cut_40 rfl (lv_at hl 1 rfl) ?_
    obtain ⟨v2, e, h⟩ := bd h
    refine fx_lI hx hb hK hR e dX7_cut_41 ?_
    refine lv_icmp_ge (tgt := 103) hx hb dX7_cut_42 (by decide) (fun c => ?_) (fun c => ?_)
    · have h := it c h
      refine lv_aload_n hx hb dX7_cut_103 rfl (lv_at hl 0 rfl) ?_
      refine lv_iload_n hx hb dX7_cut_104 rfl (lv_at hl 1 rfl) ?_
      refine lv_iload_n hx hb dX7_cut_105 rfl (lv_at hl 2 rfl) ?_
      obtain ⟨_, eO, h⟩ := bd h
      obtain ⟨w3, e, h⟩ := bd h
      refine fx_vV (As := [.int x1, .int x3]) (rest := []) hx hb hml hts hown hK hR hS eO (mX7_ends l D dA A e) my_X7_ends mv_X7_ends rfl ml_X7_155 rfl hl.1 rfl (Nat.le_of_ble_eq_true rfl) dX7_cut_106 ⟨Nat.le_of_ble_eq_true rfl, Nat.le_of_ble_eq_true rfl⟩ ⟨Nat.le_refl _, Nat.le_refl _⟩ (fun H locs hR hS => ?_)
      refine lv_iconst (v := 1) hx hb dX7_cut_109 (by decide) ?_
      obtain ⟨z4, e, h⟩ := bd h
      exact fx_zret hx hb hr hlocks (e.trans (congrArg some (pr1 h))) (pr2 h) hR hS dX7_cut_110
    · have h := ie c h
      refine lv_aload_n hx hb dX7_cut_45 rfl (lv_at hl 0 rfl) ?_
      obtain ⟨r5, e, h⟩ := bd h
      refine fx_gR hx hb hts hown hK hR fl_X7_13 e dX7_cut_46 ?_
      refine lv_bipush (v := 32) hx hb dX7_cut_49 (by decide) ?_
      refine lv_iload_n hx hb dX7_cut_51 rfl (lv_at hl 1 rfl) ?_
      refine lv_imul hx hb dX7_cut_52 ?_
      refine lv_iload hx hb dX7_cut_53 (lv_at hl 3 rfl) ?_
      refine lv_iadd hx hb dX7_cut_55 ?_
      refine lv_aload_n hx hb dX7_cut_56 rfl (lv_at hl 0 rfl) ?_
      obtain ⟨r6, e, h⟩ := bd h
      refine fx_gR hx hb hts hown hK hR fl_X7_13 e dX7_cut_57 ?_
      refine lv_bipush (v := 32) hx hb dX7_cut_60 (by decide) ?_
      refine lv_iload_n hx hb dX7_cut_62 rfl (lv_at hl 1 rfl) ?_
      refine lv_imul hx hb dX7_cut_63 ?_
      refine lv_iload hx hb dX7_cut_64 (lv_at hl 3 rfl) ?_
      refine lv_iadd hx hb dX7_cut_66 ?_
      refine lv_iconst (v := 1) hx hb dX7_cut_67 (by decide) ?_
      refine lv_iadd hx hb dX7_cut_68 ?_
      obtain ⟨v7, e, h⟩ := bd h
      refine fx_lI hx hb hK hR e dX7_cut_69 ?_
      obtain ⟨w8, e, h⟩ := bd h
      refine fx_sI hx hb hK hR hS e dX7_cut_70 (fun H locs hR hS => ?_)
      refine lv_aload_n hx hb dX7_cut_71 rfl (lv_at hl 0 rfl) ?_
      obtain ⟨r9, e, h⟩ := bd h
      refine fx_gR hx hb hts hown hK hR fl_X7_16 e dX7_cut_72 ?_
      refine lv_bipush (v := 32) hx hb dX7_cut_75 (by decide) ?_
      refine lv_iload_n hx hb dX7_cut_77 rfl (lv_at hl 1 rfl) ?_
      refine lv_imul hx hb dX7_cut_78 ?_
      refine lv_iload hx hb dX7_cut_79 (lv_at hl 3 rfl) ?_
      refine lv_iadd hx hb dX7_cut_81 ?_
      refine lv_aload_n hx hb dX7_cut_82 rfl (lv_at hl 0 rfl) ?_
      obtain ⟨r10, e, h⟩ := bd h
      refine fx_gR hx hb hts hown hK hR fl_X7_16 e dX7_cut_83 ?_
      refine lv_bipush (v := 32) hx hb dX7_cut_86 (by decide) ?_
      refine lv_iload_n hx hb dX7_cut_88 rfl (lv_at hl 1 rfl) ?_
      refine lv_imul hx hb dX7_cut_89 ?_
      refine lv_iload hx hb dX7_cut_90 (lv_at hl 3 rfl) ?_
      refine lv_iadd hx hb dX7_cut_92 ?_
      refine lv_iconst (v := 1) hx hb dX7_cut_93 (by decide) ?_
      refine lv_iadd hx hb dX7_cut_94 ?_
      obtain ⟨v11, e, h⟩ := bd h
      refine fx_lI hx hb hK hR e dX7_cut_95 ?_
      obtain ⟨w12, e, h⟩ := bd h
      refine fx_sI hx hb hK hR hS e dX7_cut_96 (fun H locs hR hS => ?_)
      refine lv_iinc (v := (x4 + 1)) (lv' := [(4, .int (x4 + 1)), (0, .ref a0), (1, .int x1), (3, .int x3)]) hx hb dX7_cut_97 hl (k := 3) rfl rfl (by decide) rfl (fun ls hl => ?_)
      refine lv_goto (tgt := 34) hx hb dX7_cut_100 (by decide) ?_
      exact ih hR hS (lv_sub hl [1, 2, 3, 0] rfl) h
def fX7_cut (w : Fw) (a0 : Nat) (x1 : Int32) (x2 : Int32) : Option (Int32 × Fw) := ((isO w a0 7).bind fun _ => ((fX7_isLine w a0 x1 x2).bind fun v13 => (if v13 = 0 then (zb 0).bind fun z19 => some (z19, w) else ((isO w a0 7).bind fun _ => ((fX7_begins w a0).bind fun w14 => ((isO w14 a0 7).bind fun _ => ((fX7_defs w14 a0 x1).bind fun v15 => ((gR w14 a0 7 0).bind fun r16 => ((lI w14 r16 x1).bind fun v17 => ((sI w14 r16 x1 (v17 - 1)).bind fun w18 => (fX7_cut_L34 1000 w18 a0 x1 v15 x2)))))))))))
set_option maxRecDepth 100000 in
set_option maxHeartbeats 4000000 in
theorem mX7_cut (l : Launch) (D : va_G) (dA : Nat → ClassId) (A : Nat → Prop) {w : Fw} {a0 : Nat} {x1 : Int32} {x2 : Int32} {res : Int32 × Fw} (h : fX7_cut w a0 x1 x2 = some res) : Met l yX7_cut (wz yX7_cut cX7_cut 5 (some .boolean)) (rz 6 140) (Pz D dA A w [.ref a0, .int x1, .int x2]) (QzI D dA A res.1 res.2) 0 0 A := by
  refine Met.ofW (cc := cX7_cut) (maxL := 5) (ret := (some .boolean)) (by decide) rfl ?_
  intro p e s m args below meth c s₁ B hml hv
  obtain ⟨rfl, hR, hK⟩ := hv
  have hx := B.exec
  have hb := B.bytes
  have hr := B.returns
  have hts : ∀ w ∈ lw_g, w.before [.ref a0, .int x1, .int x2].toArray s = true := fun w hw => atoms_spec (ws := wz yX7_cut cX7_cut 5 (some .boolean)) B.pre w (List.mem_cons_of_mem _ hw)
  have hown : s.vm.findClass RX7 = some m.cls := findClass_of_methodNamed B.named
  have hlocks := B.notSynchronized
  have C : Cx p s m [.ref a0, .int x1, .int x2].toArray meth c D dA RX7 cX7_cut 5 (some .boolean) := ⟨hx, hb, hr, hml, hown, hts, hK, hlocks⟩
  have hS : va_S A s.heap s.heap [] := va_S.rf
  have hl := lv_entry ([.ref a0, .int x1, .int x2]) (n := 5) (Nat.le_of_ble_eq_true rfl)
  rw [lg_entry_eq]
  generalize (lg_sl ([.ref a0, .int x1, .int x2]) ++ List.replicate (5 - (lg_sl ([.ref a0, .int x1, .int x2])).length) Slot.unset).toArray = ls at hl ⊢
  have hl : lv_has ls 5 [(0, .ref a0), (1, .int x1), (2, .int x2)] := hl
  unfold fX7_cut at h
  show W p l e (rz 6 140) s m _ below meth c s.heap [] 0 0 _ _
  refine lv_aload_n hx hb dX7_cut_0 rfl (lv_at hl 0 rfl) ?_
  refine lv_iload_n hx hb dX7_cut_1 rfl (lv_at hl 1 rfl) ?_
  refine lv_iload_n hx hb dX7_cut_2 rfl (lv_at hl 2 rfl) ?_
  obtain ⟨_, eO, h⟩ := bd h
  obtain ⟨v13, e, h⟩ := bd h
  refine fx_vI (As := [.int x1, .int x2]) (rest := []) hx hb hml hts hown hK hR hS eO (mX7_isLine l D dA A e) my_X7_isLine mv_X7_isLine rfl ml_X7_159 rfl hl.1 rfl (Nat.le_of_ble_eq_true rfl) dX7_cut_3 ⟨Nat.le_of_ble_eq_true rfl, Nat.le_of_ble_eq_true rfl⟩ ⟨Nat.le_refl _, Nat.le_refl _⟩ (fun H locs hR hS => ?_)
  refine lv_if_ne (tgt := 11) hx hb dX7_cut_6 (by decide) (fun c => ?_) (fun c => ?_)
  · have h := ie c h
    refine lv_aload_n hx hb dX7_cut_11 rfl (lv_at hl 0 rfl) ?_
    obtain ⟨_, eO, h⟩ := bd h
    obtain ⟨w14, e, h⟩ := bd h
    refine fx_vV (As := []) (rest := []) hx hb hml hts hown hK hR hS eO (mX7_begins l D dA A e) my_X7_begins mv_X7_begins rfl ml_X7_149 rfl hl.1 rfl (Nat.le_of_ble_eq_true rfl) dX7_cut_12 ⟨Nat.le_of_ble_eq_true rfl, Nat.le_of_ble_eq_true rfl⟩ ⟨Nat.le_refl _, Nat.le_refl _⟩ (fun H locs hR hS => ?_)
    refine lv_aload_n hx hb dX7_cut_15 rfl (lv_at hl 0 rfl) ?_
    refine lv_iload_n hx hb dX7_cut_16 rfl (lv_at hl 1 rfl) ?_
    obtain ⟨_, eO, h⟩ := bd h
    obtain ⟨v15, e, h⟩ := bd h
    refine fx_vI (As := [.int x1]) (rest := []) hx hb hml hts hown hK hR hS eO (mX7_defs l D dA A e) my_X7_defs mv_X7_defs rfl ml_X7_91 rfl hl.1 rfl (Nat.le_of_ble_eq_true rfl) dX7_cut_17 ⟨Nat.le_of_ble_eq_true rfl, Nat.le_of_ble_eq_true rfl⟩ ⟨Nat.le_refl _, Nat.le_refl _⟩ (fun H locs hR hS => ?_)
    refine lv_istore_n (lv' := [(3, .int v15), (0, .ref a0), (1, .int x1), (2, .int x2)]) hx hb dX7_cut_20 rfl hl (by decide) rfl (fun ls hl => ?_)
    refine lv_aload_n hx hb dX7_cut_21 rfl (lv_at hl 1 rfl) ?_
    obtain ⟨r16, e, h⟩ := bd h
    refine fx_gR hx hb hts hown hK hR fl_X7_7 e dX7_cut_22 ?_
    refine lv_iload_n hx hb dX7_cut_25 rfl (lv_at hl 2 rfl) ?_
    refine lv_dup2_11 hx hb dX7_cut_26 rfl rfl ?_
    obtain ⟨v17, e, h⟩ := bd h
    refine fx_lI hx hb hK hR e dX7_cut_27 ?_
    refine lv_iconst (v := 1) hx hb dX7_cut_28 (by decide) ?_
    refine lv_isub hx hb dX7_cut_29 ?_
    obtain ⟨w18, e, h⟩ := bd h
    refine fx_sI hx hb hK hR hS e dX7_cut_30 (fun H locs hR hS => ?_)
    refine lv_iload_n hx hb dX7_cut_31 rfl (lv_at hl 3 rfl) ?_
    refine lv_istore (lv' := [(4, .int x2), (3, .int v15), (0, .ref a0), (1, .int x1), (2, .int x2)]) hx hb dX7_cut_32 hl (by decide) rfl (fun ls hl => ?_)
    exact qX7_cut_L34 C   1000 hR hS (lv_sub hl [2, 3, 1, 0] rfl) h
  · have h := it c h
    refine lv_iconst (v := 0) hx hb dX7_cut_9 (by decide) ?_
    obtain ⟨z19, e, h⟩ := bd h
    exact fx_zret hx hb hr hlocks (e.trans (congrArg some (pr1 h))) (pr2 h) hR hS dX7_cut_10
def fX7_change_b31  (w : Fw)  : Option (Int32 × Fw) := (zb 0).bind fun z1 => some (z1, w)
set_option maxRecDepth 100000 in
set_option maxHeartbeats 4000000 in
theorem qX7_change_b31 {p : Program} {l : Launch} {e : Env} {s : State} {m : MethodId} {args : Array Value} {below : List Frame} {meth : Method} {c : Code} {D : va_G} {dA : Nat → ClassId} {A : Nat → Prop} (C : Cx p s m args meth c D dA RX7 cX7_change 5 (some .boolean)) {w : Fw} {res : Int32 × Fw}   {H : Heap} {locs : List Loc} {ls : Array Slot}  (hR : Rp D dA A w H) (hS : va_S A s.heap H locs) (hl : lv_has ls 5 []) (h : fX7_change_b31 w = some res) : W p l e (rz 6 140) s m args below meth c H locs 0 0 (MQ below (QzI D dA A res.1 res.2) args s 0 0 A) (F0 m 31 ls []) := by
  obtain ⟨hx, hb, hr, hml, hown, hts, hK, hlocks⟩ := id C
  unfold fX7_change_b31 at h
  refine lv_iconst (v := 0) hx hb dX7_change_31 (by decide) ?_
  obtain ⟨z1, e, h⟩ := bd h
  exact fx_zret hx hb hr hlocks (e.trans (congrArg some (pr1 h))) (pr2 h) hR hS dX7_change_32
def fX7_change (w : Fw) (a0 : Nat) (x1 : Int32) (x2 : Int32) (x3 : Int32) : Option (Int32 × Fw) := ((isO w a0 7).bind fun _ => ((fX7_isLine w a0 x1 x2).bind fun v2 => (if v2 = 0 then (fX7_change_b31 w) else ((fX7_isByte w x3).bind fun v3 => (if v3 = 0 then (fX7_change_b31 w) else ((gR w a0 7 1).bind fun r4 => ((lI w r4 ((32 * x1) + x2)).bind fun v5 => (if v5 = x3 then (fX7_change_b31 w) else ((isO w a0 7).bind fun _ => ((fX7_begins w a0).bind fun w6 => ((isO w6 a0 7).bind fun _ => ((fX7_defs w6 a0 x1).bind fun v7 => ((gR w6 a0 7 1).bind fun r8 => ((sI w6 r8 ((32 * x1) + x2) x3).bind fun w9 => ((isO w9 a0 7).bind fun _ => ((fX7_ends w9 a0 x1 v7).bind fun w10 => (zb 1).bind fun z11 => some (z11, w10)))))))))))))))))
set_option maxRecDepth 100000 in
set_option maxHeartbeats 4000000 in
theorem mX7_change (l : Launch) (D : va_G) (dA : Nat → ClassId) (A : Nat → Prop) {w : Fw} {a0 : Nat} {x1 : Int32} {x2 : Int32} {x3 : Int32} {res : Int32 × Fw} (h : fX7_change w a0 x1 x2 x3 = some res) : Met l yX7_change (wz yX7_change cX7_change 5 (some .boolean)) (rz 6 140) (Pz D dA A w [.ref a0, .int x1, .int x2, .int x3]) (QzI D dA A res.1 res.2) 0 0 A := by
  refine Met.ofW (cc := cX7_change) (maxL := 5) (ret := (some .boolean)) (by decide) rfl ?_
  intro p e s m args below meth c s₁ B hml hv
  obtain ⟨rfl, hR, hK⟩ := hv
  have hx := B.exec
  have hb := B.bytes
  have hr := B.returns
  have hts : ∀ w ∈ lw_g, w.before [.ref a0, .int x1, .int x2, .int x3].toArray s = true := fun w hw => atoms_spec (ws := wz yX7_change cX7_change 5 (some .boolean)) B.pre w (List.mem_cons_of_mem _ hw)
  have hown : s.vm.findClass RX7 = some m.cls := findClass_of_methodNamed B.named
  have hlocks := B.notSynchronized
  have C : Cx p s m [.ref a0, .int x1, .int x2, .int x3].toArray meth c D dA RX7 cX7_change 5 (some .boolean) := ⟨hx, hb, hr, hml, hown, hts, hK, hlocks⟩
  have hS : va_S A s.heap s.heap [] := va_S.rf
  have hl := lv_entry ([.ref a0, .int x1, .int x2, .int x3]) (n := 5) (Nat.le_of_ble_eq_true rfl)
  rw [lg_entry_eq]
  generalize (lg_sl ([.ref a0, .int x1, .int x2, .int x3]) ++ List.replicate (5 - (lg_sl ([.ref a0, .int x1, .int x2, .int x3])).length) Slot.unset).toArray = ls at hl ⊢
  have hl : lv_has ls 5 [(0, .ref a0), (1, .int x1), (2, .int x2), (3, .int x3)] := hl
  unfold fX7_change at h
  show W p l e (rz 6 140) s m _ below meth c s.heap [] 0 0 _ _
  refine lv_aload_n hx hb dX7_change_0 rfl (lv_at hl 0 rfl) ?_
  refine lv_iload_n hx hb dX7_change_1 rfl (lv_at hl 1 rfl) ?_
  refine lv_iload_n hx hb dX7_change_2 rfl (lv_at hl 2 rfl) ?_
  obtain ⟨_, eO, h⟩ := bd h
  obtain ⟨v2, e, h⟩ := bd h
  refine fx_vI (As := [.int x1, .int x2]) (rest := []) hx hb hml hts hown hK hR hS eO (mX7_isLine l D dA A e) my_X7_isLine mv_X7_isLine rfl ml_X7_159 rfl hl.1 rfl (Nat.le_of_ble_eq_true rfl) dX7_change_3 ⟨Nat.le_of_ble_eq_true rfl, Nat.le_of_ble_eq_true rfl⟩ ⟨Nat.le_refl _, Nat.le_refl _⟩ (fun H locs hR hS => ?_)
  refine lv_if_eq (tgt := 31) hx hb dX7_change_6 (by decide) (fun c => ?_) (fun c => ?_)
  · have h := it c h
    exact qX7_change_b31 C   hR hS (lv_sub hl [] rfl) h
  · have h := ie c h
    refine lv_iload_n hx hb dX7_change_9 rfl (lv_at hl 3 rfl) ?_
    obtain ⟨v3, e, h⟩ := bd h
    refine fx_sI' (As := [.int x3]) (rest := []) hx hb hml hts hown hK hR hS (mX7_isByte l D dA A e) my_X7_isByte ms_X7_isByte ml_X7_146 rfl hl.1 rfl (Nat.le_of_ble_eq_true rfl) dX7_change_10 ⟨Nat.le_of_ble_eq_true rfl, Nat.le_of_ble_eq_true rfl⟩ ⟨Nat.le_refl _, Nat.le_refl _⟩ (fun H locs hR hS => ?_)
    refine lv_if_eq (tgt := 31) hx hb dX7_change_13 (by decide) (fun c => ?_) (fun c => ?_)
    · have h := it c h
      exact qX7_change_b31 C   hR hS (lv_sub hl [] rfl) h
    · have h := ie c h
      refine lv_aload_n hx hb dX7_change_16 rfl (lv_at hl 0 rfl) ?_
      obtain ⟨r4, e, h⟩ := bd h
      refine fx_gR hx hb hts hown hK hR fl_X7_13 e dX7_change_17 ?_
      refine lv_bipush (v := 32) hx hb dX7_change_20 (by decide) ?_
      refine lv_iload_n hx hb dX7_change_22 rfl (lv_at hl 1 rfl) ?_
      refine lv_imul hx hb dX7_change_23 ?_
      refine lv_iload_n hx hb dX7_change_24 rfl (lv_at hl 2 rfl) ?_
      refine lv_iadd hx hb dX7_change_25 ?_
      obtain ⟨v5, e, h⟩ := bd h
      refine fx_lI hx hb hK hR e dX7_change_26 ?_
      refine lv_iload_n hx hb dX7_change_27 rfl (lv_at hl 3 rfl) ?_
      refine lv_icmp_ne (tgt := 33) hx hb dX7_change_28 (by decide) (fun c => ?_) (fun c => ?_)
      · have h := ie c h
        refine lv_aload_n hx hb dX7_change_33 rfl (lv_at hl 0 rfl) ?_
        obtain ⟨_, eO, h⟩ := bd h
        obtain ⟨w6, e, h⟩ := bd h
        refine fx_vV (As := []) (rest := []) hx hb hml hts hown hK hR hS eO (mX7_begins l D dA A e) my_X7_begins mv_X7_begins rfl ml_X7_149 rfl hl.1 rfl (Nat.le_of_ble_eq_true rfl) dX7_change_34 ⟨Nat.le_of_ble_eq_true rfl, Nat.le_of_ble_eq_true rfl⟩ ⟨Nat.le_refl _, Nat.le_refl _⟩ (fun H locs hR hS => ?_)
        refine lv_aload_n hx hb dX7_change_37 rfl (lv_at hl 0 rfl) ?_
        refine lv_iload_n hx hb dX7_change_38 rfl (lv_at hl 1 rfl) ?_
        obtain ⟨_, eO, h⟩ := bd h
        obtain ⟨v7, e, h⟩ := bd h
        refine fx_vI (As := [.int x1]) (rest := []) hx hb hml hts hown hK hR hS eO (mX7_defs l D dA A e) my_X7_defs mv_X7_defs rfl ml_X7_91 rfl hl.1 rfl (Nat.le_of_ble_eq_true rfl) dX7_change_39 ⟨Nat.le_of_ble_eq_true rfl, Nat.le_of_ble_eq_true rfl⟩ ⟨Nat.le_refl _, Nat.le_refl _⟩ (fun H locs hR hS => ?_)
        refine lv_istore (lv' := [(4, .int v7), (0, .ref a0), (1, .int x1), (2, .int x2), (3, .int x3)]) hx hb dX7_change_42 hl (by decide) rfl (fun ls hl => ?_)
        refine lv_aload_n hx hb dX7_change_44 rfl (lv_at hl 1 rfl) ?_
        obtain ⟨r8, e, h⟩ := bd h
        refine fx_gR hx hb hts hown hK hR fl_X7_13 e dX7_change_45 ?_
        refine lv_bipush (v := 32) hx hb dX7_change_48 (by decide) ?_
        refine lv_iload_n hx hb dX7_change_50 rfl (lv_at hl 2 rfl) ?_
        refine lv_imul hx hb dX7_change_51 ?_
        refine lv_iload_n hx hb dX7_change_52 rfl (lv_at hl 3 rfl) ?_
        refine lv_iadd hx hb dX7_change_53 ?_
        refine lv_iload_n hx hb dX7_change_54 rfl (lv_at hl 4 rfl) ?_
        obtain ⟨w9, e, h⟩ := bd h
        refine fx_sI hx hb hK hR hS e dX7_change_55 (fun H locs hR hS => ?_)
        refine lv_aload_n hx hb dX7_change_56 rfl (lv_at hl 1 rfl) ?_
        refine lv_iload_n hx hb dX7_change_57 rfl (lv_at hl 2 rfl) ?_
        refine lv_iload hx hb dX7_change_58 (lv_at hl 0 rfl) ?_
        obtain ⟨_, eO, h⟩ := bd h
        obtain ⟨w10, e, h⟩ := bd h
        refine fx_vV (As := [.int x1, .int v7]) (rest := []) hx hb hml hts hown hK hR hS eO (mX7_ends l D dA A e) my_X7_ends mv_X7_ends rfl ml_X7_155 rfl hl.1 rfl (Nat.le_of_ble_eq_true rfl) dX7_change_60 ⟨Nat.le_of_ble_eq_true rfl, Nat.le_of_ble_eq_true rfl⟩ ⟨Nat.le_refl _, Nat.le_refl _⟩ (fun H locs hR hS => ?_)
        refine lv_iconst (v := 1) hx hb dX7_change_63 (by decide) ?_
        obtain ⟨z11, e, h⟩ := bd h
        exact fx_zret hx hb hr hlocks (e.trans (congrArg some (pr1 h))) (pr2 h) hR hS dX7_change_64
      · have h := it c h
        exact qX7_change_b31 C   hR hS (lv_sub hl [] rfl) h
def fX7_bad_b90 (K33 : Fw → Nat → Int32 → Int32 → Option (Int32 × Fw)) (K42 : Fw → Nat → Int32 → Int32 → Int32 → Option (Int32 × Fw)) (w : Fw) (a0 : Nat) (x2 : Int32) (x3 : Int32) (x4 : Int32) : Option (Int32 × Fw) := (K42 w a0 x2 x3 (x4 + 1))
set_option maxRecDepth 100000 in
set_option maxHeartbeats 4000000 in
theorem qX7_bad_b90 {p : Program} {l : Launch} {e : Env} {s : State} {m : MethodId} {args : Array Value} {below : List Frame} {meth : Method} {c : Code} {D : va_G} {dA : Nat → ClassId} {A : Nat → Prop} (C : Cx p s m args meth c D dA RX7 cX7_bad 5 (some .boolean)) {w : Fw} {res : Int32 × Fw} {K33 : Fw → Nat → Int32 → Int32 → Option (Int32 × Fw)} {K42 : Fw → Nat → Int32 → Int32 → Int32 → Option (Int32 × Fw)} (hK33 : ∀ {w : Fw} {H : Heap} {locs : List Loc} {ls : Array Slot} {a0 : Nat} {x2 : Int32} {x3 : Int32}, Rp D dA A w H → va_S A s.heap H locs → lv_has ls 5 [(0, .ref a0), (2, .int x2), (3, .int x3)] → K33 w a0 x2 x3 = some res → W p l e (rz 5 117) s m args below meth c H locs 0 0 (MQ below (QzI D dA A res.1 res.2) args s 0 0 A) (F0 m 33 ls [])) (hK42 : ∀ {w : Fw} {H : Heap} {locs : List Loc} {ls : Array Slot} {a0 : Nat} {x2 : Int32} {x3 : Int32} {x4 : Int32}, Rp D dA A w H → va_S A s.heap H locs → lv_has ls 5 [(0, .ref a0), (2, .int x2), (3, .int x3), (4, .int x4)] → K42 w a0 x2 x3 x4 = some res → W p l e (rz 5 117) s m args below meth c H locs 0 0 (MQ below (QzI D dA A res.1 res.2) args s 0 0 A) (F0 m 42 ls [])) {H : Heap} {locs : List Loc} {ls : Array Slot} {a0 : Nat} {x2 : Int32} {x3 : Int32} {x4 : Int32} (hR : Rp D dA A w H) (hS : va_S A s.heap H locs) (hl : lv_has ls 5 [(0, .ref a0), (2, .int x2), (3, .int x3), (4, .int x4)]) (h : fX7_bad_b90 K33 K42 w a0 x2 x3 x4 = some res) : W p l e (rz 5 117) s m args below meth c H locs 0 0 (MQ below (QzI D dA A res.1 res.2) args s 0 0 A) (F0 m 90 ls []) := by
  obtain ⟨hx, hb, hr, hml, hown, hts, hK, hlocks⟩ := id C
  unfold fX7_bad_b90 at h
  refine lv_iinc (v := (x4 + 1)) (lv' := [(4, .int (x4 + 1)), (0, .ref a0), (2, .int x2), (3, .int x3)]) hx hb dX7_bad_90 hl (k := 3) rfl rfl (by decide) rfl (fun ls hl => ?_)
  refine lv_goto (tgt := 42) hx hb dX7_bad_93 (by decide) ?_
  exact hK42 hR hS (lv_sub hl [1, 2, 3, 0] rfl) h
def fX7_bad_L42 (K33 : Fw → Nat → Int32 → Int32 → Option (Int32 × Fw)) : Nat → Fw → Nat → Int32 → Int32 → Int32 → Option (Int32 × Fw)
  | 0, _, _, _, _, _ => none
  | n + 1, w, a0, x2, x3, x4 => ((gR w a0 7 0).bind fun r1 => ((lI w r1 x3).bind fun v2 => (if v2 ≤ x4 then (K33 w a0 x2 (x3 + 1)) else ((isO w a0 7).bind fun _ => ((fX7_kind w a0 x3 x4).bind fun v3 => (if v3 = 0 then ((isO w a0 7).bind fun _ => ((fX7_number w a0 x3 x4).bind fun v4 => (if ((x2 >>> (v4 &&& 31)) &&& 1) = 1 then ((gI w a0 7 7).bind fun v5 => ((pF w a0 7 7 (.int (v5 ||| ((1 : Int32) <<< (x3 &&& 31))))).bind fun w6 => (fX7_bad_b90 K33 (fX7_bad_L42 K33 n) w6 a0 x2 x3 x4))) else (fX7_bad_b90 K33 (fX7_bad_L42 K33 n) w a0 x2 x3 x4)))) else (fX7_bad_b90 K33 (fX7_bad_L42 K33 n) w a0 x2 x3 x4)))))))
set_option maxRecDepth 100000 in
set_option maxHeartbeats 4000000 in
theorem qX7_bad_L42 {p : Program} {l : Launch} {e : Env} {s : State} {m : MethodId} {args : Array Value} {below : List Frame} {meth : Method} {c : Code} {D : va_G} {dA : Nat → ClassId} {A : Nat → Prop} (C : Cx p s m args meth c D dA RX7 cX7_bad 5 (some .boolean)) {res : Int32 × Fw} {K33 : Fw → Nat → Int32 → Int32 → Option (Int32 × Fw)} (hK33 : ∀ {w : Fw} {H : Heap} {locs : List Loc} {ls : Array Slot} {a0 : Nat} {x2 : Int32} {x3 : Int32}, Rp D dA A w H → va_S A s.heap H locs → lv_has ls 5 [(0, .ref a0), (2, .int x2), (3, .int x3)] → K33 w a0 x2 x3 = some res → W p l e (rz 5 117) s m args below meth c H locs 0 0 (MQ below (QzI D dA A res.1 res.2) args s 0 0 A) (F0 m 33 ls [])) : ∀ (n : Nat) {w : Fw} {H : Heap} {locs : List Loc} {ls : Array Slot} {a0 : Nat} {x2 : Int32} {x3 : Int32} {x4 : Int32}, Rp D dA A w H → va_S A s.heap H locs → lv_has ls 5 [(0, .ref a0), (2, .int x2), (3, .int x3), (4, .int x4)] → fX7_bad_L42 K33 n w a0 x2 x3 x4 = some res → W p l e (rz 5 117) s m args below meth c H locs 0 0 (MQ below (QzI D dA A res.1 res.2) args s 0 0 A) (F0 m 42 ls []) := by
  obtain ⟨hx, hb, hr, hml, hown, hts, hK, hlocks⟩ := id C
  intro n
  induction n with
  | zero =>
    intro w H locs ls a0 x2 x3 x4 hR hS hl h
    rw [fX7_bad_L42.eq_1] at h
    cases h
  | succ n ih =>
    intro w H locs ls a0 x2 x3 x4 hR hS hl h
    rw [fX7_bad_L42.eq_2] at h
    refine lv_iload hx hb dX7_bad_42 (lv_at hl 3 rfl) ?_
    refine lv_aload_n hx hb dX7_bad_44 rfl (lv_at hl 0 rfl) ?_
    obtain ⟨r1, e, h⟩ := bd h
    refine fx_gR hx hb hts hown hK hR fl_X7_7 e dX7_bad_45 ?_
    refine lv_iload_n hx hb dX7_bad_48 rfl (lv_at hl 2 rfl) ?_
    obtain ⟨v2, e, h⟩ := bd h
    refine fx_lI hx hb hK hR e dX7_bad_49 ?_
    refine lv_icmp_ge (tgt := 96) hx hb dX7_bad_50 (by decide) (fun c => ?_) (fun c => ?_)
    · have h := it c h
      refine lv_iinc (v := (x3 + 1)) (lv' := [(3, .int (x3 + 1)), (0, .ref a0), (2, .int x2), (4, .int x4)]) hx hb dX7_bad_96 hl (k := 2) rfl rfl (by decide) rfl (fun ls hl => ?_)
      refine lv_goto (tgt := 33) hx hb dX7_bad_99 (by decide) ?_
      exact hK33 hR hS (lv_sub hl [1, 2, 0] rfl) h
    · have h := ie c h
      refine lv_aload_n hx hb dX7_bad_53 rfl (lv_at hl 0 rfl) ?_
      refine lv_iload_n hx hb dX7_bad_54 rfl (lv_at hl 2 rfl) ?_
      refine lv_iload hx hb dX7_bad_55 (lv_at hl 3 rfl) ?_
      obtain ⟨_, eO, h⟩ := bd h
      obtain ⟨v3, e, h⟩ := bd h
      refine fx_vI (As := [.int x3, .int x4]) (rest := []) hx hb hml hts hown hK hR hS eO (mX7_kind l D dA A e) my_X7_kind mv_X7_kind rfl ml_X7_84 rfl hl.1 rfl (Nat.le_of_ble_eq_true rfl) dX7_bad_57 ⟨Nat.le_of_ble_eq_true rfl, Nat.le_of_ble_eq_true rfl⟩ ⟨Nat.le_refl _, Nat.le_refl _⟩ (fun H locs hR hS => ?_)
      refine lv_if_ne (tgt := 90) hx hb dX7_bad_60 (by decide) (fun c => ?_) (fun c => ?_)
      · have h := ie c h
        exact qX7_bad_b90 C (K33 := K33) (K42 := fX7_bad_L42 K33 n) (hK33 := @hK33) (hK42 := @ih) hR hS (lv_sub hl [0, 1, 2, 3] rfl) h
      · have h := it c h
        refine lv_iload_n hx hb dX7_bad_63 rfl (lv_at hl 1 rfl) ?_
        refine lv_aload_n hx hb dX7_bad_64 rfl (lv_at hl 0 rfl) ?_
        refine lv_iload_n hx hb dX7_bad_65 rfl (lv_at hl 2 rfl) ?_
        refine lv_iload hx hb dX7_bad_66 (lv_at hl 3 rfl) ?_
        obtain ⟨_, eO, h⟩ := bd h
        obtain ⟨v4, e, h⟩ := bd h
        refine fx_vI (As := [.int x3, .int x4]) (rest := [.int x2]) hx hb hml hts hown hK hR hS eO (mX7_number l D dA A e) my_X7_number mv_X7_number rfl ml_X7_88 rfl hl.1 rfl (Nat.le_of_ble_eq_true rfl) dX7_bad_68 ⟨Nat.le_of_ble_eq_true rfl, Nat.le_of_ble_eq_true rfl⟩ ⟨Nat.le_refl _, Nat.le_refl _⟩ (fun H locs hR hS => ?_)
        refine lv_ishr hx hb dX7_bad_71 ?_
        refine lv_iconst (v := 1) hx hb dX7_bad_72 (by decide) ?_
        refine lv_iand hx hb dX7_bad_73 ?_
        refine lv_iconst (v := 1) hx hb dX7_bad_74 (by decide) ?_
        refine lv_icmp_ne (tgt := 90) hx hb dX7_bad_75 (by decide) (fun c => ?_) (fun c => ?_)
        · have h := ie c h
          exact qX7_bad_b90 C (K33 := K33) (K42 := fX7_bad_L42 K33 n) (hK33 := @hK33) (hK42 := @ih) hR hS (lv_sub hl [0, 1, 2, 3] rfl) h
        · have h := it c h
          refine lv_aload_n hx hb dX7_bad_78 rfl (lv_at hl 0 rfl) ?_
          refine lv_dup hx hb dX7_bad_79 rfl ?_
          obtain ⟨v5, e, h⟩ := bd h
          refine fx_gI hx hb hts hown hK hR fl_X7_140 e dX7_bad_80 ?_
          refine lv_iconst (v := 1) hx hb dX7_bad_83 (by decide) ?_
          refine lv_iload_n hx hb dX7_bad_84 rfl (lv_at hl 2 rfl) ?_
          refine lv_ishl hx hb dX7_bad_85 ?_
          refine lv_ior hx hb dX7_bad_86 ?_
          obtain ⟨w6, e, h⟩ := bd h
          refine fx_p hx hb hts hown hK hR hS fp_X7_140 e rfl rfl dX7_bad_87 (fun H locs hR hS => ?_)
          exact qX7_bad_b90 C (K33 := K33) (K42 := fX7_bad_L42 K33 n) (hK33 := @hK33) (hK42 := @ih) hR hS (lv_sub hl [0, 1, 2, 3] rfl) h
def fX7_bad_L33  : Nat → Fw → Nat → Int32 → Int32 → Option (Int32 × Fw)
  | 0, _, _, _, _ => none
  | n + 1, w, a0, x2, x3 => if 6 ≤ x3 then ((isO w a0 7).bind fun _ => ((fX7_finds w a0).bind fun w7 => (zb 1).bind fun z8 => some (z8, w7))) else (fX7_bad_L42 (fX7_bad_L33  n) 1000 w a0 x2 x3 0)
set_option maxRecDepth 100000 in
set_option maxHeartbeats 4000000 in
theorem qX7_bad_L33 {p : Program} {l : Launch} {e : Env} {s : State} {m : MethodId} {args : Array Value} {below : List Frame} {meth : Method} {c : Code} {D : va_G} {dA : Nat → ClassId} {A : Nat → Prop} (C : Cx p s m args meth c D dA RX7 cX7_bad 5 (some .boolean)) {res : Int32 × Fw}   : ∀ (n : Nat) {w : Fw} {H : Heap} {locs : List Loc} {ls : Array Slot} {a0 : Nat} {x2 : Int32} {x3 : Int32}, Rp D dA A w H → va_S A s.heap H locs → lv_has ls 5 [(0, .ref a0), (2, .int x2), (3, .int x3)] → fX7_bad_L33 n w a0 x2 x3 = some res → W p l e (rz 5 117) s m args below meth c H locs 0 0 (MQ below (QzI D dA A res.1 res.2) args s 0 0 A) (F0 m 33 ls []) := by
  obtain ⟨hx, hb, hr, hml, hown, hts, hK, hlocks⟩ := id C
  intro n
  induction n with
  | zero =>
    intro w H locs ls a0 x2 x3 hR hS hl h
    rw [fX7_bad_L33.eq_1] at h
    cases h
  | succ n ih =>
    intro w H locs ls a0 x2 x3 hR hS hl h
    rw [fX7_bad_L33.eq_2] at h
    refine lv_iload_n hx hb dX7_bad_33 rfl (lv_at hl 2 rfl) ?_
    refine lv_bipush (v := 6) hx hb dX7_bad_34 (by decide) ?_
    refine lv_icmp_ge (tgt := 102) hx hb dX7_bad_36 (by decide) (fun c => ?_) (fun c => ?_)
    · have h := it c h
      refine lv_aload_n hx hb dX7_bad_102 rfl (lv_at hl 0 rfl) ?_
      obtain ⟨_, eO, h⟩ := bd h
      obtain ⟨w7, e, h⟩ := bd h
      refine fx_vV (As := []) (rest := []) hx hb hml hts hown hK hR hS eO (mX7_finds l D dA A e) my_X7_finds mv_X7_finds rfl ml_X7_143 rfl hl.1 rfl (Nat.le_of_ble_eq_true rfl) dX7_bad_103 ⟨Nat.le_of_ble_eq_true rfl, Nat.le_of_ble_eq_true rfl⟩ ⟨Nat.le_refl _, Nat.le_refl _⟩ (fun H locs hR hS => ?_)
      refine lv_iconst (v := 1) hx hb dX7_bad_106 (by decide) ?_
      obtain ⟨z8, e, h⟩ := bd h
      exact fx_zret hx hb hr hlocks (e.trans (congrArg some (pr1 h))) (pr2 h) hR hS dX7_bad_107
    · have h := ie c h
      refine lv_iconst (v := 0) hx hb dX7_bad_39 (by decide) ?_
      refine lv_istore (lv' := [(4, .int 0), (0, .ref a0), (2, .int x2), (3, .int x3)]) hx hb dX7_bad_40 hl (by decide) rfl (fun ls hl => ?_)
      exact qX7_bad_L42 C (K33 := fX7_bad_L33  n) (hK33 := @ih) 1000 hR hS (lv_sub hl [1, 2, 3, 0] rfl) h
def fX7_bad (w : Fw) (a0 : Nat) (x1 : Int32) : Option (Int32 × Fw) := ((gI w a0 7 6).bind fun v9 => (if x1 = v9 then (zb 0).bind fun z14 => some (z14, w) else ((isO w a0 7).bind fun _ => ((fX7_begins w a0).bind fun w10 => ((gI w10 a0 7 6).bind fun v11 => ((pF w10 a0 7 6 (.int x1)).bind fun w12 => ((pF w12 a0 7 7 (.int 0)).bind fun w13 => (fX7_bad_L33 1000 w13 a0 (x1 ^^^ v11) 0))))))))
set_option maxRecDepth 100000 in
set_option maxHeartbeats 4000000 in
theorem mX7_bad (l : Launch) (D : va_G) (dA : Nat → ClassId) (A : Nat → Prop) {w : Fw} {a0 : Nat} {x1 : Int32} {res : Int32 × Fw} (h : fX7_bad w a0 x1 = some res) : Met l yX7_bad (wz yX7_bad cX7_bad 5 (some .boolean)) (rz 5 117) (Pz D dA A w [.ref a0, .int x1]) (QzI D dA A res.1 res.2) 0 0 A := by
  refine Met.ofW (cc := cX7_bad) (maxL := 5) (ret := (some .boolean)) (by decide) rfl ?_
  intro p e s m args below meth c s₁ B hml hv
  obtain ⟨rfl, hR, hK⟩ := hv
  have hx := B.exec
  have hb := B.bytes
  have hr := B.returns
  have hts : ∀ w ∈ lw_g, w.before [.ref a0, .int x1].toArray s = true := fun w hw => atoms_spec (ws := wz yX7_bad cX7_bad 5 (some .boolean)) B.pre w (List.mem_cons_of_mem _ hw)
  have hown : s.vm.findClass RX7 = some m.cls := findClass_of_methodNamed B.named
  have hlocks := B.notSynchronized
  have C : Cx p s m [.ref a0, .int x1].toArray meth c D dA RX7 cX7_bad 5 (some .boolean) := ⟨hx, hb, hr, hml, hown, hts, hK, hlocks⟩
  have hS : va_S A s.heap s.heap [] := va_S.rf
  have hl := lv_entry ([.ref a0, .int x1]) (n := 5) (Nat.le_of_ble_eq_true rfl)
  rw [lg_entry_eq]
  generalize (lg_sl ([.ref a0, .int x1]) ++ List.replicate (5 - (lg_sl ([.ref a0, .int x1])).length) Slot.unset).toArray = ls at hl ⊢
  have hl : lv_has ls 5 [(0, .ref a0), (1, .int x1)] := hl
  unfold fX7_bad at h
  show W p l e (rz 5 117) s m _ below meth c s.heap [] 0 0 _ _
  refine lv_iload_n hx hb dX7_bad_0 rfl (lv_at hl 1 rfl) ?_
  refine lv_aload_n hx hb dX7_bad_1 rfl (lv_at hl 0 rfl) ?_
  obtain ⟨v9, e, h⟩ := bd h
  refine fx_gI hx hb hts hown hK hR fl_X7_99 e dX7_bad_2 ?_
  refine lv_icmp_ne (tgt := 10) hx hb dX7_bad_5 (by decide) (fun c => ?_) (fun c => ?_)
  · have h := ie c h
    refine lv_aload_n hx hb dX7_bad_10 rfl (lv_at hl 0 rfl) ?_
    obtain ⟨_, eO, h⟩ := bd h
    obtain ⟨w10, e, h⟩ := bd h
    refine fx_vV (As := []) (rest := []) hx hb hml hts hown hK hR hS eO (mX7_begins l D dA A e) my_X7_begins mv_X7_begins rfl ml_X7_149 rfl hl.1 rfl (Nat.le_of_ble_eq_true rfl) dX7_bad_11 ⟨Nat.le_of_ble_eq_true rfl, Nat.le_of_ble_eq_true rfl⟩ ⟨Nat.le_refl _, Nat.le_refl _⟩ (fun H locs hR hS => ?_)
    refine lv_iload_n hx hb dX7_bad_14 rfl (lv_at hl 1 rfl) ?_
    refine lv_aload_n hx hb dX7_bad_15 rfl (lv_at hl 0 rfl) ?_
    obtain ⟨v11, e, h⟩ := bd h
    refine fx_gI hx hb hts hown hK hR fl_X7_99 e dX7_bad_16 ?_
    refine lv_ixor hx hb dX7_bad_19 ?_
    refine lv_istore_n (lv' := [(2, .int (x1 ^^^ v11)), (0, .ref a0), (1, .int x1)]) hx hb dX7_bad_20 rfl hl (by decide) rfl (fun ls hl => ?_)
    refine lv_aload_n hx hb dX7_bad_21 rfl (lv_at hl 1 rfl) ?_
    refine lv_iload_n hx hb dX7_bad_22 rfl (lv_at hl 2 rfl) ?_
    obtain ⟨w12, e, h⟩ := bd h
    refine fx_p hx hb hts hown hK hR hS fp_X7_99 e rfl rfl dX7_bad_23 (fun H locs hR hS => ?_)
    refine lv_aload_n hx hb dX7_bad_26 rfl (lv_at hl 1 rfl) ?_
    refine lv_iconst (v := 0) hx hb dX7_bad_27 (by decide) ?_
    obtain ⟨w13, e, h⟩ := bd h
    refine fx_p hx hb hts hown hK hR hS fp_X7_140 e rfl rfl dX7_bad_28 (fun H locs hR hS => ?_)
    refine lv_iconst (v := 0) hx hb dX7_bad_31 (by decide) ?_
    refine lv_istore_n (lv' := [(3, .int 0), (2, .int (x1 ^^^ v11)), (0, .ref a0), (1, .int x1)]) hx hb dX7_bad_32 rfl hl (by decide) rfl (fun ls hl => ?_)
    exact qX7_bad_L33 C   1000 hR hS (lv_sub hl [2, 1, 0] rfl) h
  · have h := it c h
    refine lv_iconst (v := 0) hx hb dX7_bad_8 (by decide) ?_
    obtain ⟨z14, e, h⟩ := bd h
    exact fx_zret hx hb hr hlocks (e.trans (congrArg some (pr1 h))) (pr2 h) hR hS dX7_bad_9
def fX7_feed_b70 (K17 : Fw → Nat → Int32 → Int32 → Int32 → Int32 → Int32 → Int32 → Option (Int32 × Fw)) (w : Fw) (a0 : Nat) (x1 : Int32) (x2 : Int32) (x3 : Int32) (x4 : Int32) (x5 : Int32) (x6 : Int32) (s0 : Int32) : Option (Int32 × Fw) := ((gR w a0 7 27).bind fun r1 => ((gI w a0 7 30).bind fun v2 => ((sI w r1 v2 ((s0 >>> ((24 - (8 * (x6 - x6 / 4 * 4))) &&& 31)) &&& 255)).bind fun w3 => ((gI w3 a0 7 30).bind fun v4 => ((pF w3 a0 7 30 (.int (v4 + 1))).bind fun w5 => (K17 w5 a0 x1 x2 x3 x4 x5 (x6 + 1)))))))
set_option maxRecDepth 100000 in
set_option maxHeartbeats 4000000 in
theorem qX7_feed_b70 {p : Program} {l : Launch} {e : Env} {s : State} {m : MethodId} {args : Array Value} {below : List Frame} {meth : Method} {c : Code} {D : va_G} {dA : Nat → ClassId} {A : Nat → Prop} (C : Cx p s m args meth c D dA RX7 cX7_feed 8 (some .int)) {w : Fw} {res : Int32 × Fw} {K17 : Fw → Nat → Int32 → Int32 → Int32 → Int32 → Int32 → Int32 → Option (Int32 × Fw)} (hK17 : ∀ {w : Fw} {H : Heap} {locs : List Loc} {ls : Array Slot} {a0 : Nat} {x1 : Int32} {x2 : Int32} {x3 : Int32} {x4 : Int32} {x5 : Int32} {x6 : Int32}, Rp D dA A w H → va_S A s.heap H locs → lv_has ls 8 [(0, .ref a0), (1, .int x1), (2, .int x2), (3, .int x3), (4, .int x4), (5, .int x5), (6, .int x6)] → K17 w a0 x1 x2 x3 x4 x5 x6 = some res → W p l e (rz 0 0) s m args below meth c H locs 0 0 (MQ below (QzI D dA A res.1 res.2) args s 0 0 A) (F0 m 17 ls [])) {H : Heap} {locs : List Loc} {ls : Array Slot} {a0 : Nat} {x1 : Int32} {x2 : Int32} {x3 : Int32} {x4 : Int32} {x5 : Int32} {x6 : Int32} {s0 : Int32} (hR : Rp D dA A w H) (hS : va_S A s.heap H locs) (hl : lv_has ls 8 [(0, .ref a0), (1, .int x1), (2, .int x2), (3, .int x3), (4, .int x4), (5, .int x5), (6, .int x6)]) (h : fX7_feed_b70 K17 w a0 x1 x2 x3 x4 x5 x6 s0 = some res) : W p l e (rz 0 0) s m args below meth c H locs 0 0 (MQ below (QzI D dA A res.1 res.2) args s 0 0 A) (F0 m 70 ls [.int s0]) := by
  obtain ⟨hx, hb, hr, hml, hown, hts, hK, hlocks⟩ := id C
  unfold fX7_feed_b70 at h
  refine lv_istore (lv' := [(7, .int s0), (0, .ref a0), (1, .int x1), (2, .int x2), (3, .int x3), (4, .int x4), (5, .int x5), (6, .int x6)]) hx hb dX7_feed_70 hl (by decide) rfl (fun ls hl => ?_)
  refine lv_aload_n hx hb dX7_feed_72 rfl (lv_at hl 1 rfl) ?_
  obtain ⟨r1, e, h⟩ := bd h
  refine fx_gR hx hb hts hown hK hR fl_X7_67 e dX7_feed_73 ?_
  refine lv_aload_n hx hb dX7_feed_76 rfl (lv_at hl 1 rfl) ?_
  obtain ⟨v2, e, h⟩ := bd h
  refine fx_gI hx hb hts hown hK hR fl_X7_162 e dX7_feed_77 ?_
  refine lv_iload hx hb dX7_feed_80 (lv_at hl 0 rfl) ?_
  refine lv_bipush (v := 24) hx hb dX7_feed_82 (by decide) ?_
  refine lv_bipush (v := 8) hx hb dX7_feed_84 (by decide) ?_
  refine lv_iload hx hb dX7_feed_86 (lv_at hl 7 rfl) ?_
  refine lv_iconst (v := 4) hx hb dX7_feed_88 (by decide) ?_
  refine lv_irem hx hb dX7_feed_89 (by decide) ?_
  refine lv_imul hx hb dX7_feed_90 ?_
  refine lv_isub hx hb dX7_feed_91 ?_
  refine lv_ishr hx hb dX7_feed_92 ?_
  refine lv_sipush (v := 255) hx hb dX7_feed_93 (by decide) ?_
  refine lv_iand hx hb dX7_feed_96 ?_
  obtain ⟨w3, e, h⟩ := bd h
  refine fx_sI hx hb hK hR hS e dX7_feed_97 (fun H locs hR hS => ?_)
  refine lv_aload_n hx hb dX7_feed_98 rfl (lv_at hl 1 rfl) ?_
  refine lv_dup hx hb dX7_feed_99 rfl ?_
  obtain ⟨v4, e, h⟩ := bd h
  refine fx_gI hx hb hts hown hK hR fl_X7_162 e dX7_feed_100 ?_
  refine lv_iconst (v := 1) hx hb dX7_feed_103 (by decide) ?_
  refine lv_iadd hx hb dX7_feed_104 ?_
  obtain ⟨w5, e, h⟩ := bd h
  refine fx_p hx hb hts hown hK hR hS fp_X7_162 e rfl rfl dX7_feed_105 (fun H locs hR hS => ?_)
  refine lv_iinc (v := (x6 + 1)) (lv' := [(6, .int (x6 + 1)), (7, .int s0), (0, .ref a0), (1, .int x1), (2, .int x2), (3, .int x3), (4, .int x4), (5, .int x5)]) hx hb dX7_feed_108 hl (k := 7) rfl rfl (by decide) rfl (fun ls hl => ?_)
  refine lv_goto (tgt := 17) hx hb dX7_feed_111 (by decide) ?_
  exact hK17 hR hS (lv_sub hl [2, 3, 4, 5, 6, 7, 0] rfl) h
def fX7_feed_L17  : Nat → Fw → Nat → Int32 → Int32 → Int32 → Int32 → Int32 → Int32 → Option (Int32 × Fw)
  | 0, _, _, _, _, _, _, _, _ => none
  | n + 1, w, a0, x1, x2, x3, x4, x5, x6 => if 20 ≤ x6 then ((gI w a0 7 30).bind fun v6 => some (v6, w)) else if 4 ≤ x6 then if 8 ≤ x6 then if 12 ≤ x6 then if 16 ≤ x6 then (fX7_feed_b70 (fX7_feed_L17  n) w a0 x1 x2 x3 x4 x5 x6 x5) else (fX7_feed_b70 (fX7_feed_L17  n) w a0 x1 x2 x3 x4 x5 x6 x4) else (fX7_feed_b70 (fX7_feed_L17  n) w a0 x1 x2 x3 x4 x5 x6 x3) else (fX7_feed_b70 (fX7_feed_L17  n) w a0 x1 x2 x3 x4 x5 x6 x2) else (fX7_feed_b70 (fX7_feed_L17  n) w a0 x1 x2 x3 x4 x5 x6 x1)
set_option maxRecDepth 100000 in
set_option maxHeartbeats 4000000 in
theorem qX7_feed_L17 {p : Program} {l : Launch} {e : Env} {s : State} {m : MethodId} {args : Array Value} {below : List Frame} {meth : Method} {c : Code} {D : va_G} {dA : Nat → ClassId} {A : Nat → Prop} (C : Cx p s m args meth c D dA RX7 cX7_feed 8 (some .int)) {res : Int32 × Fw}   : ∀ (n : Nat) {w : Fw} {H : Heap} {locs : List Loc} {ls : Array Slot} {a0 : Nat} {x1 : Int32} {x2 : Int32} {x3 : Int32} {x4 : Int32} {x5 : Int32} {x6 : Int32}, Rp D dA A w H → va_S A s.heap H locs → lv_has ls 8 [(0, .ref a0), (1, .int x1), (2, .int x2), (3, .int x3), (4, .int x4), (5, .int x5), (6, .int x6)] → fX7_feed_L17 n w a0 x1 x2 x3 x4 x5 x6 = some res → W p l e (rz 0 0) s m args below meth c H locs 0 0 (MQ below (QzI D dA A res.1 res.2) args s 0 0 A) (F0 m 17 ls []) := by
  obtain ⟨hx, hb, hr, hml, hown, hts, hK, hlocks⟩ := id C
  intro n
  induction n with
  | zero =>
    intro w H locs ls a0 x1 x2 x3 x4 x5 x6 hR hS hl h
    rw [fX7_feed_L17.eq_1] at h
    cases h
  | succ n ih =>
    intro w H locs ls a0 x1 x2 x3 x4 x5 x6 hR hS hl h
    rw [fX7_feed_L17.eq_2] at h
    refine lv_iload hx hb dX7_feed_17 (lv_at hl 6 rfl) ?_
    refine lv_bipush (v := 20) hx hb dX7_feed_19 (by decide) ?_
    refine lv_icmp_ge (tgt := 114) hx hb dX7_feed_21 (by decide) (fun c => ?_) (fun c => ?_)
    · have h := it c h
      refine lv_aload_n hx hb dX7_feed_114 rfl (lv_at hl 0 rfl) ?_
      obtain ⟨v6, e, h⟩ := bd h
      refine fx_gI hx hb hts hown hK hR fl_X7_162 e dX7_feed_115 ?_
      exact fx_iret hx hb hr hlocks (pr1 h) (pr2 h) hR hS dX7_feed_118
    · have h := ie c h
      refine lv_iload hx hb dX7_feed_24 (lv_at hl 6 rfl) ?_
      refine lv_iconst (v := 4) hx hb dX7_feed_26 (by decide) ?_
      refine lv_icmp_ge (tgt := 34) hx hb dX7_feed_27 (by decide) (fun c => ?_) (fun c => ?_)
      · have h := it c h
        refine lv_iload hx hb dX7_feed_34 (lv_at hl 6 rfl) ?_
        refine lv_bipush (v := 8) hx hb dX7_feed_36 (by decide) ?_
        refine lv_icmp_ge (tgt := 45) hx hb dX7_feed_38 (by decide) (fun c => ?_) (fun c => ?_)
        · have h := it c h
          refine lv_iload hx hb dX7_feed_45 (lv_at hl 6 rfl) ?_
          refine lv_bipush (v := 12) hx hb dX7_feed_47 (by decide) ?_
          refine lv_icmp_ge (tgt := 56) hx hb dX7_feed_49 (by decide) (fun c => ?_) (fun c => ?_)
          · have h := it c h
            refine lv_iload hx hb dX7_feed_56 (lv_at hl 6 rfl) ?_
            refine lv_bipush (v := 16) hx hb dX7_feed_58 (by decide) ?_
            refine lv_icmp_ge (tgt := 68) hx hb dX7_feed_60 (by decide) (fun c => ?_) (fun c => ?_)
            · have h := it c h
              refine lv_iload hx hb dX7_feed_68 (lv_at hl 5 rfl) ?_
              exact qX7_feed_b70 C (K17 := fX7_feed_L17  n) (hK17 := @ih) hR hS (lv_sub hl [0, 1, 2, 3, 4, 5, 6] rfl) h
            · have h := ie c h
              refine lv_iload hx hb dX7_feed_63 (lv_at hl 4 rfl) ?_
              refine lv_goto (tgt := 70) hx hb dX7_feed_65 (by decide) ?_
              exact qX7_feed_b70 C (K17 := fX7_feed_L17  n) (hK17 := @ih) hR hS (lv_sub hl [0, 1, 2, 3, 4, 5, 6] rfl) h
          · have h := ie c h
            refine lv_iload_n hx hb dX7_feed_52 rfl (lv_at hl 3 rfl) ?_
            refine lv_goto (tgt := 70) hx hb dX7_feed_53 (by decide) ?_
            exact qX7_feed_b70 C (K17 := fX7_feed_L17  n) (hK17 := @ih) hR hS (lv_sub hl [0, 1, 2, 3, 4, 5, 6] rfl) h
        · have h := ie c h
          refine lv_iload_n hx hb dX7_feed_41 rfl (lv_at hl 2 rfl) ?_
          refine lv_goto (tgt := 70) hx hb dX7_feed_42 (by decide) ?_
          exact qX7_feed_b70 C (K17 := fX7_feed_L17  n) (hK17 := @ih) hR hS (lv_sub hl [0, 1, 2, 3, 4, 5, 6] rfl) h
      · have h := ie c h
        refine lv_iload_n hx hb dX7_feed_30 rfl (lv_at hl 1 rfl) ?_
        refine lv_goto (tgt := 70) hx hb dX7_feed_31 (by decide) ?_
        exact qX7_feed_b70 C (K17 := fX7_feed_L17  n) (hK17 := @ih) hR hS (lv_sub hl [0, 1, 2, 3, 4, 5, 6] rfl) h
def fX7_feed (w : Fw) (a0 : Nat) (x1 : Int32) (x2 : Int32) (x3 : Int32) (x4 : Int32) (x5 : Int32) : Option (Int32 × Fw) := ((gI w a0 7 30).bind fun v7 => (if (v7 + 20) ≤ 40 then (fX7_feed_L17 1000 w a0 x1 x2 x3 x4 x5 0) else some ((-1), w)))
set_option maxRecDepth 100000 in
set_option maxHeartbeats 4000000 in
theorem mX7_feed (l : Launch) (D : va_G) (dA : Nat → ClassId) (A : Nat → Prop) {w : Fw} {a0 : Nat} {x1 : Int32} {x2 : Int32} {x3 : Int32} {x4 : Int32} {x5 : Int32} {res : Int32 × Fw} (h : fX7_feed w a0 x1 x2 x3 x4 x5 = some res) : Met l yX7_feed (wz yX7_feed cX7_feed 8 (some .int)) (rz 0 0) (Pz D dA A w [.ref a0, .int x1, .int x2, .int x3, .int x4, .int x5]) (QzI D dA A res.1 res.2) 0 0 A := by
  refine Met.ofW (cc := cX7_feed) (maxL := 8) (ret := (some .int)) (by decide) rfl ?_
  intro p e s m args below meth c s₁ B hml hv
  obtain ⟨rfl, hR, hK⟩ := hv
  have hx := B.exec
  have hb := B.bytes
  have hr := B.returns
  have hts : ∀ w ∈ lw_g, w.before [.ref a0, .int x1, .int x2, .int x3, .int x4, .int x5].toArray s = true := fun w hw => atoms_spec (ws := wz yX7_feed cX7_feed 8 (some .int)) B.pre w (List.mem_cons_of_mem _ hw)
  have hown : s.vm.findClass RX7 = some m.cls := findClass_of_methodNamed B.named
  have hlocks := B.notSynchronized
  have C : Cx p s m [.ref a0, .int x1, .int x2, .int x3, .int x4, .int x5].toArray meth c D dA RX7 cX7_feed 8 (some .int) := ⟨hx, hb, hr, hml, hown, hts, hK, hlocks⟩
  have hS : va_S A s.heap s.heap [] := va_S.rf
  have hl := lv_entry ([.ref a0, .int x1, .int x2, .int x3, .int x4, .int x5]) (n := 8) (Nat.le_of_ble_eq_true rfl)
  rw [lg_entry_eq]
  generalize (lg_sl ([.ref a0, .int x1, .int x2, .int x3, .int x4, .int x5]) ++ List.replicate (8 - (lg_sl ([.ref a0, .int x1, .int x2, .int x3, .int x4, .int x5])).length) Slot.unset).toArray = ls at hl ⊢
  have hl : lv_has ls 8 [(0, .ref a0), (1, .int x1), (2, .int x2), (3, .int x3), (4, .int x4), (5, .int x5)] := hl
  unfold fX7_feed at h
  show W p l e (rz 0 0) s m _ below meth c s.heap [] 0 0 _ _
  refine lv_aload_n hx hb dX7_feed_0 rfl (lv_at hl 0 rfl) ?_
  obtain ⟨v7, e, h⟩ := bd h
  refine fx_gI hx hb hts hown hK hR fl_X7_162 e dX7_feed_1 ?_
  refine lv_bipush (v := 20) hx hb dX7_feed_4 (by decide) ?_
  refine lv_iadd hx hb dX7_feed_6 ?_
  refine lv_bipush (v := 40) hx hb dX7_feed_7 (by decide) ?_
  refine lv_icmp_le (tgt := 14) hx hb dX7_feed_9 (by decide) (fun c => ?_) (fun c => ?_)
  · have h := it c h
    refine lv_iconst (v := 0) hx hb dX7_feed_14 (by decide) ?_
    refine lv_istore (lv' := [(6, .int 0), (0, .ref a0), (1, .int x1), (2, .int x2), (3, .int x3), (4, .int x4), (5, .int x5)]) hx hb dX7_feed_15 hl (by decide) rfl (fun ls hl => ?_)
    exact qX7_feed_L17 C   1000 hR hS (lv_sub hl [1, 2, 3, 4, 5, 6, 0] rfl) h
  · have h := ie c h
    refine lv_iconst (v := (-1)) hx hb dX7_feed_12 (by decide) ?_
    exact fx_iret hx hb hr hlocks (pr1 h) (pr2 h) hR hS dX7_feed_13
def fX7_end (w : Fw) (a0 : Nat) (x1 : Int32) : Option (Int32 × Fw) := ((gI w a0 7 30).bind fun v1 => ((fX7_isIn w x1 0 v1).bind fun v2 => (if v2 = 0 then (zb 0).bind fun z5 => some (z5, w) else ((pF w a0 7 30 (.int x1)).bind fun w3 => (zb 1).bind fun z4 => some (z4, w3)))))
set_option maxRecDepth 100000 in
set_option maxHeartbeats 4000000 in
theorem mX7_end (l : Launch) (D : va_G) (dA : Nat → ClassId) (A : Nat → Prop) {w : Fw} {a0 : Nat} {x1 : Int32} {res : Int32 × Fw} (h : fX7_end w a0 x1 = some res) : Met l yX7_end (wz yX7_end cX7_end 2 (some .boolean)) (rz 1 22) (Pz D dA A w [.ref a0, .int x1]) (QzI D dA A res.1 res.2) 0 0 A := by
  refine Met.ofW (cc := cX7_end) (maxL := 2) (ret := (some .boolean)) (by decide) rfl ?_
  intro p e s m args below meth c s₁ B hml hv
  obtain ⟨rfl, hR, hK⟩ := hv
  have hx := B.exec
  have hb := B.bytes
  have hr := B.returns
  have hts : ∀ w ∈ lw_g, w.before [.ref a0, .int x1].toArray s = true := fun w hw => atoms_spec (ws := wz yX7_end cX7_end 2 (some .boolean)) B.pre w (List.mem_cons_of_mem _ hw)
  have hown : s.vm.findClass RX7 = some m.cls := findClass_of_methodNamed B.named
  have hlocks := B.notSynchronized
  have C : Cx p s m [.ref a0, .int x1].toArray meth c D dA RX7 cX7_end 2 (some .boolean) := ⟨hx, hb, hr, hml, hown, hts, hK, hlocks⟩
  have hS : va_S A s.heap s.heap [] := va_S.rf
  have hl := lv_entry ([.ref a0, .int x1]) (n := 2) (Nat.le_of_ble_eq_true rfl)
  rw [lg_entry_eq]
  generalize (lg_sl ([.ref a0, .int x1]) ++ List.replicate (2 - (lg_sl ([.ref a0, .int x1])).length) Slot.unset).toArray = ls at hl ⊢
  have hl : lv_has ls 2 [(0, .ref a0), (1, .int x1)] := hl
  unfold fX7_end at h
  show W p l e (rz 1 22) s m _ below meth c s.heap [] 0 0 _ _
  refine lv_iload_n hx hb dX7_end_0 rfl (lv_at hl 1 rfl) ?_
  refine lv_iconst (v := 0) hx hb dX7_end_1 (by decide) ?_
  refine lv_aload_n hx hb dX7_end_2 rfl (lv_at hl 0 rfl) ?_
  obtain ⟨v1, e, h⟩ := bd h
  refine fx_gI hx hb hts hown hK hR fl_X7_162 e dX7_end_3 ?_
  obtain ⟨v2, e, h⟩ := bd h
  refine fx_sI' (As := [.int x1, .int 0, .int v1]) (rest := []) hx hb hml hts hown hK hR hS (mX7_isIn l D dA A e) my_X7_isIn ms_X7_isIn ml_X7_76 rfl hl.1 rfl (Nat.le_of_ble_eq_true rfl) dX7_end_6 ⟨Nat.le_of_ble_eq_true rfl, Nat.le_of_ble_eq_true rfl⟩ ⟨Nat.le_refl _, Nat.le_refl _⟩ (fun H locs hR hS => ?_)
  refine lv_if_ne (tgt := 14) hx hb dX7_end_9 (by decide) (fun c => ?_) (fun c => ?_)
  · have h := ie c h
    refine lv_aload_n hx hb dX7_end_14 rfl (lv_at hl 0 rfl) ?_
    refine lv_iload_n hx hb dX7_end_15 rfl (lv_at hl 1 rfl) ?_
    obtain ⟨w3, e, h⟩ := bd h
    refine fx_p hx hb hts hown hK hR hS fp_X7_162 e rfl rfl dX7_end_16 (fun H locs hR hS => ?_)
    refine lv_iconst (v := 1) hx hb dX7_end_19 (by decide) ?_
    obtain ⟨z4, e, h⟩ := bd h
    exact fx_zret hx hb hr hlocks (e.trans (congrArg some (pr1 h))) (pr2 h) hR hS dX7_end_20
  · have h := it c h
    refine lv_iconst (v := 0) hx hb dX7_end_12 (by decide) ?_
    obtain ⟨z5, e, h⟩ := bd h
    exact fx_zret hx hb hr hlocks (e.trans (congrArg some (pr1 h))) (pr2 h) hR hS dX7_end_13
def fX7_commons_b117 (K7 : Fw → Nat → Int32 → Int32 → Int32 → Option (Fw)) (K14 : Fw → Nat → Int32 → Int32 → Int32 → Int32 → Option (Fw)) (w : Fw) (a0 : Nat) (x1 : Int32) (x2 : Int32) (x3 : Int32) (x4 : Int32) (x5 : Int32) : Option (Fw) := ((gR w a0 7 28).bind fun r1 => ((sI w r1 ((33 * x3) + x4) x5).bind fun w2 => (K14 w2 a0 x1 x2 x3 (x4 + (-1)))))
set_option maxRecDepth 100000 in
set_option maxHeartbeats 4000000 in
theorem qX7_commons_b117 {p : Program} {l : Launch} {e : Env} {s : State} {m : MethodId} {args : Array Value} {below : List Frame} {meth : Method} {c : Code} {D : va_G} {dA : Nat → ClassId} {A : Nat → Prop} (C : Cx p s m args meth c D dA RX7 cX7_commons 6 none) {w : Fw} {res : Fw} {K7 : Fw → Nat → Int32 → Int32 → Int32 → Option (Fw)} {K14 : Fw → Nat → Int32 → Int32 → Int32 → Int32 → Option (Fw)} (hK7 : ∀ {w : Fw} {H : Heap} {locs : List Loc} {ls : Array Slot} {a0 : Nat} {x1 : Int32} {x2 : Int32} {x3 : Int32}, Rp D dA A w H → va_S A s.heap H locs → lv_has ls 6 [(0, .ref a0), (1, .int x1), (2, .int x2), (3, .int x3)] → K7 w a0 x1 x2 x3 = some res → W p l e (rz 1 21) s m args below meth c H locs 0 0 (MQ below (QzV D dA A res) args s 0 0 A) (F0 m 7 ls [])) (hK14 : ∀ {w : Fw} {H : Heap} {locs : List Loc} {ls : Array Slot} {a0 : Nat} {x1 : Int32} {x2 : Int32} {x3 : Int32} {x4 : Int32}, Rp D dA A w H → va_S A s.heap H locs → lv_has ls 6 [(0, .ref a0), (1, .int x1), (2, .int x2), (3, .int x3), (4, .int x4)] → K14 w a0 x1 x2 x3 x4 = some res → W p l e (rz 1 21) s m args below meth c H locs 0 0 (MQ below (QzV D dA A res) args s 0 0 A) (F0 m 14 ls [])) {H : Heap} {locs : List Loc} {ls : Array Slot} {a0 : Nat} {x1 : Int32} {x2 : Int32} {x3 : Int32} {x4 : Int32} {x5 : Int32} (hR : Rp D dA A w H) (hS : va_S A s.heap H locs) (hl : lv_has ls 6 [(0, .ref a0), (1, .int x1), (2, .int x2), (3, .int x3), (4, .int x4), (5, .int x5)]) (h : fX7_commons_b117 K7 K14 w a0 x1 x2 x3 x4 x5 = some res) : W p l e (rz 1 21) s m args below meth c H locs 0 0 (MQ below (QzV D dA A res) args s 0 0 A) (F0 m 117 ls []) := by
  obtain ⟨hx, hb, hr, hml, hown, hts, hK, hlocks⟩ := id C
  unfold fX7_commons_b117 at h
  refine lv_aload_n hx hb dX7_commons_117 rfl (lv_at hl 0 rfl) ?_
  obtain ⟨r1, e, h⟩ := bd h
  refine fx_gR hx hb hts hown hK hR fl_X7_70 e dX7_commons_118 ?_
  refine lv_bipush (v := 33) hx hb dX7_commons_121 (by decide) ?_
  refine lv_iload_n hx hb dX7_commons_123 rfl (lv_at hl 3 rfl) ?_
  refine lv_imul hx hb dX7_commons_124 ?_
  refine lv_iload hx hb dX7_commons_125 (lv_at hl 4 rfl) ?_
  refine lv_iadd hx hb dX7_commons_127 ?_
  refine lv_iload hx hb dX7_commons_128 (lv_at hl 5 rfl) ?_
  obtain ⟨w2, e, h⟩ := bd h
  refine fx_sI hx hb hK hR hS e dX7_commons_130 (fun H locs hR hS => ?_)
  refine lv_iinc (v := (x4 + (-1))) (lv' := [(4, .int (x4 + (-1))), (0, .ref a0), (1, .int x1), (2, .int x2), (3, .int x3), (5, .int x5)]) hx hb dX7_commons_131 hl (k := 4) rfl rfl (by decide) rfl (fun ls hl => ?_)
  refine lv_goto (tgt := 14) hx hb dX7_commons_134 (by decide) ?_
  exact hK14 hR hS (lv_sub hl [1, 2, 3, 4, 0] rfl) h
def fX7_commons_L14 (K7 : Fw → Nat → Int32 → Int32 → Int32 → Option (Fw)) : Nat → Fw → Nat → Int32 → Int32 → Int32 → Int32 → Option (Fw)
  | 0, _, _, _, _, _, _ => none
  | n + 1, w, a0, x1, x2, x3, x4 => if x4 < 0 then (K7 w a0 x1 x2 (x3 + (-1))) else ((gR w a0 7 0).bind fun r3 => ((lI w r3 x1).bind fun v4 => (if v4 ≤ x3 then (fX7_commons_b117 K7 (fX7_commons_L14 K7 n) w a0 x1 x2 x3 x4 0) else if x2 ≤ x4 then (fX7_commons_b117 K7 (fX7_commons_L14 K7 n) w a0 x1 x2 x3 x4 0) else ((gR w a0 7 28).bind fun r5 => ((lI w r5 ((33 * (x3 + 1)) + x4)).bind fun v6 => ((gR w a0 7 28).bind fun r7 => ((lI w r7 (((33 * x3) + x4) + 1)).bind fun v8 => ((gR w a0 7 1).bind fun r9 => ((lI w r9 ((32 * x1) + x3)).bind fun v10 => ((gR w a0 7 27).bind fun r11 => ((lI w r11 x4).bind fun v12 => (if v10 = v12 then ((gR w a0 7 28).bind fun r13 => ((lI w r13 (((33 * (x3 + 1)) + x4) + 1)).bind fun v14 => (fX7_commons_b117 K7 (fX7_commons_L14 K7 n) w a0 x1 x2 x3 x4 (if (if v6 < v8 then v8 else v6) < (1 + v14) then (1 + v14) else (if v6 < v8 then v8 else v6))))) else (fX7_commons_b117 K7 (fX7_commons_L14 K7 n) w a0 x1 x2 x3 x4 (if v6 < v8 then v8 else v6))))))))))))))
set_option maxRecDepth 100000 in
set_option maxHeartbeats 4000000 in
theorem qX7_commons_L14 {p : Program} {l : Launch} {e : Env} {s : State} {m : MethodId} {args : Array Value} {below : List Frame} {meth : Method} {c : Code} {D : va_G} {dA : Nat → ClassId} {A : Nat → Prop} (C : Cx p s m args meth c D dA RX7 cX7_commons 6 none) {res : Fw} {K7 : Fw → Nat → Int32 → Int32 → Int32 → Option (Fw)} (hK7 : ∀ {w : Fw} {H : Heap} {locs : List Loc} {ls : Array Slot} {a0 : Nat} {x1 : Int32} {x2 : Int32} {x3 : Int32}, Rp D dA A w H → va_S A s.heap H locs → lv_has ls 6 [(0, .ref a0), (1, .int x1), (2, .int x2), (3, .int x3)] → K7 w a0 x1 x2 x3 = some res → W p l e (rz 1 21) s m args below meth c H locs 0 0 (MQ below (QzV D dA A res) args s 0 0 A) (F0 m 7 ls [])) : ∀ (n : Nat) {w : Fw} {H : Heap} {locs : List Loc} {ls : Array Slot} {a0 : Nat} {x1 : Int32} {x2 : Int32} {x3 : Int32} {x4 : Int32}, Rp D dA A w H → va_S A s.heap H locs → lv_has ls 6 [(0, .ref a0), (1, .int x1), (2, .int x2), (3, .int x3), (4, .int x4)] → fX7_commons_L14 K7 n w a0 x1 x2 x3 x4 = some res → W p l e (rz 1 21) s m args below meth c H locs 0 0 (MQ below (QzV D dA A res) args s 0 0 A) (F0 m 14 ls []) := by
  obtain ⟨hx, hb, hr, hml, hown, hts, hK, hlocks⟩ := id C
  intro n
  induction n with
  | zero =>
    intro w H locs ls a0 x1 x2 x3 x4 hR hS hl h
    rw [fX7_commons_L14.eq_1] at h
    cases h
  | succ n ih =>
    intro w H locs ls a0 x1 x2 x3 x4 hR hS hl h
    rw [fX7_commons_L14.eq_2] at h
    refine lv_iload hx hb dX7_commons_14 (lv_at hl 4 rfl) ?_
    refine lv_if_lt (tgt := 137) hx hb dX7_commons_16 (by decide) (fun c => ?_) (fun c => ?_)
    · have h := it c h
      refine lv_iinc (v := (x3 + (-1))) (lv' := [(3, .int (x3 + (-1))), (0, .ref a0), (1, .int x1), (2, .int x2), (4, .int x4)]) hx hb dX7_commons_137 hl (k := 3) rfl rfl (by decide) rfl (fun ls hl => ?_)
      refine lv_goto (tgt := 7) hx hb dX7_commons_140 (by decide) ?_
      exact hK7 hR hS (lv_sub hl [1, 2, 3, 0] rfl) h
    · have h := ie c h
      refine lv_iconst (v := 0) hx hb dX7_commons_19 (by decide) ?_
      refine lv_istore (lv' := [(5, .int 0), (0, .ref a0), (1, .int x1), (2, .int x2), (3, .int x3), (4, .int x4)]) hx hb dX7_commons_20 hl (by decide) rfl (fun ls hl => ?_)
      refine lv_iload_n hx hb dX7_commons_22 rfl (lv_at hl 4 rfl) ?_
      refine lv_aload_n hx hb dX7_commons_23 rfl (lv_at hl 1 rfl) ?_
      obtain ⟨r3, e, h⟩ := bd h
      refine fx_gR hx hb hts hown hK hR fl_X7_7 e dX7_commons_24 ?_
      refine lv_iload_n hx hb dX7_commons_27 rfl (lv_at hl 2 rfl) ?_
      obtain ⟨v4, e, h⟩ := bd h
      refine fx_lI hx hb hK hR e dX7_commons_28 ?_
      refine lv_icmp_ge (tgt := 117) hx hb dX7_commons_29 (by decide) (fun c => ?_) (fun c => ?_)
      · have h := it c h
        exact qX7_commons_b117 C (K7 := K7) (K14 := fX7_commons_L14 K7 n) (hK7 := @hK7) (hK14 := @ih) hR hS (lv_sub hl [1, 2, 3, 4, 5, 0] rfl) h
      · have h := ie c h
        refine lv_iload hx hb dX7_commons_32 (lv_at hl 5 rfl) ?_
        refine lv_iload_n hx hb dX7_commons_34 rfl (lv_at hl 3 rfl) ?_
        refine lv_icmp_ge (tgt := 117) hx hb dX7_commons_35 (by decide) (fun c => ?_) (fun c => ?_)
        · have h := it c h
          exact qX7_commons_b117 C (K7 := K7) (K14 := fX7_commons_L14 K7 n) (hK7 := @hK7) (hK14 := @ih) hR hS (lv_sub hl [1, 2, 3, 4, 5, 0] rfl) h
        · have h := ie c h
          refine lv_aload_n hx hb dX7_commons_38 rfl (lv_at hl 1 rfl) ?_
          obtain ⟨r5, e, h⟩ := bd h
          refine fx_gR hx hb hts hown hK hR fl_X7_70 e dX7_commons_39 ?_
          refine lv_bipush (v := 33) hx hb dX7_commons_42 (by decide) ?_
          refine lv_iload_n hx hb dX7_commons_44 rfl (lv_at hl 4 rfl) ?_
          refine lv_iconst (v := 1) hx hb dX7_commons_45 (by decide) ?_
          refine lv_iadd hx hb dX7_commons_46 ?_
          refine lv_imul hx hb dX7_commons_47 ?_
          refine lv_iload hx hb dX7_commons_48 (lv_at hl 5 rfl) ?_
          refine lv_iadd hx hb dX7_commons_50 ?_
          obtain ⟨v6, e, h⟩ := bd h
          refine fx_lI hx hb hK hR e dX7_commons_51 ?_
          refine lv_aload_n hx hb dX7_commons_52 rfl (lv_at hl 1 rfl) ?_
          obtain ⟨r7, e, h⟩ := bd h
          refine fx_gR hx hb hts hown hK hR fl_X7_70 e dX7_commons_53 ?_
          refine lv_bipush (v := 33) hx hb dX7_commons_56 (by decide) ?_
          refine lv_iload_n hx hb dX7_commons_58 rfl (lv_at hl 4 rfl) ?_
          refine lv_imul hx hb dX7_commons_59 ?_
          refine lv_iload hx hb dX7_commons_60 (lv_at hl 5 rfl) ?_
          refine lv_iadd hx hb dX7_commons_62 ?_
          refine lv_iconst (v := 1) hx hb dX7_commons_63 (by decide) ?_
          refine lv_iadd hx hb dX7_commons_64 ?_
          obtain ⟨v8, e, h⟩ := bd h
          refine fx_lI hx hb hK hR e dX7_commons_65 ?_
          refine va_mmax hx hb (by rw [hml]; exact hl.1.symm) hown (hts _ ml_X7_165) (hts _ ms_max) (hts _ mi_Math) (hts _ mc_max) (Nat.le_of_ble_eq_true rfl) (Nat.le_of_ble_eq_true rfl) (Nat.le_refl _) (Nat.le_refl _) dX7_commons_66 ?_
          refine lv_istore (lv' := [(5, .int (if v6 < v8 then v8 else v6)), (0, .ref a0), (1, .int x1), (2, .int x2), (3, .int x3), (4, .int x4)]) hx hb dX7_commons_69 hl (by decide) rfl (fun ls hl => ?_)
          refine lv_aload_n hx hb dX7_commons_71 rfl (lv_at hl 1 rfl) ?_
          obtain ⟨r9, e, h⟩ := bd h
          refine fx_gR hx hb hts hown hK hR fl_X7_13 e dX7_commons_72 ?_
          refine lv_bipush (v := 32) hx hb dX7_commons_75 (by decide) ?_
          refine lv_iload_n hx hb dX7_commons_77 rfl (lv_at hl 2 rfl) ?_
          refine lv_imul hx hb dX7_commons_78 ?_
          refine lv_iload_n hx hb dX7_commons_79 rfl (lv_at hl 4 rfl) ?_
          refine lv_iadd hx hb dX7_commons_80 ?_
          obtain ⟨v10, e, h⟩ := bd h
          refine fx_lI hx hb hK hR e dX7_commons_81 ?_
          refine lv_aload_n hx hb dX7_commons_82 rfl (lv_at hl 1 rfl) ?_
          obtain ⟨r11, e, h⟩ := bd h
          refine fx_gR hx hb hts hown hK hR fl_X7_67 e dX7_commons_83 ?_
          refine lv_iload hx hb dX7_commons_86 (lv_at hl 5 rfl) ?_
          obtain ⟨v12, e, h⟩ := bd h
          refine fx_lI hx hb hK hR e dX7_commons_88 ?_
          refine lv_icmp_ne (tgt := 117) hx hb dX7_commons_89 (by decide) (fun c => ?_) (fun c => ?_)
          · have h := ie c h
            exact qX7_commons_b117 C (K7 := K7) (K14 := fX7_commons_L14 K7 n) (hK7 := @hK7) (hK14 := @ih) hR hS (lv_sub hl [1, 2, 3, 4, 5, 0] rfl) h
          · have h := it c h
            refine lv_iload hx hb dX7_commons_92 (lv_at hl 0 rfl) ?_
            refine lv_iconst (v := 1) hx hb dX7_commons_94 (by decide) ?_
            refine lv_aload_n hx hb dX7_commons_95 rfl (lv_at hl 1 rfl) ?_
            obtain ⟨r13, e, h⟩ := bd h
            refine fx_gR hx hb hts hown hK hR fl_X7_70 e dX7_commons_96 ?_
            refine lv_bipush (v := 33) hx hb dX7_commons_99 (by decide) ?_
            refine lv_iload_n hx hb dX7_commons_101 rfl (lv_at hl 4 rfl) ?_
            refine lv_iconst (v := 1) hx hb dX7_commons_102 (by decide) ?_
            refine lv_iadd hx hb dX7_commons_103 ?_
            refine lv_imul hx hb dX7_commons_104 ?_
            refine lv_iload hx hb dX7_commons_105 (lv_at hl 5 rfl) ?_
            refine lv_iadd hx hb dX7_commons_107 ?_
            refine lv_iconst (v := 1) hx hb dX7_commons_108 (by decide) ?_
            refine lv_iadd hx hb dX7_commons_109 ?_
            obtain ⟨v14, e, h⟩ := bd h
            refine fx_lI hx hb hK hR e dX7_commons_110 ?_
            refine lv_iadd hx hb dX7_commons_111 ?_
            refine va_mmax hx hb (by rw [hml]; exact hl.1.symm) hown (hts _ ml_X7_165) (hts _ ms_max) (hts _ mi_Math) (hts _ mc_max) (Nat.le_of_ble_eq_true rfl) (Nat.le_of_ble_eq_true rfl) (Nat.le_refl _) (Nat.le_refl _) dX7_commons_112 ?_
            refine lv_istore (lv' := [(5, .int (if (if v6 < v8 then v8 else v6) < (1 + v14) then (1 + v14) else (if v6 < v8 then v8 else v6))), (0, .ref a0), (1, .int x1), (2, .int x2), (3, .int x3), (4, .int x4)]) hx hb dX7_commons_115 hl (by decide) rfl (fun ls hl => ?_)
            exact qX7_commons_b117 C (K7 := K7) (K14 := fX7_commons_L14 K7 n) (hK7 := @hK7) (hK14 := @ih) hR hS (lv_sub hl [1, 2, 3, 4, 5, 0] rfl) h
def fX7_commons_L7  : Nat → Fw → Nat → Int32 → Int32 → Int32 → Option (Fw)
  | 0, _, _, _, _, _ => none
  | n + 1, w, a0, x1, x2, x3 => if x3 < 0 then some w else (fX7_commons_L14 (fX7_commons_L7  n) 1000 w a0 x1 x2 x3 x2)
set_option maxRecDepth 100000 in
set_option maxHeartbeats 4000000 in
theorem qX7_commons_L7 {p : Program} {l : Launch} {e : Env} {s : State} {m : MethodId} {args : Array Value} {below : List Frame} {meth : Method} {c : Code} {D : va_G} {dA : Nat → ClassId} {A : Nat → Prop} (C : Cx p s m args meth c D dA RX7 cX7_commons 6 none) {res : Fw}   : ∀ (n : Nat) {w : Fw} {H : Heap} {locs : List Loc} {ls : Array Slot} {a0 : Nat} {x1 : Int32} {x2 : Int32} {x3 : Int32}, Rp D dA A w H → va_S A s.heap H locs → lv_has ls 6 [(0, .ref a0), (1, .int x1), (2, .int x2), (3, .int x3)] → fX7_commons_L7 n w a0 x1 x2 x3 = some res → W p l e (rz 1 21) s m args below meth c H locs 0 0 (MQ below (QzV D dA A res) args s 0 0 A) (F0 m 7 ls []) := by
  obtain ⟨hx, hb, hr, hml, hown, hts, hK, hlocks⟩ := id C
  intro n
  induction n with
  | zero =>
    intro w H locs ls a0 x1 x2 x3 hR hS hl h
    rw [fX7_commons_L7.eq_1] at h
    cases h
  | succ n ih =>
    intro w H locs ls a0 x1 x2 x3 hR hS hl h
    rw [fX7_commons_L7.eq_2] at h
    refine lv_iload_n hx hb dX7_commons_7 rfl (lv_at hl 3 rfl) ?_
    refine lv_if_lt (tgt := 143) hx hb dX7_commons_8 (by decide) (fun c => ?_) (fun c => ?_)
    · have h := it c h
      exact fx_vret hx hb hr hlocks (Option.some.inj h) hR hS dX7_commons_143
    · have h := ie c h
      refine lv_iload_n hx hb dX7_commons_11 rfl (lv_at hl 2 rfl) ?_
      refine lv_istore (lv' := [(4, .int x2), (0, .ref a0), (1, .int x1), (2, .int x2), (3, .int x3)]) hx hb dX7_commons_12 hl (by decide) rfl (fun ls hl => ?_)
      exact qX7_commons_L14 C (K7 := fX7_commons_L7  n) (hK7 := @ih) 1000 hR hS (lv_sub hl [1, 2, 3, 4, 0] rfl) h
def fX7_commons (w : Fw) (a0 : Nat) (x1 : Int32) (x2 : Int32) : Option (Fw) := ((gR w a0 7 0).bind fun r15 => ((lI w r15 x1).bind fun v16 => (fX7_commons_L7 1000 w a0 x1 x2 v16)))
set_option maxRecDepth 100000 in
set_option maxHeartbeats 4000000 in
theorem mX7_commons (l : Launch) (D : va_G) (dA : Nat → ClassId) (A : Nat → Prop) {w : Fw} {a0 : Nat} {x1 : Int32} {x2 : Int32} {res : Fw} (h : fX7_commons w a0 x1 x2 = some res) : Met l yX7_commons (wz yX7_commons cX7_commons 6 none) (rz 1 21) (Pz D dA A w [.ref a0, .int x1, .int x2]) (QzV D dA A res) 0 0 A := by
  refine Met.ofW (cc := cX7_commons) (maxL := 6) (ret := none) (by decide) rfl ?_
  intro p e s m args below meth c s₁ B hml hv
  obtain ⟨rfl, hR, hK⟩ := hv
  have hx := B.exec
  have hb := B.bytes
  have hr := B.returns
  have hts : ∀ w ∈ lw_g, w.before [.ref a0, .int x1, .int x2].toArray s = true := fun w hw => atoms_spec (ws := wz yX7_commons cX7_commons 6 none) B.pre w (List.mem_cons_of_mem _ hw)
  have hown : s.vm.findClass RX7 = some m.cls := findClass_of_methodNamed B.named
  have hlocks := B.notSynchronized
  have C : Cx p s m [.ref a0, .int x1, .int x2].toArray meth c D dA RX7 cX7_commons 6 none := ⟨hx, hb, hr, hml, hown, hts, hK, hlocks⟩
  have hS : va_S A s.heap s.heap [] := va_S.rf
  have hl := lv_entry ([.ref a0, .int x1, .int x2]) (n := 6) (Nat.le_of_ble_eq_true rfl)
  rw [lg_entry_eq]
  generalize (lg_sl ([.ref a0, .int x1, .int x2]) ++ List.replicate (6 - (lg_sl ([.ref a0, .int x1, .int x2])).length) Slot.unset).toArray = ls at hl ⊢
  have hl : lv_has ls 6 [(0, .ref a0), (1, .int x1), (2, .int x2)] := hl
  unfold fX7_commons at h
  show W p l e (rz 1 21) s m _ below meth c s.heap [] 0 0 _ _
  refine lv_aload_n hx hb dX7_commons_0 rfl (lv_at hl 0 rfl) ?_
  obtain ⟨r15, e, h⟩ := bd h
  refine fx_gR hx hb hts hown hK hR fl_X7_7 e dX7_commons_1 ?_
  refine lv_iload_n hx hb dX7_commons_4 rfl (lv_at hl 1 rfl) ?_
  obtain ⟨v16, e, h⟩ := bd h
  refine fx_lI hx hb hK hR e dX7_commons_5 ?_
  refine lv_istore_n (lv' := [(3, .int v16), (0, .ref a0), (1, .int x1), (2, .int x2)]) hx hb dX7_commons_6 rfl hl (by decide) rfl (fun ls hl => ?_)
  exact qX7_commons_L7 C   1000 hR hS (lv_sub hl [1, 2, 3, 0] rfl) h
