def fX7_finding_b147 (w : Fw)  (s0 : Int32) : Option (Int32) := some s0
set_option maxRecDepth 100000 in
set_option maxHeartbeats 4000000 in
theorem qX7_finding_b147 {p : Program} {l : Launch} {e : Env} {s : State} {m : MethodId} {args : Array Value} {below : List Frame} {meth : Method} {c : Code} {D : va_G} {dA : Nat → ClassId} {A : Nat → Prop} (C : Cx p s m args meth c D dA RX7 cX7_finding 3 (some .int)) {w : Fw} {res : Int32}   {H : Heap} {locs : List Loc} {ls : Array Slot} {s0 : Int32} (hR : Rp D dA A w H) (hS : va_S A s.heap H locs) (hl : lv_has ls 3 []) (h : fX7_finding_b147 w s0 = some res) : W p l e (rz 2 43) s m args below meth c H locs 0 0 (MQ below (QzI D dA A res w) args s 0 0 A) (F0 m 147 ls [.int s0]) := by
  obtain ⟨hx, hb, hr, hml, hown, hts, hK, hlocks⟩ := id C
  unfold fX7_finding_b147 at h
  exact fx_iret hx hb hr hlocks (Option.some.inj h) rfl hR hS dX7_finding_147
def fX7_finding_b128 (w : Fw)  (s0 : Int32) : Option (Int32) := some s0
set_option maxRecDepth 100000 in
set_option maxHeartbeats 4000000 in
theorem qX7_finding_b128 {p : Program} {l : Launch} {e : Env} {s : State} {m : MethodId} {args : Array Value} {below : List Frame} {meth : Method} {c : Code} {D : va_G} {dA : Nat → ClassId} {A : Nat → Prop} (C : Cx p s m args meth c D dA RX7 cX7_finding 3 (some .int)) {w : Fw} {res : Int32}   {H : Heap} {locs : List Loc} {ls : Array Slot} {s0 : Int32} (hR : Rp D dA A w H) (hS : va_S A s.heap H locs) (hl : lv_has ls 3 []) (h : fX7_finding_b128 w s0 = some res) : W p l e (rz 2 43) s m args below meth c H locs 0 0 (MQ below (QzI D dA A res w) args s 0 0 A) (F0 m 128 ls [.int s0]) := by
  obtain ⟨hx, hb, hr, hml, hown, hts, hK, hlocks⟩ := id C
  unfold fX7_finding_b128 at h
  exact fx_iret hx hb hr hlocks (Option.some.inj h) rfl hR hS dX7_finding_128
def fX7_finding_b104 (w : Fw)  (s0 : Int32) : Option (Int32) := some s0
set_option maxRecDepth 100000 in
set_option maxHeartbeats 4000000 in
theorem qX7_finding_b104 {p : Program} {l : Launch} {e : Env} {s : State} {m : MethodId} {args : Array Value} {below : List Frame} {meth : Method} {c : Code} {D : va_G} {dA : Nat → ClassId} {A : Nat → Prop} (C : Cx p s m args meth c D dA RX7 cX7_finding 3 (some .int)) {w : Fw} {res : Int32}   {H : Heap} {locs : List Loc} {ls : Array Slot} {s0 : Int32} (hR : Rp D dA A w H) (hS : va_S A s.heap H locs) (hl : lv_has ls 3 []) (h : fX7_finding_b104 w s0 = some res) : W p l e (rz 2 43) s m args below meth c H locs 0 0 (MQ below (QzI D dA A res w) args s 0 0 A) (F0 m 104 ls [.int s0]) := by
  obtain ⟨hx, hb, hr, hml, hown, hts, hK, hlocks⟩ := id C
  unfold fX7_finding_b104 at h
  exact fx_iret hx hb hr hlocks (Option.some.inj h) rfl hR hS dX7_finding_104
def fX7_finding (w : Fw) (a0 : Nat) (x1 : Int32) (x2 : Int32) : Option (Int32) := ((isO w a0 7).bind fun _ => ((fX7_isFinding w a0 x1).bind fun v1 => (if v1 = 0 then some ((-1) : Int32) else (if x2 = 0 then ((gR w a0 7 10).bind fun r2 => ((lI w r2 x1).bind fun v3 => some v3)) else (if x2 = 1 then ((gR w a0 7 11).bind fun r4 => ((lI w r4 x1).bind fun v5 => some v5)) else (if x2 = 2 then ((gR w a0 7 12).bind fun r6 => ((lI w r6 x1).bind fun v7 => some v7)) else (if x2 = 3 then ((gR w a0 7 13).bind fun r8 => ((lI w r8 x1).bind fun v9 => some v9)) else (if x2 = 4 then ((gR w a0 7 14).bind fun r10 => ((lI w r10 x1).bind fun v11 => some v11)) else (if x2 = 5 then ((isO w a0 7).bind fun _ => ((fX7_isSilent w a0 x1).bind fun v12 => (if v12 = 0 then (fX7_finding_b104 w 0) else (fX7_finding_b104 w 1)))) else (if x2 = 6 then ((isO w a0 7).bind fun _ => ((fX7_isSilent w a0 x1).bind fun v13 => (if v13 = 0 then (fX7_finding_b128 w 0) else ((gR w a0 7 15).bind fun r14 => ((lI w r14 x1).bind fun v15 => ((gI w a0 7 4).bind fun v16 => (fX7_finding_b128 w (v15 - v16)))))))) else (if x2 = 7 then ((isO w a0 7).bind fun _ => ((fX7_isSilent w a0 x1).bind fun v17 => (if v17 = 0 then (fX7_finding_b147 w (-1)) else ((gR w a0 7 16).bind fun r18 => ((lI w r18 x1).bind fun v19 => (fX7_finding_b147 w v19)))))) else some ((-1) : Int32))))))))))))
set_option maxRecDepth 100000 in
set_option maxHeartbeats 4000000 in
theorem mX7_finding (l : Launch) (D : va_G) (dA : Nat → ClassId) (A : Nat → Prop) {w : Fw} {a0 : Nat} {x1 : Int32} {x2 : Int32} {res : Int32} (h : fX7_finding w a0 x1 x2 = some res) : Met l yX7_finding (wz yX7_finding cX7_finding 3 (some .int)) (rz 2 43) (Pz D dA A w [.ref a0, .int x1, .int x2]) (QzI D dA A res w) 0 0 A := by
  refine Met.ofW (cc := cX7_finding) (maxL := 3) (ret := (some .int)) (by decide) rfl ?_
  intro p e s m args below meth c s₁ B hml hv
  obtain ⟨rfl, hR, hK⟩ := hv
  have hx := B.exec
  have hb := B.bytes
  have hr := B.returns
  have hts : ∀ w ∈ lw_g, w.before [.ref a0, .int x1, .int x2].toArray s = true := fun w hw => atoms_spec (ws := wz yX7_finding cX7_finding 3 (some .int)) B.pre w (List.mem_cons_of_mem _ hw)
  have hown : s.vm.findClass RX7 = some m.cls := findClass_of_methodNamed B.named
  have hlocks := B.notSynchronized
  have C : Cx p s m [.ref a0, .int x1, .int x2].toArray meth c D dA RX7 cX7_finding 3 (some .int) := ⟨hx, hb, hr, hml, hown, hts, hK, hlocks⟩
  have hS : va_S A s.heap s.heap [] := va_S.rf
  have hl := lv_entry ([.ref a0, .int x1, .int x2]) (n := 3) (Nat.le_of_ble_eq_true rfl)
  rw [lg_entry_eq]
  generalize (lg_sl ([.ref a0, .int x1, .int x2]) ++ List.replicate (3 - (lg_sl ([.ref a0, .int x1, .int x2])).length) Slot.unset).toArray = ls at hl ⊢
  have hl : lv_has ls 3 [(0, .ref a0), (1, .int x1), (2, .int x2)] := hl
  unfold fX7_finding at h
  show W p l e (rz 2 43) s m _ below meth c s.heap [] 0 0 _ _
  refine lv_aload_n hx hb dX7_finding_0 rfl (lv_at hl 0 rfl) ?_
  refine lv_iload_n hx hb dX7_finding_1 rfl (lv_at hl 1 rfl) ?_
  obtain ⟨_, eO, h⟩ := bd h
  obtain ⟨v1, e, h⟩ := bd h
  refine fx_vI (As := [.int x1]) (rest := []) hx hb hml hts hown hK hR hS eO (mX7_isFinding l D dA A e) my_X7_isFinding mv_X7_isFinding rfl ml_X7_176 rfl hl.1 rfl (Nat.le_of_ble_eq_true rfl) dX7_finding_2 ⟨Nat.le_of_ble_eq_true rfl, Nat.le_of_ble_eq_true rfl⟩ ⟨Nat.le_refl _, Nat.le_refl _⟩ (fun H locs hR hS => ?_)
  refine lv_if_ne (tgt := 10) hx hb dX7_finding_5 (by decide) (fun c => ?_) (fun c => ?_)
  · have h := ie c h
    refine lv_iload_n hx hb dX7_finding_10 rfl (lv_at hl 2 rfl) ?_
    by_cases c0 : x2 = 0
    · have h := it c0 h
      refine lv_tableIn (off := 45) (tgt := 56) hx hb dX7_finding_11 (by rw [c0]; decide) (by rw [c0]; decide) (by rw [c0]; decide) (by decide) ?_
      refine lv_aload_n hx hb dX7_finding_56 rfl (lv_at hl 0 rfl) ?_
      obtain ⟨r2, e, h⟩ := bd h
      refine fx_gR hx hb hts hown hK hR fl_X7_19 e dX7_finding_57 ?_
      refine lv_iload_n hx hb dX7_finding_60 rfl (lv_at hl 1 rfl) ?_
      obtain ⟨v3, e, h⟩ := bd h
      refine fx_lI hx hb hK hR e dX7_finding_61 ?_
      exact fx_iret hx hb hr hlocks (Option.some.inj h) rfl hR hS dX7_finding_62
    have h := ie c0 h
    by_cases c1 : x2 = 1
    · have h := it c1 h
      refine lv_tableIn (off := 52) (tgt := 63) hx hb dX7_finding_11 (by rw [c1]; decide) (by rw [c1]; decide) (by rw [c1]; decide) (by decide) ?_
      refine lv_aload_n hx hb dX7_finding_63 rfl (lv_at hl 0 rfl) ?_
      obtain ⟨r4, e, h⟩ := bd h
      refine fx_gR hx hb hts hown hK hR fl_X7_22 e dX7_finding_64 ?_
      refine lv_iload_n hx hb dX7_finding_67 rfl (lv_at hl 1 rfl) ?_
      obtain ⟨v5, e, h⟩ := bd h
      refine fx_lI hx hb hK hR e dX7_finding_68 ?_
      exact fx_iret hx hb hr hlocks (Option.some.inj h) rfl hR hS dX7_finding_69
    have h := ie c1 h
    by_cases c2 : x2 = 2
    · have h := it c2 h
      refine lv_tableIn (off := 59) (tgt := 70) hx hb dX7_finding_11 (by rw [c2]; decide) (by rw [c2]; decide) (by rw [c2]; decide) (by decide) ?_
      refine lv_aload_n hx hb dX7_finding_70 rfl (lv_at hl 0 rfl) ?_
      obtain ⟨r6, e, h⟩ := bd h
      refine fx_gR hx hb hts hown hK hR fl_X7_25 e dX7_finding_71 ?_
      refine lv_iload_n hx hb dX7_finding_74 rfl (lv_at hl 1 rfl) ?_
      obtain ⟨v7, e, h⟩ := bd h
      refine fx_lI hx hb hK hR e dX7_finding_75 ?_
      exact fx_iret hx hb hr hlocks (Option.some.inj h) rfl hR hS dX7_finding_76
    have h := ie c2 h
    by_cases c3 : x2 = 3
    · have h := it c3 h
      refine lv_tableIn (off := 66) (tgt := 77) hx hb dX7_finding_11 (by rw [c3]; decide) (by rw [c3]; decide) (by rw [c3]; decide) (by decide) ?_
      refine lv_aload_n hx hb dX7_finding_77 rfl (lv_at hl 0 rfl) ?_
      obtain ⟨r8, e, h⟩ := bd h
      refine fx_gR hx hb hts hown hK hR fl_X7_28 e dX7_finding_78 ?_
      refine lv_iload_n hx hb dX7_finding_81 rfl (lv_at hl 1 rfl) ?_
      obtain ⟨v9, e, h⟩ := bd h
      refine fx_lI hx hb hK hR e dX7_finding_82 ?_
      exact fx_iret hx hb hr hlocks (Option.some.inj h) rfl hR hS dX7_finding_83
    have h := ie c3 h
    by_cases c4 : x2 = 4
    · have h := it c4 h
      refine lv_tableIn (off := 73) (tgt := 84) hx hb dX7_finding_11 (by rw [c4]; decide) (by rw [c4]; decide) (by rw [c4]; decide) (by decide) ?_
      refine lv_aload_n hx hb dX7_finding_84 rfl (lv_at hl 0 rfl) ?_
      obtain ⟨r10, e, h⟩ := bd h
      refine fx_gR hx hb hts hown hK hR fl_X7_31 e dX7_finding_85 ?_
      refine lv_iload_n hx hb dX7_finding_88 rfl (lv_at hl 1 rfl) ?_
      obtain ⟨v11, e, h⟩ := bd h
      refine fx_lI hx hb hK hR e dX7_finding_89 ?_
      exact fx_iret hx hb hr hlocks (Option.some.inj h) rfl hR hS dX7_finding_90
    have h := ie c4 h
    by_cases c5 : x2 = 5
    · have h := it c5 h
      refine lv_tableIn (off := 80) (tgt := 91) hx hb dX7_finding_11 (by rw [c5]; decide) (by rw [c5]; decide) (by rw [c5]; decide) (by decide) ?_
      refine lv_aload_n hx hb dX7_finding_91 rfl (lv_at hl 0 rfl) ?_
      refine lv_iload_n hx hb dX7_finding_92 rfl (lv_at hl 1 rfl) ?_
      obtain ⟨_, eO, h⟩ := bd h
      obtain ⟨v12, e, h⟩ := bd h
      refine fx_vI (As := [.int x1]) (rest := []) hx hb hml hts hown hK hR hS eO (mX7_isSilent l D dA A e) my_X7_isSilent mv_X7_isSilent rfl ml_X7_179 rfl hl.1 rfl (Nat.le_of_ble_eq_true rfl) dX7_finding_93 ⟨Nat.le_of_ble_eq_true rfl, Nat.le_of_ble_eq_true rfl⟩ ⟨Nat.le_refl _, Nat.le_refl _⟩ (fun H locs hR hS => ?_)
      refine lv_if_eq (tgt := 103) hx hb dX7_finding_96 (by decide) (fun c => ?_) (fun c => ?_)
      · have h := it c h
        refine lv_iconst (v := 0) hx hb dX7_finding_103 (by decide) ?_
        exact qX7_finding_b104 C   hR hS (lv_sub hl [] rfl) h
      · have h := ie c h
        refine lv_iconst (v := 1) hx hb dX7_finding_99 (by decide) ?_
        refine lv_goto (tgt := 104) hx hb dX7_finding_100 (by decide) ?_
        exact qX7_finding_b104 C   hR hS (lv_sub hl [] rfl) h
    have h := ie c5 h
    by_cases c6 : x2 = 6
    · have h := it c6 h
      refine lv_tableIn (off := 94) (tgt := 105) hx hb dX7_finding_11 (by rw [c6]; decide) (by rw [c6]; decide) (by rw [c6]; decide) (by decide) ?_
      refine lv_aload_n hx hb dX7_finding_105 rfl (lv_at hl 0 rfl) ?_
      refine lv_iload_n hx hb dX7_finding_106 rfl (lv_at hl 1 rfl) ?_
      obtain ⟨_, eO, h⟩ := bd h
      obtain ⟨v13, e, h⟩ := bd h
      refine fx_vI (As := [.int x1]) (rest := []) hx hb hml hts hown hK hR hS eO (mX7_isSilent l D dA A e) my_X7_isSilent mv_X7_isSilent rfl ml_X7_179 rfl hl.1 rfl (Nat.le_of_ble_eq_true rfl) dX7_finding_107 ⟨Nat.le_of_ble_eq_true rfl, Nat.le_of_ble_eq_true rfl⟩ ⟨Nat.le_refl _, Nat.le_refl _⟩ (fun H locs hR hS => ?_)
      refine lv_if_eq (tgt := 127) hx hb dX7_finding_110 (by decide) (fun c => ?_) (fun c => ?_)
      · have h := it c h
        refine lv_iconst (v := 0) hx hb dX7_finding_127 (by decide) ?_
        exact qX7_finding_b128 C   hR hS (lv_sub hl [] rfl) h
      · have h := ie c h
        refine lv_aload_n hx hb dX7_finding_113 rfl (lv_at hl 0 rfl) ?_
        obtain ⟨r14, e, h⟩ := bd h
        refine fx_gR hx hb hts hown hK hR fl_X7_34 e dX7_finding_114 ?_
        refine lv_iload_n hx hb dX7_finding_117 rfl (lv_at hl 1 rfl) ?_
        obtain ⟨v15, e, h⟩ := bd h
        refine fx_lI hx hb hK hR e dX7_finding_118 ?_
        refine lv_aload_n hx hb dX7_finding_119 rfl (lv_at hl 0 rfl) ?_
        obtain ⟨v16, e, h⟩ := bd h
        refine fx_gI hx hb hts hown hK hR fl_X7_173 e dX7_finding_120 ?_
        refine lv_isub hx hb dX7_finding_123 ?_
        refine lv_goto (tgt := 128) hx hb dX7_finding_124 (by decide) ?_
        exact qX7_finding_b128 C   hR hS (lv_sub hl [] rfl) h
    have h := ie c6 h
    by_cases c7 : x2 = 7
    · have h := it c7 h
      refine lv_tableIn (off := 118) (tgt := 129) hx hb dX7_finding_11 (by rw [c7]; decide) (by rw [c7]; decide) (by rw [c7]; decide) (by decide) ?_
      refine lv_aload_n hx hb dX7_finding_129 rfl (lv_at hl 0 rfl) ?_
      refine lv_iload_n hx hb dX7_finding_130 rfl (lv_at hl 1 rfl) ?_
      obtain ⟨_, eO, h⟩ := bd h
      obtain ⟨v17, e, h⟩ := bd h
      refine fx_vI (As := [.int x1]) (rest := []) hx hb hml hts hown hK hR hS eO (mX7_isSilent l D dA A e) my_X7_isSilent mv_X7_isSilent rfl ml_X7_179 rfl hl.1 rfl (Nat.le_of_ble_eq_true rfl) dX7_finding_131 ⟨Nat.le_of_ble_eq_true rfl, Nat.le_of_ble_eq_true rfl⟩ ⟨Nat.le_refl _, Nat.le_refl _⟩ (fun H locs hR hS => ?_)
      refine lv_if_eq (tgt := 146) hx hb dX7_finding_134 (by decide) (fun c => ?_) (fun c => ?_)
      · have h := it c h
        refine lv_iconst (v := (-1)) hx hb dX7_finding_146 (by decide) ?_
        exact qX7_finding_b147 C   hR hS (lv_sub hl [] rfl) h
      · have h := ie c h
        refine lv_aload_n hx hb dX7_finding_137 rfl (lv_at hl 0 rfl) ?_
        obtain ⟨r18, e, h⟩ := bd h
        refine fx_gR hx hb hts hown hK hR fl_X7_37 e dX7_finding_138 ?_
        refine lv_iload_n hx hb dX7_finding_141 rfl (lv_at hl 1 rfl) ?_
        obtain ⟨v19, e, h⟩ := bd h
        refine fx_lI hx hb hK hR e dX7_finding_142 ?_
        refine lv_goto (tgt := 147) hx hb dX7_finding_143 (by decide) ?_
        exact qX7_finding_b147 C   hR hS (lv_sub hl [] rfl) h
    have h := ie c7 h
    have nc0 := fz_ne 0 0 (by decide) c0
    have nc1 := fz_ne 1 1 (by decide) c1
    have nc2 := fz_ne 2 2 (by decide) c2
    have nc3 := fz_ne 3 3 (by decide) c3
    have nc4 := fz_ne 4 4 (by decide) c4
    have nc5 := fz_ne 5 5 (by decide) c5
    have nc6 := fz_ne 6 6 (by decide) c6
    have nc7 := fz_ne 7 7 (by decide) c7
    refine lv_tableOut (tgt := 148) hx hb dX7_finding_11 (by omega) (by decide) ?_
    refine lv_iconst (v := (-1)) hx hb dX7_finding_148 (by decide) ?_
    exact fx_iret hx hb hr hlocks (Option.some.inj h) rfl hR hS dX7_finding_149
  · have h := it c h
    refine lv_iconst (v := (-1)) hx hb dX7_finding_8 (by decide) ?_
    exact fx_iret hx hb hr hlocks (Option.some.inj h) rfl hR hS dX7_finding_9
def fX7_since_b55 (w : Fw) (K16 : Nat → Int32 → Int32 → Int32 → Int32 → Option (Int32)) (a0 : Nat) (x1 : Int32) (x2 : Int32) (x4 : Int32) (s0 : Int32) (s1 : Int32) : Option (Int32) := (K16 a0 x1 x2 (s0 + s1) (x4 + 1))
set_option maxRecDepth 100000 in
set_option maxHeartbeats 4000000 in
theorem qX7_since_b55 {p : Program} {l : Launch} {e : Env} {s : State} {m : MethodId} {args : Array Value} {below : List Frame} {meth : Method} {c : Code} {D : va_G} {dA : Nat → ClassId} {A : Nat → Prop} (C : Cx p s m args meth c D dA RX7 cX7_since 5 (some .int)) {w : Fw} {res : Int32} {K16 : Nat → Int32 → Int32 → Int32 → Int32 → Option (Int32)} (hK16 : ∀ {H : Heap} {locs : List Loc} {ls : Array Slot} {a0 : Nat} {x1 : Int32} {x2 : Int32} {x3 : Int32} {x4 : Int32}, Rp D dA A w H → va_S A s.heap H locs → lv_has ls 5 [(0, .ref a0), (1, .int x1), (2, .int x2), (3, .int x3), (4, .int x4)] → K16 a0 x1 x2 x3 x4 = some res → W p l e (rz 1 22) s m args below meth c H locs 0 0 (MQ below (QzI D dA A res w) args s 0 0 A) (F0 m 16 ls [])) {H : Heap} {locs : List Loc} {ls : Array Slot} {a0 : Nat} {x1 : Int32} {x2 : Int32} {x4 : Int32} {s0 : Int32} {s1 : Int32} (hR : Rp D dA A w H) (hS : va_S A s.heap H locs) (hl : lv_has ls 5 [(0, .ref a0), (1, .int x1), (2, .int x2), (4, .int x4)]) (h : fX7_since_b55 w K16 a0 x1 x2 x4 s0 s1 = some res) : W p l e (rz 1 22) s m args below meth c H locs 0 0 (MQ below (QzI D dA A res w) args s 0 0 A) (F0 m 55 ls [.int s1, .int s0]) := by
  obtain ⟨hx, hb, hr, hml, hown, hts, hK, hlocks⟩ := id C
  unfold fX7_since_b55 at h
  refine lv_iadd hx hb dX7_since_55 ?_
  refine lv_istore_n (lv' := [(3, .int (s0 + s1)), (0, .ref a0), (1, .int x1), (2, .int x2), (4, .int x4)]) hx hb dX7_since_56 rfl hl (by decide) rfl (fun ls hl => ?_)
  refine lv_iinc (v := (x4 + 1)) (lv' := [(4, .int (x4 + 1)), (3, .int (s0 + s1)), (0, .ref a0), (1, .int x1), (2, .int x2)]) hx hb dX7_since_57 hl (k := 4) rfl rfl (by decide) rfl (fun ls hl => ?_)
  refine lv_goto (tgt := 16) hx hb dX7_since_60 (by decide) ?_
  exact hK16 hR hS (lv_sub hl [2, 3, 4, 1, 0] rfl) h
def fX7_since_b54 (w : Fw) (K16 : Nat → Int32 → Int32 → Int32 → Int32 → Option (Int32)) (a0 : Nat) (x1 : Int32) (x2 : Int32) (x4 : Int32) (s0 : Int32) : Option (Int32) := (fX7_since_b55 w K16 a0 x1 x2 x4 s0 0)
set_option maxRecDepth 100000 in
set_option maxHeartbeats 4000000 in
theorem qX7_since_b54 {p : Program} {l : Launch} {e : Env} {s : State} {m : MethodId} {args : Array Value} {below : List Frame} {meth : Method} {c : Code} {D : va_G} {dA : Nat → ClassId} {A : Nat → Prop} (C : Cx p s m args meth c D dA RX7 cX7_since 5 (some .int)) {w : Fw} {res : Int32} {K16 : Nat → Int32 → Int32 → Int32 → Int32 → Option (Int32)} (hK16 : ∀ {H : Heap} {locs : List Loc} {ls : Array Slot} {a0 : Nat} {x1 : Int32} {x2 : Int32} {x3 : Int32} {x4 : Int32}, Rp D dA A w H → va_S A s.heap H locs → lv_has ls 5 [(0, .ref a0), (1, .int x1), (2, .int x2), (3, .int x3), (4, .int x4)] → K16 a0 x1 x2 x3 x4 = some res → W p l e (rz 1 22) s m args below meth c H locs 0 0 (MQ below (QzI D dA A res w) args s 0 0 A) (F0 m 16 ls [])) {H : Heap} {locs : List Loc} {ls : Array Slot} {a0 : Nat} {x1 : Int32} {x2 : Int32} {x4 : Int32} {s0 : Int32} (hR : Rp D dA A w H) (hS : va_S A s.heap H locs) (hl : lv_has ls 5 [(0, .ref a0), (1, .int x1), (2, .int x2), (4, .int x4)]) (h : fX7_since_b54 w K16 a0 x1 x2 x4 s0 = some res) : W p l e (rz 1 22) s m args below meth c H locs 0 0 (MQ below (QzI D dA A res w) args s 0 0 A) (F0 m 54 ls [.int s0]) := by
  obtain ⟨hx, hb, hr, hml, hown, hts, hK, hlocks⟩ := id C
  unfold fX7_since_b54 at h
  refine lv_iconst (v := 0) hx hb dX7_since_54 (by decide) ?_
  exact qX7_since_b55 C (K16 := K16) (hK16 := @hK16) hR hS (lv_sub hl [0, 1, 2, 3] rfl) h
def fX7_since_b50 (w : Fw) (K16 : Nat → Int32 → Int32 → Int32 → Int32 → Option (Int32)) (a0 : Nat) (x1 : Int32) (x2 : Int32) (x4 : Int32) (s0 : Int32) : Option (Int32) := (fX7_since_b55 w K16 a0 x1 x2 x4 s0 1)
set_option maxRecDepth 100000 in
set_option maxHeartbeats 4000000 in
theorem qX7_since_b50 {p : Program} {l : Launch} {e : Env} {s : State} {m : MethodId} {args : Array Value} {below : List Frame} {meth : Method} {c : Code} {D : va_G} {dA : Nat → ClassId} {A : Nat → Prop} (C : Cx p s m args meth c D dA RX7 cX7_since 5 (some .int)) {w : Fw} {res : Int32} {K16 : Nat → Int32 → Int32 → Int32 → Int32 → Option (Int32)} (hK16 : ∀ {H : Heap} {locs : List Loc} {ls : Array Slot} {a0 : Nat} {x1 : Int32} {x2 : Int32} {x3 : Int32} {x4 : Int32}, Rp D dA A w H → va_S A s.heap H locs → lv_has ls 5 [(0, .ref a0), (1, .int x1), (2, .int x2), (3, .int x3), (4, .int x4)] → K16 a0 x1 x2 x3 x4 = some res → W p l e (rz 1 22) s m args below meth c H locs 0 0 (MQ below (QzI D dA A res w) args s 0 0 A) (F0 m 16 ls [])) {H : Heap} {locs : List Loc} {ls : Array Slot} {a0 : Nat} {x1 : Int32} {x2 : Int32} {x4 : Int32} {s0 : Int32} (hR : Rp D dA A w H) (hS : va_S A s.heap H locs) (hl : lv_has ls 5 [(0, .ref a0), (1, .int x1), (2, .int x2), (4, .int x4)]) (h : fX7_since_b50 w K16 a0 x1 x2 x4 s0 = some res) : W p l e (rz 1 22) s m args below meth c H locs 0 0 (MQ below (QzI D dA A res w) args s 0 0 A) (F0 m 50 ls [.int s0]) := by
  obtain ⟨hx, hb, hr, hml, hown, hts, hK, hlocks⟩ := id C
  unfold fX7_since_b50 at h
  refine lv_iconst (v := 1) hx hb dX7_since_50 (by decide) ?_
  refine lv_goto (tgt := 55) hx hb dX7_since_51 (by decide) ?_
  exact qX7_since_b55 C (K16 := K16) (hK16 := @hK16) hR hS (lv_sub hl [0, 1, 2, 3] rfl) h
def fX7_since_L16 (w : Fw)  : Nat → Nat → Int32 → Int32 → Int32 → Int32 → Option (Int32)
  | 0, _, _, _, _, _ => none
  | n + 1, a0, x1, x2, x3, x4 => ((gI w a0 7 8).bind fun v1 => (if v1 ≤ x4 then some x3 else ((gR w a0 7 14).bind fun r2 => ((lI w r2 x4).bind fun v3 => (if v3 ≤ x1 then (fX7_since_b54 w (fX7_since_L16 w n) a0 x1 x2 x4 x3) else if x2 = 0 then (fX7_since_b50 w (fX7_since_L16 w n) a0 x1 x2 x4 x3) else ((isO w a0 7).bind fun _ => ((fX7_isSilent w a0 x4).bind fun v4 => (if v4 = 0 then (fX7_since_b50 w (fX7_since_L16 w n) a0 x1 x2 x4 x3) else (fX7_since_b54 w (fX7_since_L16 w n) a0 x1 x2 x4 x3)))))))))
set_option maxRecDepth 100000 in
set_option maxHeartbeats 4000000 in
theorem qX7_since_L16 {p : Program} {l : Launch} {e : Env} {s : State} {m : MethodId} {args : Array Value} {below : List Frame} {meth : Method} {c : Code} {D : va_G} {dA : Nat → ClassId} {A : Nat → Prop} (C : Cx p s m args meth c D dA RX7 cX7_since 5 (some .int)) {w : Fw} {res : Int32}   : ∀ (n : Nat) {H : Heap} {locs : List Loc} {ls : Array Slot} {a0 : Nat} {x1 : Int32} {x2 : Int32} {x3 : Int32} {x4 : Int32}, Rp D dA A w H → va_S A s.heap H locs → lv_has ls 5 [(0, .ref a0), (1, .int x1), (2, .int x2), (3, .int x3), (4, .int x4)] → fX7_since_L16 w n a0 x1 x2 x3 x4 = some res → W p l e (rz 1 22) s m args below meth c H locs 0 0 (MQ below (QzI D dA A res w) args s 0 0 A) (F0 m 16 ls []) := by
  obtain ⟨hx, hb, hr, hml, hown, hts, hK, hlocks⟩ := id C
  intro n
  induction n with
  | zero =>
    intro H locs ls a0 x1 x2 x3 x4 hR hS hl h
    rw [fX7_since_L16.eq_1] at h
    cases h
  | succ n ih =>
    intro H locs ls a0 x1 x2 x3 x4 hR hS hl h
    rw [fX7_since_L16.eq_2] at h
    refine lv_iload hx hb dX7_since_16 (lv_at hl 4 rfl) ?_
    refine lv_aload_n hx hb dX7_since_18 rfl (lv_at hl 0 rfl) ?_
    obtain ⟨v1, e, h⟩ := bd h
    refine fx_gI hx hb hts hown hK hR fl_X7_118 e dX7_since_19 ?_
    refine lv_icmp_ge (tgt := 63) hx hb dX7_since_22 (by decide) (fun c => ?_) (fun c => ?_)
    · have h := it c h
      refine lv_iload_n hx hb dX7_since_63 rfl (lv_at hl 3 rfl) ?_
      exact fx_iret hx hb hr hlocks (Option.some.inj h) rfl hR hS dX7_since_64
    · have h := ie c h
      refine lv_iload_n hx hb dX7_since_25 rfl (lv_at hl 3 rfl) ?_
      refine lv_aload_n hx hb dX7_since_26 rfl (lv_at hl 0 rfl) ?_
      obtain ⟨r2, e, h⟩ := bd h
      refine fx_gR hx hb hts hown hK hR fl_X7_31 e dX7_since_27 ?_
      refine lv_iload hx hb dX7_since_30 (lv_at hl 4 rfl) ?_
      obtain ⟨v3, e, h⟩ := bd h
      refine fx_lI hx hb hK hR e dX7_since_32 ?_
      refine lv_iload_n hx hb dX7_since_33 rfl (lv_at hl 1 rfl) ?_
      refine lv_icmp_le (tgt := 54) hx hb dX7_since_34 (by decide) (fun c => ?_) (fun c => ?_)
      · have h := it c h
        exact qX7_since_b54 C (K16 := fX7_since_L16 w n) (hK16 := @ih) hR hS (lv_sub hl [0, 1, 2, 4] rfl) h
      · have h := ie c h
        refine lv_iload_n hx hb dX7_since_37 rfl (lv_at hl 2 rfl) ?_
        refine lv_if_eq (tgt := 50) hx hb dX7_since_38 (by decide) (fun c => ?_) (fun c => ?_)
        · have h := it c h
          exact qX7_since_b50 C (K16 := fX7_since_L16 w n) (hK16 := @ih) hR hS (lv_sub hl [0, 1, 2, 4] rfl) h
        · have h := ie c h
          refine lv_aload_n hx hb dX7_since_41 rfl (lv_at hl 0 rfl) ?_
          refine lv_iload hx hb dX7_since_42 (lv_at hl 4 rfl) ?_
          obtain ⟨_, eO, h⟩ := bd h
          obtain ⟨v4, e, h⟩ := bd h
          refine fx_vI (As := [.int x4]) (rest := [.int x3]) hx hb hml hts hown hK hR hS eO (mX7_isSilent l D dA A e) my_X7_isSilent mv_X7_isSilent rfl ml_X7_179 rfl hl.1 rfl (Nat.le_of_ble_eq_true rfl) dX7_since_44 ⟨Nat.le_of_ble_eq_true rfl, Nat.le_of_ble_eq_true rfl⟩ ⟨Nat.le_refl _, Nat.le_refl _⟩ (fun H locs hR hS => ?_)
          refine lv_if_ne (tgt := 54) hx hb dX7_since_47 (by decide) (fun c => ?_) (fun c => ?_)
          · have h := ie c h
            exact qX7_since_b54 C (K16 := fX7_since_L16 w n) (hK16 := @ih) hR hS (lv_sub hl [0, 1, 2, 4] rfl) h
          · have h := it c h
            exact qX7_since_b50 C (K16 := fX7_since_L16 w n) (hK16 := @ih) hR hS (lv_sub hl [0, 1, 2, 4] rfl) h
def fX7_since (w : Fw) (a0 : Nat) (x1 : Int32) (x2 : Int32) : Option (Int32) := ((fX7_isIn w x2 0 1).bind fun v5 => (if v5 = 0 then some ((-1) : Int32) else (fX7_since_L16 w 1000 a0 x1 x2 0 0)))
set_option maxRecDepth 100000 in
set_option maxHeartbeats 4000000 in
theorem mX7_since (l : Launch) (D : va_G) (dA : Nat → ClassId) (A : Nat → Prop) {w : Fw} {a0 : Nat} {x1 : Int32} {x2 : Int32} {res : Int32} (h : fX7_since w a0 x1 x2 = some res) : Met l yX7_since (wz yX7_since cX7_since 5 (some .int)) (rz 1 22) (Pz D dA A w [.ref a0, .int x1, .int x2]) (QzI D dA A res w) 0 0 A := by
  refine Met.ofW (cc := cX7_since) (maxL := 5) (ret := (some .int)) (by decide) rfl ?_
  intro p e s m args below meth c s₁ B hml hv
  obtain ⟨rfl, hR, hK⟩ := hv
  have hx := B.exec
  have hb := B.bytes
  have hr := B.returns
  have hts : ∀ w ∈ lw_g, w.before [.ref a0, .int x1, .int x2].toArray s = true := fun w hw => atoms_spec (ws := wz yX7_since cX7_since 5 (some .int)) B.pre w (List.mem_cons_of_mem _ hw)
  have hown : s.vm.findClass RX7 = some m.cls := findClass_of_methodNamed B.named
  have hlocks := B.notSynchronized
  have C : Cx p s m [.ref a0, .int x1, .int x2].toArray meth c D dA RX7 cX7_since 5 (some .int) := ⟨hx, hb, hr, hml, hown, hts, hK, hlocks⟩
  have hS : va_S A s.heap s.heap [] := va_S.rf
  have hl := lv_entry ([.ref a0, .int x1, .int x2]) (n := 5) (Nat.le_of_ble_eq_true rfl)
  rw [lg_entry_eq]
  generalize (lg_sl ([.ref a0, .int x1, .int x2]) ++ List.replicate (5 - (lg_sl ([.ref a0, .int x1, .int x2])).length) Slot.unset).toArray = ls at hl ⊢
  have hl : lv_has ls 5 [(0, .ref a0), (1, .int x1), (2, .int x2)] := hl
  unfold fX7_since at h
  show W p l e (rz 1 22) s m _ below meth c s.heap [] 0 0 _ _
  refine lv_iload_n hx hb dX7_since_0 rfl (lv_at hl 2 rfl) ?_
  refine lv_iconst (v := 0) hx hb dX7_since_1 (by decide) ?_
  refine lv_iconst (v := 1) hx hb dX7_since_2 (by decide) ?_
  obtain ⟨v5, e, h⟩ := bd h
  refine fx_sI' (As := [.int x2, .int 0, .int 1]) (rest := []) hx hb hml hts hown hK hR hS (mX7_isIn l D dA A e) my_X7_isIn ms_X7_isIn ml_X7_76 rfl hl.1 rfl (Nat.le_of_ble_eq_true rfl) dX7_since_3 ⟨Nat.le_of_ble_eq_true rfl, Nat.le_of_ble_eq_true rfl⟩ ⟨Nat.le_refl _, Nat.le_refl _⟩ (fun H locs hR hS => ?_)
  refine lv_if_ne (tgt := 11) hx hb dX7_since_6 (by decide) (fun c => ?_) (fun c => ?_)
  · have h := ie c h
    refine lv_iconst (v := 0) hx hb dX7_since_11 (by decide) ?_
    refine lv_istore_n (lv' := [(3, .int 0), (0, .ref a0), (1, .int x1), (2, .int x2)]) hx hb dX7_since_12 rfl hl (by decide) rfl (fun ls hl => ?_)
    refine lv_iconst (v := 0) hx hb dX7_since_13 (by decide) ?_
    refine lv_istore (lv' := [(4, .int 0), (3, .int 0), (0, .ref a0), (1, .int x1), (2, .int x2)]) hx hb dX7_since_14 hl (by decide) rfl (fun ls hl => ?_)
    exact qX7_since_L16 C   1000 hR hS (lv_sub hl [2, 3, 4, 1, 0] rfl) h
  · have h := it c h
    refine lv_iconst (v := (-1)) hx hb dX7_since_9 (by decide) ?_
    exact fx_iret hx hb hr hlocks (Option.some.inj h) rfl hR hS dX7_since_10
