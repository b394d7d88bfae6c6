def fX2_countAfter_b55 (w : Fw) (K6 : Nat → Int32 → Int32 → Int32 → Int32 → Int32 → Option (Int32)) (a0 : Nat) (x1 : Int32) (x2 : Int32) (x3 : Int32) (x4 : Int32) (x5 : Int32) : Option (Int32) := (K6 a0 x1 x2 x3 x4 (x5 + 1))
set_option maxRecDepth 100000 in
set_option maxHeartbeats 4000000 in
theorem qX2_countAfter_b55 {p : Program} {l : Launch} {e : Env} {s : State} {m : MethodId} {args : Array Value} {below : List Frame} {meth : Method} {c : Code} {D : va_G} {dA : Nat → ClassId} {A : Nat → Prop} (C : Cx p s m args meth c D dA RX2 cX2_countAfter 7 (some .int)) {w : Fw} {res : Int32} {K6 : Nat → Int32 → Int32 → Int32 → Int32 → Int32 → Option (Int32)} (hK6 : ∀ {H : Heap} {locs : List Loc} {ls : Array Slot} {a0 : Nat} {x1 : Int32} {x2 : Int32} {x3 : Int32} {x4 : Int32} {x5 : Int32}, Rp D dA A w H → va_S A s.heap H locs → lv_has ls 7 [(0, .ref a0), (1, .int x1), (2, .int x2), (3, .int x3), (4, .int x4), (5, .int x5)] → K6 a0 x1 x2 x3 x4 x5 = some res → W p l e (rz 1 22) s m args below meth c H locs 0 0 (MQ below (QzI D dA A res w) args s 0 0 A) (F0 m 6 ls [])) {H : Heap} {locs : List Loc} {ls : Array Slot} {a0 : Nat} {x1 : Int32} {x2 : Int32} {x3 : Int32} {x4 : Int32} {x5 : Int32} (hR : Rp D dA A w H) (hS : va_S A s.heap H locs) (hl : lv_has ls 7 [(0, .ref a0), (1, .int x1), (2, .int x2), (3, .int x3), (4, .int x4), (5, .int x5)]) (h : fX2_countAfter_b55 w K6 a0 x1 x2 x3 x4 x5 = some res) : W p l e (rz 1 22) s m args below meth c H locs 0 0 (MQ below (QzI D dA A res w) args s 0 0 A) (F0 m 55 ls []) := by
  obtain ⟨hx, hb, hr, hml, hown, hts, hK, hlocks⟩ := id C
  unfold fX2_countAfter_b55 at h
  refine lv_iinc (v := (x5 + 1)) (lv' := [(5, .int (x5 + 1)), (0, .ref a0), (1, .int x1), (2, .int x2), (3, .int x3), (4, .int x4)]) hx hb dX2_countAfter_55 hl (k := 5) rfl rfl (by decide) rfl (fun ls hl => ?_)
  refine lv_goto (tgt := 6) hx hb dX2_countAfter_58 (by decide) ?_
  exact hK6 hR hS (lv_sub hl [1, 2, 3, 4, 5, 0] rfl) h
def fX2_countAfter_b34 (w : Fw) (K6 : Nat → Int32 → Int32 → Int32 → Int32 → Int32 → Option (Int32)) (a0 : Nat) (x1 : Int32) (x2 : Int32) (x3 : Int32) (x4 : Int32) (x5 : Int32) (s0 : Int32) : Option (Int32) := ((gR w a0 2 4).bind fun r1 => ((lI w r1 x5).bind fun v2 => (if v2 ≤ x1 then (fX2_countAfter_b55 w K6 a0 x1 x2 x3 x4 x5) else if s0 = 0 then (fX2_countAfter_b55 w K6 a0 x1 x2 x3 x4 x5) else (fX2_countAfter_b55 w K6 a0 x1 x2 x3 (x4 + 1) x5))))
set_option maxRecDepth 100000 in
set_option maxHeartbeats 4000000 in
theorem qX2_countAfter_b34 {p : Program} {l : Launch} {e : Env} {s : State} {m : MethodId} {args : Array Value} {below : List Frame} {meth : Method} {c : Code} {D : va_G} {dA : Nat → ClassId} {A : Nat → Prop} (C : Cx p s m args meth c D dA RX2 cX2_countAfter 7 (some .int)) {w : Fw} {res : Int32} {K6 : Nat → Int32 → Int32 → Int32 → Int32 → Int32 → Option (Int32)} (hK6 : ∀ {H : Heap} {locs : List Loc} {ls : Array Slot} {a0 : Nat} {x1 : Int32} {x2 : Int32} {x3 : Int32} {x4 : Int32} {x5 : Int32}, Rp D dA A w H → va_S A s.heap H locs → lv_has ls 7 [(0, .ref a0), (1, .int x1), (2, .int x2), (3, .int x3), (4, .int x4), (5, .int x5)] → K6 a0 x1 x2 x3 x4 x5 = some res → W p l e (rz 1 22) s m args below meth c H locs 0 0 (MQ below (QzI D dA A res w) args s 0 0 A) (F0 m 6 ls [])) {H : Heap} {locs : List Loc} {ls : Array Slot} {a0 : Nat} {x1 : Int32} {x2 : Int32} {x3 : Int32} {x4 : Int32} {x5 : Int32} {s0 : Int32} (hR : Rp D dA A w H) (hS : va_S A s.heap H locs) (hl : lv_has ls 7 [(0, .ref a0), (1, .int x1), (2, .int x2), (3, .int x3), (4, .int x4), (5, .int x5)]) (h : fX2_countAfter_b34 w K6 a0 x1 x2 x3 x4 x5 s0 = some res) : W p l e (rz 1 22) s m args below meth c H locs 0 0 (MQ below (QzI D dA A res w) args s 0 0 A) (F0 m 34 ls [.int s0]) := by
  obtain ⟨hx, hb, hr, hml, hown, hts, hK, hlocks⟩ := id C
  unfold fX2_countAfter_b34 at h
  refine lv_istore (lv' := [(6, .int s0), (0, .ref a0), (1, .int x1), (2, .int x2), (3, .int x3), (4, .int x4), (5, .int x5)]) hx hb dX2_countAfter_34 hl (by decide) rfl (fun ls hl => ?_)
  refine lv_aload_n hx hb dX2_countAfter_36 rfl (lv_at hl 1 rfl) ?_
  obtain ⟨r1, e, h⟩ := bd h
  refine fx_gR hx hb hts hown hK hR fl_X2_21 e dX2_countAfter_37 ?_
  refine lv_iload hx hb dX2_countAfter_40 (lv_at hl 6 rfl) ?_
  obtain ⟨v2, e, h⟩ := bd h
  refine fx_lI hx hb hK hR e dX2_countAfter_42 ?_
  refine lv_iload_n hx hb dX2_countAfter_43 rfl (lv_at hl 2 rfl) ?_
  refine lv_icmp_le (tgt := 55) hx hb dX2_countAfter_44 (by decide) (fun c => ?_) (fun c => ?_)
  · have h := it c h
    exact qX2_countAfter_b55 C (K6 := K6) (hK6 := @hK6) hR hS (lv_sub hl [1, 2, 3, 4, 5, 6] rfl) h
  · have h := ie c h
    refine lv_iload hx hb dX2_countAfter_47 (lv_at hl 0 rfl) ?_
    refine lv_if_eq (tgt := 55) hx hb dX2_countAfter_49 (by decide) (fun c => ?_) (fun c => ?_)
    · have h := it c h
      exact qX2_countAfter_b55 C (K6 := K6) (hK6 := @hK6) hR hS (lv_sub hl [1, 2, 3, 4, 5, 6] rfl) h
    · have h := ie c h
      refine lv_iinc (v := (x4 + 1)) (lv' := [(4, .int (x4 + 1)), (6, .int s0), (0, .ref a0), (1, .int x1), (2, .int x2), (3, .int x3), (5, .int x5)]) hx hb dX2_countAfter_52 hl (k := 5) rfl rfl (by decide) rfl (fun ls hl => ?_)
      exact qX2_countAfter_b55 C (K6 := K6) (hK6 := @hK6) hR hS (lv_sub hl [2, 3, 4, 5, 0, 6] rfl) h
def fX2_countAfter_b29 (w : Fw) (K6 : Nat → Int32 → Int32 → Int32 → Int32 → Int32 → Option (Int32)) (a0 : Nat) (x1 : Int32) (x2 : Int32) (x3 : Int32) (x4 : Int32) (x5 : Int32) : Option (Int32) := (fX2_countAfter_b34 w K6 a0 x1 x2 x3 x4 x5 1)
set_option maxRecDepth 100000 in
set_option maxHeartbeats 4000000 in
theorem qX2_countAfter_b29 {p : Program} {l : Launch} {e : Env} {s : State} {m : MethodId} {args : Array Value} {below : List Frame} {meth : Method} {c : Code} {D : va_G} {dA : Nat → ClassId} {A : Nat → Prop} (C : Cx p s m args meth c D dA RX2 cX2_countAfter 7 (some .int)) {w : Fw} {res : Int32} {K6 : Nat → Int32 → Int32 → Int32 → Int32 → Int32 → Option (Int32)} (hK6 : ∀ {H : Heap} {locs : List Loc} {ls : Array Slot} {a0 : Nat} {x1 : Int32} {x2 : Int32} {x3 : Int32} {x4 : Int32} {x5 : Int32}, Rp D dA A w H → va_S A s.heap H locs → lv_has ls 7 [(0, .ref a0), (1, .int x1), (2, .int x2), (3, .int x3), (4, .int x4), (5, .int x5)] → K6 a0 x1 x2 x3 x4 x5 = some res → W p l e (rz 1 22) s m args below meth c H locs 0 0 (MQ below (QzI D dA A res w) args s 0 0 A) (F0 m 6 ls [])) {H : Heap} {locs : List Loc} {ls : Array Slot} {a0 : Nat} {x1 : Int32} {x2 : Int32} {x3 : Int32} {x4 : Int32} {x5 : Int32} (hR : Rp D dA A w H) (hS : va_S A s.heap H locs) (hl : lv_has ls 7 [(0, .ref a0), (1, .int x1), (2, .int x2), (3, .int x3), (4, .int x4), (5, .int x5)]) (h : fX2_countAfter_b29 w K6 a0 x1 x2 x3 x4 x5 = some res) : W p l e (rz 1 22) s m args below meth c H locs 0 0 (MQ below (QzI D dA A res w) args s 0 0 A) (F0 m 29 ls []) := by
  obtain ⟨hx, hb, hr, hml, hown, hts, hK, hlocks⟩ := id C
  unfold fX2_countAfter_b29 at h
  refine lv_iconst (v := 1) hx hb dX2_countAfter_29 (by decide) ?_
  refine lv_goto (tgt := 34) hx hb dX2_countAfter_30 (by decide) ?_
  exact qX2_countAfter_b34 C (K6 := K6) (hK6 := @hK6) hR hS (lv_sub hl [0, 1, 2, 3, 4, 5] rfl) h
def fX2_countAfter_L6 (w : Fw)  : Nat → Nat → Int32 → Int32 → Int32 → Int32 → Int32 → Option (Int32)
  | 0, _, _, _, _, _, _ => none
  | n + 1, a0, x1, x2, x3, x4, x5 => ((gI w a0 2 0).bind fun v3 => (if v3 ≤ x5 then some x4 else if x2 = 0 then (fX2_countAfter_b29 w (fX2_countAfter_L6 w n) a0 x1 x2 x3 x4 x5) else ((isO w a0 2).bind fun _ => ((fX2_isSilenced w a0 x5 x3).bind fun v4 => (if v4 = 0 then (fX2_countAfter_b29 w (fX2_countAfter_L6 w n) a0 x1 x2 x3 x4 x5) else (fX2_countAfter_b34 w (fX2_countAfter_L6 w n) a0 x1 x2 x3 x4 x5 0))))))
set_option maxRecDepth 100000 in
set_option maxHeartbeats 4000000 in
theorem qX2_countAfter_L6 {p : Program} {l : Launch} {e : Env} {s : State} {m : MethodId} {args : Array Value} {below : List Frame} {meth : Method} {c : Code} {D : va_G} {dA : Nat → ClassId} {A : Nat → Prop} (C : Cx p s m args meth c D dA RX2 cX2_countAfter 7 (some .int)) {w : Fw} {res : Int32}   : ∀ (n : Nat) {H : Heap} {locs : List Loc} {ls : Array Slot} {a0 : Nat} {x1 : Int32} {x2 : Int32} {x3 : Int32} {x4 : Int32} {x5 : Int32}, Rp D dA A w H → va_S A s.heap H locs → lv_has ls 7 [(0, .ref a0), (1, .int x1), (2, .int x2), (3, .int x3), (4, .int x4), (5, .int x5)] → fX2_countAfter_L6 w n a0 x1 x2 x3 x4 x5 = some res → W p l e (rz 1 22) s m args below meth c H locs 0 0 (MQ below (QzI D dA A res w) args s 0 0 A) (F0 m 6 ls []) := by
  obtain ⟨hx, hb, hr, hml, hown, hts, hK, hlocks⟩ := id C
  intro n
  induction n with
  | zero =>
    intro H locs ls a0 x1 x2 x3 x4 x5 hR hS hl h
    rw [fX2_countAfter_L6.eq_1] at h
    cases h
  | succ n ih =>
    intro H locs ls a0 x1 x2 x3 x4 x5 hR hS hl h
    rw [fX2_countAfter_L6.eq_2] at h
    refine lv_iload hx hb dX2_countAfter_6 (lv_at hl 5 rfl) ?_
    refine lv_aload_n hx hb dX2_countAfter_8 rfl (lv_at hl 0 rfl) ?_
    obtain ⟨v3, e, h⟩ := bd h
    refine fx_gI hx hb hts hown hK hR fl_X2_30 e dX2_countAfter_9 ?_
    refine lv_icmp_ge (tgt := 61) hx hb dX2_countAfter_12 (by decide) (fun c => ?_) (fun c => ?_)
    · have h := it c h
      refine lv_iload hx hb dX2_countAfter_61 (lv_at hl 4 rfl) ?_
      exact fx_iret hx hb hr hlocks (Option.some.inj h) rfl hR hS dX2_countAfter_63
    · have h := ie c h
      refine lv_iload_n hx hb dX2_countAfter_15 rfl (lv_at hl 2 rfl) ?_
      refine lv_if_eq (tgt := 29) hx hb dX2_countAfter_16 (by decide) (fun c => ?_) (fun c => ?_)
      · have h := it c h
        exact qX2_countAfter_b29 C (K6 := fX2_countAfter_L6 w n) (hK6 := @ih) hR hS (lv_sub hl [0, 1, 2, 3, 4, 5] rfl) h
      · have h := ie c h
        refine lv_aload_n hx hb dX2_countAfter_19 rfl (lv_at hl 0 rfl) ?_
        refine lv_iload hx hb dX2_countAfter_20 (lv_at hl 5 rfl) ?_
        refine lv_iload_n hx hb dX2_countAfter_22 rfl (lv_at hl 3 rfl) ?_
        obtain ⟨_, eO, h⟩ := bd h
        obtain ⟨v4, e, h⟩ := bd h
        refine fx_vI (As := [.int x5, .int x3]) (rest := []) hx hb hml hts hown hK hR hS eO (mX2_isSilenced l D dA A e) my_X2_isSilenced mv_X2_isSilenced rfl ml_X2_34 rfl hl.1 rfl (Nat.le_of_ble_eq_true rfl) dX2_countAfter_23 ⟨Nat.le_of_ble_eq_true rfl, Nat.le_of_ble_eq_true rfl⟩ ⟨Nat.le_refl _, Nat.le_refl _⟩ (fun H locs hR hS => ?_)
        refine lv_if_ne (tgt := 33) hx hb dX2_countAfter_26 (by decide) (fun c => ?_) (fun c => ?_)
        · have h := ie c h
          refine lv_iconst (v := 0) hx hb dX2_countAfter_33 (by decide) ?_
          exact qX2_countAfter_b34 C (K6 := fX2_countAfter_L6 w n) (hK6 := @ih) hR hS (lv_sub hl [0, 1, 2, 3, 4, 5] rfl) h
        · have h := it c h
          exact qX2_countAfter_b29 C (K6 := fX2_countAfter_L6 w n) (hK6 := @ih) hR hS (lv_sub hl [0, 1, 2, 3, 4, 5] rfl) h
def fX2_countAfter (w : Fw) (a0 : Nat) (x1 : Int32) (x2 : Int32) (x3 : Int32) : Option (Int32) := (fX2_countAfter_L6 w 1000 a0 x1 x2 x3 0 0)
set_option maxRecDepth 100000 in
set_option maxHeartbeats 4000000 in
theorem mX2_countAfter (l : Launch) (D : va_G) (dA : Nat → ClassId) (A : Nat → Prop) {w : Fw} {a0 : Nat} {x1 : Int32} {x2 : Int32} {x3 : Int32} {res : Int32} (h : fX2_countAfter w a0 x1 x2 x3 = some res) : Met l yX2_countAfter (wz yX2_countAfter cX2_countAfter 7 (some .int)) (rz 1 22) (Pz D dA A w [.ref a0, .int x1, .int x2, .int x3]) (QzI D dA A res w) 0 0 A := by
  refine Met.ofW (cc := cX2_countAfter) (maxL := 7) (ret := (some .int)) (by decide) rfl ?_
  intro p e s m args below meth c s₁ B hml hv
  obtain ⟨rfl, hR, hK⟩ := hv
  have hx := B.exec
  have hb := B.bytes
  have hr := B.returns
  have hts : ∀ w ∈ lw_g, w.before [.ref a0, .int x1, .int x2, .int x3].toArray s = true := fun w hw => atoms_spec (ws := wz yX2_countAfter cX2_countAfter 7 (some .int)) B.pre w (List.mem_cons_of_mem _ hw)
  have hown : s.vm.findClass RX2 = some m.cls := findClass_of_methodNamed B.named
  have hlocks := B.notSynchronized
  have C : Cx p s m [.ref a0, .int x1, .int x2, .int x3].toArray meth c D dA RX2 cX2_countAfter 7 (some .int) := ⟨hx, hb, hr, hml, hown, hts, hK, hlocks⟩
  have hS : va_S A s.heap s.heap [] := va_S.rf
  have hl := lv_entry ([.ref a0, .int x1, .int x2, .int x3]) (n := 7) (Nat.le_of_ble_eq_true rfl)
  rw [lg_entry_eq]
  generalize (lg_sl ([.ref a0, .int x1, .int x2, .int x3]) ++ List.replicate (7 - (lg_sl ([.ref a0, .int x1, .int x2, .int x3])).length) Slot.unset).toArray = ls at hl ⊢
  have hl : lv_has ls 7 [(0, .ref a0), (1, .int x1), (2, .int x2), (3, .int x3)] := hl
  unfold fX2_countAfter at h
  show W p l e (rz 1 22) s m _ below meth c s.heap [] 0 0 _ _
  refine lv_iconst (v := 0) hx hb dX2_countAfter_0 (by decide) ?_
  refine lv_istore (lv' := [(4, .int 0), (0, .ref a0), (1, .int x1), (2, .int x2), (3, .int x3)]) hx hb dX2_countAfter_1 hl (by decide) rfl (fun ls hl => ?_)
  refine lv_iconst (v := 0) hx hb dX2_countAfter_3 (by decide) ?_
  refine lv_istore (lv' := [(5, .int 0), (4, .int 0), (0, .ref a0), (1, .int x1), (2, .int x2), (3, .int x3)]) hx hb dX2_countAfter_4 hl (by decide) rfl (fun ls hl => ?_)
  exact qX2_countAfter_L6 C   1000 hR hS (lv_sub hl [2, 3, 4, 5, 1, 0] rfl) h
def fX3_idAt (w : Fw) (a0 : Nat) (x1 : Int32) : Option (Int32) := ((gR w a0 3 1).bind fun r1 => ((lI w r1 x1).bind fun v2 => some v2))
set_option maxRecDepth 100000 in
set_option maxHeartbeats 4000000 in
theorem mX3_idAt (l : Launch) (D : va_G) (dA : Nat → ClassId) (A : Nat → Prop) {w : Fw} {a0 : Nat} {x1 : Int32} {res : Int32} (h : fX3_idAt w a0 x1 = some res) : Met l yX3_idAt (wz yX3_idAt cX3_idAt 2 (some .int)) (rz 0 0) (Pz D dA A w [.ref a0, .int x1]) (QzI D dA A res w) 0 0 A := by
  refine Met.ofW (cc := cX3_idAt) (maxL := 2) (ret := (some .int)) (by decide) rfl ?_
  intro p e s m args below meth c s₁ B hml hv
  obtain ⟨rfl, hR, hK⟩ := hv
  have hx := B.exec
  have hb := B.bytes
  have hr := B.returns
  have hts : ∀ w ∈ lw_g, w.before [.ref a0, .int x1].toArray s = true := fun w hw => atoms_spec (ws := wz yX3_idAt cX3_idAt 2 (some .int)) B.pre w (List.mem_cons_of_mem _ hw)
  have hown : s.vm.findClass RX3 = some m.cls := findClass_of_methodNamed B.named
  have hlocks := B.notSynchronized
  have C : Cx p s m [.ref a0, .int x1].toArray meth c D dA RX3 cX3_idAt 2 (some .int) := ⟨hx, hb, hr, hml, hown, hts, hK, hlocks⟩
  have hS : va_S A s.heap s.heap [] := va_S.rf
  have hl := lv_entry ([.ref a0, .int x1]) (n := 2) (Nat.le_of_ble_eq_true rfl)
  rw [lg_entry_eq]
  generalize (lg_sl ([.ref a0, .int x1]) ++ List.replicate (2 - (lg_sl ([.ref a0, .int x1])).length) Slot.unset).toArray = ls at hl ⊢
  have hl : lv_has ls 2 [(0, .ref a0), (1, .int x1)] := hl
  unfold fX3_idAt at h
  show W p l e (rz 0 0) s m _ below meth c s.heap [] 0 0 _ _
  refine lv_aload_n hx hb dX3_idAt_0 rfl (lv_at hl 0 rfl) ?_
  obtain ⟨r1, e, h⟩ := bd h
  refine fx_gR hx hb hts hown hK hR fl_X3_16 e dX3_idAt_1 ?_
  refine lv_iload_n hx hb dX3_idAt_4 rfl (lv_at hl 1 rfl) ?_
  obtain ⟨v2, e, h⟩ := bd h
  refine fx_lI hx hb hK hR e dX3_idAt_5 ?_
  exact fx_iret hx hb hr hlocks (Option.some.inj h) rfl hR hS dX3_idAt_6
def fX5_size (w : Fw) (a0 : Nat) : Option (Int32) := ((gI w a0 5 0).bind fun v1 => some v1)
set_option maxRecDepth 100000 in
set_option maxHeartbeats 4000000 in
theorem mX5_size (l : Launch) (D : va_G) (dA : Nat → ClassId) (A : Nat → Prop) {w : Fw} {a0 : Nat} {res : Int32} (h : fX5_size w a0 = some res) : Met l yX5_size (wz yX5_size cX5_size 1 (some .int)) (rz 0 0) (Pz D dA A w [.ref a0]) (QzI D dA A res w) 0 0 A := by
  refine Met.ofW (cc := cX5_size) (maxL := 1) (ret := (some .int)) (by decide) rfl ?_
  intro p e s m args below meth c s₁ B hml hv
  obtain ⟨rfl, hR, hK⟩ := hv
  have hx := B.exec
  have hb := B.bytes
  have hr := B.returns
  have hts : ∀ w ∈ lw_g, w.before [.ref a0].toArray s = true := fun w hw => atoms_spec (ws := wz yX5_size cX5_size 1 (some .int)) B.pre w (List.mem_cons_of_mem _ hw)
  have hown : s.vm.findClass RX5 = some m.cls := findClass_of_methodNamed B.named
  have hlocks := B.notSynchronized
  have C : Cx p s m [.ref a0].toArray meth c D dA RX5 cX5_size 1 (some .int) := ⟨hx, hb, hr, hml, hown, hts, hK, hlocks⟩
  have hS : va_S A s.heap s.heap [] := va_S.rf
  have hl := lv_entry ([.ref a0]) (n := 1) (Nat.le_of_ble_eq_true rfl)
  rw [lg_entry_eq]
  generalize (lg_sl ([.ref a0]) ++ List.replicate (1 - (lg_sl ([.ref a0])).length) Slot.unset).toArray = ls at hl ⊢
  have hl : lv_has ls 1 [(0, .ref a0)] := hl
  unfold fX5_size at h
  show W p l e (rz 0 0) s m _ below meth c s.heap [] 0 0 _ _
  refine lv_aload_n hx hb dX5_size_0 rfl (lv_at hl 0 rfl) ?_
  obtain ⟨v1, e, h⟩ := bd h
  refine fx_gI hx hb hts hown hK hR fl_X5_15 e dX5_size_1 ?_
  exact fx_iret hx hb hr hlocks (Option.some.inj h) rfl hR hS dX5_size_4
def fX4_byteAt (w : Fw) (a0 : Nat) (x1 : Int32) : Option (Int32) := ((gR w a0 4 1).bind fun r1 => ((lI w r1 x1).bind fun v2 => some v2))
set_option maxRecDepth 100000 in
set_option maxHeartbeats 4000000 in
theorem mX4_byteAt (l : Launch) (D : va_G) (dA : Nat → ClassId) (A : Nat → Prop) {w : Fw} {a0 : Nat} {x1 : Int32} {res : Int32} (h : fX4_byteAt w a0 x1 = some res) : Met l yX4_byteAt (wz yX4_byteAt cX4_byteAt 2 (some .int)) (rz 0 0) (Pz D dA A w [.ref a0, .int x1]) (QzI D dA A res w) 0 0 A := by
  refine Met.ofW (cc := cX4_byteAt) (maxL := 2) (ret := (some .int)) (by decide) rfl ?_
  intro p e s m args below meth c s₁ B hml hv
  obtain ⟨rfl, hR, hK⟩ := hv
  have hx := B.exec
  have hb := B.bytes
  have hr := B.returns
  have hts : ∀ w ∈ lw_g, w.before [.ref a0, .int x1].toArray s = true := fun w hw => atoms_spec (ws := wz yX4_byteAt cX4_byteAt 2 (some .int)) B.pre w (List.mem_cons_of_mem _ hw)
  have hown : s.vm.findClass RX4 = some m.cls := findClass_of_methodNamed B.named
  have hlocks := B.notSynchronized
  have C : Cx p s m [.ref a0, .int x1].toArray meth c D dA RX4 cX4_byteAt 2 (some .int) := ⟨hx, hb, hr, hml, hown, hts, hK, hlocks⟩
  have hS : va_S A s.heap s.heap [] := va_S.rf
  have hl := lv_entry ([.ref a0, .int x1]) (n := 2) (Nat.le_of_ble_eq_true rfl)
  rw [lg_entry_eq]
  generalize (lg_sl ([.ref a0, .int x1]) ++ List.replicate (2 - (lg_sl ([.ref a0, .int x1])).length) Slot.unset).toArray = ls at hl ⊢
  have hl : lv_has ls 2 [(0, .ref a0), (1, .int x1)] := hl
  unfold fX4_byteAt at h
  show W p l e (rz 0 0) s m _ below meth c s.heap [] 0 0 _ _
  refine lv_aload_n hx hb dX4_byteAt_0 rfl (lv_at hl 0 rfl) ?_
  obtain ⟨r1, e, h⟩ := bd h
  refine fx_gR hx hb hts hown hK hR fl_X4_9 e dX4_byteAt_1 ?_
  refine lv_iload_n hx hb dX4_byteAt_4 rfl (lv_at hl 1 rfl) ?_
  obtain ⟨v2, e, h⟩ := bd h
  refine fx_lI hx hb hK hR e dX4_byteAt_5 ?_
  exact fx_iret hx hb hr hlocks (Option.some.inj h) rfl hR hS dX4_byteAt_6
def fX5_byteAt (w : Fw) (a0 : Nat) (x1 : Int32) : Option (Int32) := ((gR w a0 5 1).bind fun r1 => ((lI w r1 x1).bind fun v2 => some v2))
set_option maxRecDepth 100000 in
set_option maxHeartbeats 4000000 in
theorem mX5_byteAt (l : Launch) (D : va_G) (dA : Nat → ClassId) (A : Nat → Prop) {w : Fw} {a0 : Nat} {x1 : Int32} {res : Int32} (h : fX5_byteAt w a0 x1 = some res) : Met l yX5_byteAt (wz yX5_byteAt cX5_byteAt 2 (some .int)) (rz 0 0) (Pz D dA A w [.ref a0, .int x1]) (QzI D dA A res w) 0 0 A := by
  refine Met.ofW (cc := cX5_byteAt) (maxL := 2) (ret := (some .int)) (by decide) rfl ?_
  intro p e s m args below meth c s₁ B hml hv
  obtain ⟨rfl, hR, hK⟩ := hv
  have hx := B.exec
  have hb := B.bytes
  have hr := B.returns
  have hts : ∀ w ∈ lw_g, w.before [.ref a0, .int x1].toArray s = true := fun w hw => atoms_spec (ws := wz yX5_byteAt cX5_byteAt 2 (some .int)) B.pre w (List.mem_cons_of_mem _ hw)
  have hown : s.vm.findClass RX5 = some m.cls := findClass_of_methodNamed B.named
  have hlocks := B.notSynchronized
  have C : Cx p s m [.ref a0, .int x1].toArray meth c D dA RX5 cX5_byteAt 2 (some .int) := ⟨hx, hb, hr, hml, hown, hts, hK, hlocks⟩
  have hS : va_S A s.heap s.heap [] := va_S.rf
  have hl := lv_entry ([.ref a0, .int x1]) (n := 2) (Nat.le_of_ble_eq_true rfl)
  rw [lg_entry_eq]
  generalize (lg_sl ([.ref a0, .int x1]) ++ List.replicate (2 - (lg_sl ([.ref a0, .int x1])).length) Slot.unset).toArray = ls at hl ⊢
  have hl : lv_has ls 2 [(0, .ref a0), (1, .int x1)] := hl
  unfold fX5_byteAt at h
  show W p l e (rz 0 0) s m _ below meth c s.heap [] 0 0 _ _
  refine lv_aload_n hx hb dX5_byteAt_0 rfl (lv_at hl 0 rfl) ?_
  obtain ⟨r1, e, h⟩ := bd h
  refine fx_gR hx hb hts hown hK hR fl_X5_9 e dX5_byteAt_1 ?_
  refine lv_iload_n hx hb dX5_byteAt_4 rfl (lv_at hl 1 rfl) ?_
  obtain ⟨v2, e, h⟩ := bd h
  refine fx_lI hx hb hK hR e dX5_byteAt_5 ?_
  exact fx_iret hx hb hr hlocks (Option.some.inj h) rfl hR hS dX5_byteAt_6
def fX3_longestFrom_b17 (w : Fw)   : Option (Int32) := some (0 : Int32)
set_option maxRecDepth 100000 in
set_option maxHeartbeats 4000000 in
theorem qX3_longestFrom_b17 {p : Program} {l : Launch} {e : Env} {s : State} {m : MethodId} {args : Array Value} {below : List Frame} {meth : Method} {c : Code} {D : va_G} {dA : Nat → ClassId} {A : Nat → Prop} (C : Cx p s m args meth c D dA RX3 cX3_longestFrom 5 (some .int)) {w : Fw} {res : Int32}   {H : Heap} {locs : List Loc} {ls : Array Slot}  (hR : Rp D dA A w H) (hS : va_S A s.heap H locs) (hl : lv_has ls 5 []) (h : fX3_longestFrom_b17 w = some res) : W p l e (rz 1 21) s m args below meth c H locs 0 0 (MQ below (QzI D dA A res w) args s 0 0 A) (F0 m 17 ls []) := by
  obtain ⟨hx, hb, hr, hml, hown, hts, hK, hlocks⟩ := id C
  unfold fX3_longestFrom_b17 at h
  refine lv_iconst (v := 0) hx hb dX3_longestFrom_17 (by decide) ?_
  exact fx_iret hx hb hr hlocks (Option.some.inj h) rfl hR hS dX3_longestFrom_18
def fX3_longestFrom (w : Fw) (a0 : Nat) (a1 : Nat) (a2 : Nat) (x3 : Int32) (x4 : Int32) : Option (Int32) := ((isO w a1 4).bind fun _ => ((fX4_size w a1).bind fun v1 => (if v1 ≤ x3 then (fX3_longestFrom_b17 w) else ((isO w a2 5).bind fun _ => ((fX5_size w a2).bind fun v2 => (if x4 < v2 then ((isO w a1 4).bind fun _ => ((fX4_byteAt w a1 x3).bind fun v3 => ((isO w a2 5).bind fun _ => ((fX5_byteAt w a2 x4).bind fun v4 => (if v3 = v4 then ((gR w a0 3 0).bind fun r11 => ((lR w 1 r11 (x3 + 1)).bind fun r12 => ((lI w r12 (x4 + 1)).bind fun v13 => some (1 + v13)))) else ((gR w a0 3 0).bind fun r5 => ((lR w 1 r5 (x3 + 1)).bind fun r6 => ((lI w r6 x4).bind fun v7 => ((gR w a0 3 0).bind fun r8 => ((lR w 1 r8 x3).bind fun r9 => ((lI w r9 (x4 + 1)).bind fun v10 => some (if v7 < v10 then v10 else v7)))))))))))) else (fX3_longestFrom_b17 w)))))))
set_option maxRecDepth 100000 in
set_option maxHeartbeats 4000000 in
theorem mX3_longestFrom (l : Launch) (D : va_G) (dA : Nat → ClassId) (A : Nat → Prop) {w : Fw} {a0 : Nat} {a1 : Nat} {a2 : Nat} {x3 : Int32} {x4 : Int32} {res : Int32} (h : fX3_longestFrom w a0 a1 a2 x3 x4 = some res) : Met l yX3_longestFrom (wz yX3_longestFrom cX3_longestFrom 5 (some .int)) (rz 1 21) (Pz D dA A w [.ref a0, .ref a1, .ref a2, .int x3, .int x4]) (QzI D dA A res w) 0 0 A := by
  refine Met.ofW (cc := cX3_longestFrom) (maxL := 5) (ret := (some .int)) (by decide) rfl ?_
  intro p e s m args below meth c s₁ B hml hv
  obtain ⟨rfl, hR, hK⟩ := hv
  have hx := B.exec
  have hb := B.bytes
  have hr := B.returns
  have hts : ∀ w ∈ lw_g, w.before [.ref a0, .ref a1, .ref a2, .int x3, .int x4].toArray s = true := fun w hw => atoms_spec (ws := wz yX3_longestFrom cX3_longestFrom 5 (some .int)) B.pre w (List.mem_cons_of_mem _ hw)
  have hown : s.vm.findClass RX3 = some m.cls := findClass_of_methodNamed B.named
  have hlocks := B.notSynchronized
  have C : Cx p s m [.ref a0, .ref a1, .ref a2, .int x3, .int x4].toArray meth c D dA RX3 cX3_longestFrom 5 (some .int) := ⟨hx, hb, hr, hml, hown, hts, hK, hlocks⟩
  have hS : va_S A s.heap s.heap [] := va_S.rf
  have hl := lv_entry ([.ref a0, .ref a1, .ref a2, .int x3, .int x4]) (n := 5) (Nat.le_of_ble_eq_true rfl)
  rw [lg_entry_eq]
  generalize (lg_sl ([.ref a0, .ref a1, .ref a2, .int x3, .int x4]) ++ List.replicate (5 - (lg_sl ([.ref a0, .ref a1, .ref a2, .int x3, .int x4])).length) Slot.unset).toArray = ls at hl ⊢
  have hl : lv_has ls 5 [(0, .ref a0), (1, .ref a1), (2, .ref a2), (3, .int x3), (4, .int x4)] := hl
  unfold fX3_longestFrom at h
  show W p l e (rz 1 21) s m _ below meth c s.heap [] 0 0 _ _
  refine lv_iload_n hx hb dX3_longestFrom_0 rfl (lv_at hl 3 rfl) ?_
  refine lv_aload_n hx hb dX3_longestFrom_1 rfl (lv_at hl 1 rfl) ?_
  obtain ⟨_, eO, h⟩ := bd h
  obtain ⟨v1, e, h⟩ := bd h
  refine fx_vI (As := []) (rest := [.int x3]) hx hb hml hts hown hK hR hS eO (mX4_size l D dA A e) my_X4_size mv_X4_size rfl ml_X3_30 rfl hl.1 rfl (Nat.le_of_ble_eq_true rfl) dX3_longestFrom_2 ⟨Nat.le_of_ble_eq_true rfl, Nat.le_of_ble_eq_true rfl⟩ ⟨Nat.le_refl _, Nat.le_refl _⟩ (fun H locs hR hS => ?_)
  refine lv_icmp_ge (tgt := 17) hx hb dX3_longestFrom_5 (by decide) (fun c => ?_) (fun c => ?_)
  · have h := it c h
    exact qX3_longestFrom_b17 C   hR hS (lv_sub hl [] rfl) h
  · have h := ie c h
    refine lv_iload hx hb dX3_longestFrom_8 (lv_at hl 4 rfl) ?_
    refine lv_aload_n hx hb dX3_longestFrom_10 rfl (lv_at hl 2 rfl) ?_
    obtain ⟨_, eO, h⟩ := bd h
    obtain ⟨v2, e, h⟩ := bd h
    refine fx_vI (As := []) (rest := [.int x4]) hx hb hml hts hown hK hR hS eO (mX5_size l D dA A e) my_X5_size mv_X5_size rfl ml_X3_20 rfl hl.1 rfl (Nat.le_of_ble_eq_true rfl) dX3_longestFrom_11 ⟨Nat.le_of_ble_eq_true rfl, Nat.le_of_ble_eq_true rfl⟩ ⟨Nat.le_refl _, Nat.le_refl _⟩ (fun H locs hR hS => ?_)
    refine lv_icmp_lt (tgt := 19) hx hb dX3_longestFrom_14 (by decide) (fun c => ?_) (fun c => ?_)
    · have h := it c h
      refine lv_aload_n hx hb dX3_longestFrom_19 rfl (lv_at hl 1 rfl) ?_
      refine lv_iload_n hx hb dX3_longestFrom_20 rfl (lv_at hl 3 rfl) ?_
      obtain ⟨_, eO, h⟩ := bd h
      obtain ⟨v3, e, h⟩ := bd h
      refine fx_vI (As := [.int x3]) (rest := []) hx hb hml hts hown hK hR hS eO (mX4_byteAt l D dA A e) my_X4_byteAt mv_X4_byteAt rfl ml_X3_37 rfl hl.1 rfl (Nat.le_of_ble_eq_true rfl) dX3_longestFrom_21 ⟨Nat.le_of_ble_eq_true rfl, Nat.le_of_ble_eq_true rfl⟩ ⟨Nat.le_refl _, Nat.le_refl _⟩ (fun H locs hR hS => ?_)
      refine lv_aload_n hx hb dX3_longestFrom_24 rfl (lv_at hl 2 rfl) ?_
      refine lv_iload hx hb dX3_longestFrom_25 (lv_at hl 4 rfl) ?_
      obtain ⟨_, eO, h⟩ := bd h
      obtain ⟨v4, e, h⟩ := bd h
      refine fx_vI (As := [.int x4]) (rest := [.int v3]) hx hb hml hts hown hK hR hS eO (mX5_byteAt l D dA A e) my_X5_byteAt mv_X5_byteAt rfl ml_X3_41 rfl hl.1 rfl (Nat.le_of_ble_eq_true rfl) dX3_longestFrom_27 ⟨Nat.le_of_ble_eq_true rfl, Nat.le_of_ble_eq_true rfl⟩ ⟨Nat.le_refl _, Nat.le_refl _⟩ (fun H locs hR hS => ?_)
      refine lv_icmp_ne (tgt := 49) hx hb dX3_longestFrom_30 (by decide) (fun c => ?_) (fun c => ?_)
      · have h := ie c h
        refine lv_aload_n hx hb dX3_longestFrom_49 rfl (lv_at hl 0 rfl) ?_
        obtain ⟨r5, e, h⟩ := bd h
        refine fx_gR hx hb hts hown hK hR fl_X3_11 e dX3_longestFrom_50 ?_
        refine lv_iload_n hx hb dX3_longestFrom_53 rfl (lv_at hl 3 rfl) ?_
        refine lv_iconst (v := 1) hx hb dX3_longestFrom_54 (by decide) ?_
        refine lv_iadd hx hb dX3_longestFrom_55 ?_
        obtain ⟨r6, e, h⟩ := bd h
        refine fx_lR hx hb hK hR (kd := 1) rfl rfl e dX3_longestFrom_56 ?_
        refine lv_iload hx hb dX3_longestFrom_57 (lv_at hl 4 rfl) ?_
        obtain ⟨v7, e, h⟩ := bd h
        refine fx_lI hx hb hK hR e dX3_longestFrom_59 ?_
        refine lv_aload_n hx hb dX3_longestFrom_60 rfl (lv_at hl 0 rfl) ?_
        obtain ⟨r8, e, h⟩ := bd h
        refine fx_gR hx hb hts hown hK hR fl_X3_11 e dX3_longestFrom_61 ?_
        refine lv_iload_n hx hb dX3_longestFrom_64 rfl (lv_at hl 3 rfl) ?_
        obtain ⟨r9, e, h⟩ := bd h
        refine fx_lR hx hb hK hR (kd := 1) rfl rfl e dX3_longestFrom_65 ?_
        refine lv_iload hx hb dX3_longestFrom_66 (lv_at hl 4 rfl) ?_
        refine lv_iconst (v := 1) hx hb dX3_longestFrom_68 (by decide) ?_
        refine lv_iadd hx hb dX3_longestFrom_69 ?_
        obtain ⟨v10, e, h⟩ := bd h
        refine fx_lI hx hb hK hR e dX3_longestFrom_70 ?_
        refine va_mmax hx hb (by rw [hml]; exact hl.1.symm) hown (hts _ ml_X3_49) (hts _ ms_max) (hts _ mi_Math) (hts _ mc_max) (Nat.le_of_ble_eq_true rfl) (Nat.le_of_ble_eq_true rfl) (Nat.le_refl _) (Nat.le_refl _) dX3_longestFrom_71 ?_
        exact fx_iret hx hb hr hlocks (Option.some.inj h) rfl hR hS dX3_longestFrom_74
      · have h := it c h
        refine lv_iconst (v := 1) hx hb dX3_longestFrom_33 (by decide) ?_
        refine lv_aload_n hx hb dX3_longestFrom_34 rfl (lv_at hl 0 rfl) ?_
        obtain ⟨r11, e, h⟩ := bd h
        refine fx_gR hx hb hts hown hK hR fl_X3_11 e dX3_longestFrom_35 ?_
        refine lv_iload_n hx hb dX3_longestFrom_38 rfl (lv_at hl 3 rfl) ?_
        refine lv_iconst (v := 1) hx hb dX3_longestFrom_39 (by decide) ?_
        refine lv_iadd hx hb dX3_longestFrom_40 ?_
        obtain ⟨r12, e, h⟩ := bd h
        refine fx_lR hx hb hK hR (kd := 1) rfl rfl e dX3_longestFrom_41 ?_
        refine lv_iload hx hb dX3_longestFrom_42 (lv_at hl 4 rfl) ?_
        refine lv_iconst (v := 1) hx hb dX3_longestFrom_44 (by decide) ?_
        refine lv_iadd hx hb dX3_longestFrom_45 ?_
        obtain ⟨v13, e, h⟩ := bd h
        refine fx_lI hx hb hK hR e dX3_longestFrom_46 ?_
        refine lv_iadd hx hb dX3_longestFrom_47 ?_
        exact fx_iret hx hb hr hlocks (Option.some.inj h) rfl hR hS dX3_longestFrom_48
    · have h := ie c h
      exact qX3_longestFrom_b17 C   hR hS (lv_sub hl [] rfl) h
def fX3_measure_L15 (K5 : Fw → Nat → Nat → Nat → Int32 → Option (Fw)) : Nat → Fw → Nat → Nat → Nat → Int32 → Int32 → Option (Fw)
  | 0, _, _, _, _, _, _ => none
  | n + 1, w, a0, a1, a2, x3, x4 => if x4 < 0 then (K5 w a0 a1 a2 (x3 + (-1))) else ((gR w a0 3 0).bind fun r1 => ((lR w 1 r1 x3).bind fun r2 => ((isO w a0 3).bind fun _ => ((fX3_longestFrom w a0 a1 a2 x3 x4).bind fun v3 => ((sI w r2 x4 v3).bind fun w4 => (fX3_measure_L15 K5 n w4 a0 a1 a2 x3 (x4 + (-1))))))))
set_option maxRecDepth 100000 in
set_option maxHeartbeats 4000000 in
theorem qX3_measure_L15 {p : Program} {l : Launch} {e : Env} {s : State} {m : MethodId} {args : Array Value} {below : List Frame} {meth : Method} {c : Code} {D : va_G} {dA : Nat → ClassId} {A : Nat → Prop} (C : Cx p s m args meth c D dA RX3 cX3_measure 5 none) {res : Fw} {K5 : Fw → Nat → Nat → Nat → Int32 → Option (Fw)} (hK5 : ∀ {w : Fw} {H : Heap} {locs : List Loc} {ls : Array Slot} {a0 : Nat} {a1 : Nat} {a2 : Nat} {x3 : Int32}, Rp D dA A w H → va_S A s.heap H locs → lv_has ls 5 [(0, .ref a0), (1, .ref a1), (2, .ref a2), (3, .int x3)] → K5 w a0 a1 a2 x3 = some res → W p l e (rz 2 45) s m args below meth c H locs 0 0 (MQ below (QzV D dA A res) args s 0 0 A) (F0 m 5 ls [])) : ∀ (n : Nat) {w : Fw} {H : Heap} {locs : List Loc} {ls : Array Slot} {a0 : Nat} {a1 : Nat} {a2 : Nat} {x3 : Int32} {x4 : Int32}, Rp D dA A w H → va_S A s.heap H locs → lv_has ls 5 [(0, .ref a0), (1, .ref a1), (2, .ref a2), (3, .int x3), (4, .int x4)] → fX3_measure_L15 K5 n w a0 a1 a2 x3 x4 = some res → W p l e (rz 2 45) s m args below meth c H locs 0 0 (MQ below (QzV D dA A res) args s 0 0 A) (F0 m 15 ls []) := by
  obtain ⟨hx, hb, hr, hml, hown, hts, hK, hlocks⟩ := id C
  intro n
  induction n with
  | zero =>
    intro w H locs ls a0 a1 a2 x3 x4 hR hS hl h
    rw [fX3_measure_L15.eq_1] at h
    cases h
  | succ n ih =>
    intro w H locs ls a0 a1 a2 x3 x4 hR hS hl h
    rw [fX3_measure_L15.eq_2] at h
    refine lv_iload hx hb dX3_measure_15 (lv_at hl 4 rfl) ?_
    refine lv_if_lt (tgt := 44) hx hb dX3_measure_17 (by decide) (fun c => ?_) (fun c => ?_)
    · have h := it c h
      refine lv_iinc (v := (x3 + (-1))) (lv' := [(3, .int (x3 + (-1))), (0, .ref a0), (1, .ref a1), (2, .ref a2), (4, .int x4)]) hx hb dX3_measure_44 hl (k := 3) rfl rfl (by decide) rfl (fun ls hl => ?_)
      refine lv_goto (tgt := 5) hx hb dX3_measure_47 (by decide) ?_
      exact hK5 hR hS (lv_sub hl [1, 2, 3, 0] rfl) h
    · have h := ie c h
      refine lv_aload_n hx hb dX3_measure_20 rfl (lv_at hl 0 rfl) ?_
      obtain ⟨r1, e, h⟩ := bd h
      refine fx_gR hx hb hts hown hK hR fl_X3_11 e dX3_measure_21 ?_
      refine lv_iload_n hx hb dX3_measure_24 rfl (lv_at hl 3 rfl) ?_
      obtain ⟨r2, e, h⟩ := bd h
      refine fx_lR hx hb hK hR (kd := 1) rfl rfl e dX3_measure_25 ?_
      refine lv_iload hx hb dX3_measure_26 (lv_at hl 4 rfl) ?_
      refine lv_aload_n hx hb dX3_measure_28 rfl (lv_at hl 0 rfl) ?_
      refine lv_aload_n hx hb dX3_measure_29 rfl (lv_at hl 1 rfl) ?_
      refine lv_aload_n hx hb dX3_measure_30 rfl (lv_at hl 2 rfl) ?_
      refine lv_iload_n hx hb dX3_measure_31 rfl (lv_at hl 3 rfl) ?_
      refine lv_iload hx hb dX3_measure_32 (lv_at hl 4 rfl) ?_
      obtain ⟨_, eO, h⟩ := bd h
      obtain ⟨v3, e, h⟩ := bd h
      refine fx_vI (As := [.ref a1, .ref a2, .int x3, .int x4]) (rest := [.int x4, .ref r2]) hx hb hml hts hown hK hR hS eO (mX3_longestFrom l D dA A e) my_X3_longestFrom mv_X3_longestFrom rfl ml_X3_45 rfl hl.1 rfl (Nat.le_of_ble_eq_true rfl) dX3_measure_34 ⟨Nat.le_of_ble_eq_true rfl, Nat.le_of_ble_eq_true rfl⟩ ⟨Nat.le_refl _, Nat.le_refl _⟩ (fun H locs hR hS => ?_)
      obtain ⟨w4, e, h⟩ := bd h
      refine fx_sI hx hb hK hR hS e dX3_measure_37 (fun H locs hR hS => ?_)
      refine lv_iinc (v := (x4 + (-1))) (lv' := [(4, .int (x4 + (-1))), (0, .ref a0), (1, .ref a1), (2, .ref a2), (3, .int x3)]) hx hb dX3_measure_38 hl (k := 4) rfl rfl (by decide) rfl (fun ls hl => ?_)
      refine lv_goto (tgt := 15) hx hb dX3_measure_41 (by decide) ?_
      exact ih hR hS (lv_sub hl [1, 2, 3, 4, 0] rfl) h
def fX3_measure_L5  : Nat → Fw → Nat → Nat → Nat → Int32 → Option (Fw)
  | 0, _, _, _, _, _ => none
  | n + 1, w, a0, a1, a2, x3 => if x3 < 0 then some w else ((isO w a2 5).bind fun _ => ((fX5_size w a2).bind fun v5 => (fX3_measure_L15 (fX3_measure_L5  n) 1000 w a0 a1 a2 x3 v5)))
set_option maxRecDepth 100000 in
set_option maxHeartbeats 4000000 in
theorem qX3_measure_L5 {p : Program} {l : Launch} {e : Env} {s : State} {m : MethodId} {args : Array Value} {below : List Frame} {meth : Method} {c : Code} {D : va_G} {dA : Nat → ClassId} {A : Nat → Prop} (C : Cx p s m args meth c D dA RX3 cX3_measure 5 none) {res : Fw}   : ∀ (n : Nat) {w : Fw} {H : Heap} {locs : List Loc} {ls : Array Slot} {a0 : Nat} {a1 : Nat} {a2 : Nat} {x3 : Int32}, Rp D dA A w H → va_S A s.heap H locs → lv_has ls 5 [(0, .ref a0), (1, .ref a1), (2, .ref a2), (3, .int x3)] → fX3_measure_L5 n w a0 a1 a2 x3 = some res → W p l e (rz 2 45) s m args below meth c H locs 0 0 (MQ below (QzV D dA A res) args s 0 0 A) (F0 m 5 ls []) := by
  obtain ⟨hx, hb, hr, hml, hown, hts, hK, hlocks⟩ := id C
  intro n
  induction n with
  | zero =>
    intro w H locs ls a0 a1 a2 x3 hR hS hl h
    rw [fX3_measure_L5.eq_1] at h
    cases h
  | succ n ih =>
    intro w H locs ls a0 a1 a2 x3 hR hS hl h
    rw [fX3_measure_L5.eq_2] at h
    refine lv_iload_n hx hb dX3_measure_5 rfl (lv_at hl 3 rfl) ?_
    refine lv_if_lt (tgt := 50) hx hb dX3_measure_6 (by decide) (fun c => ?_) (fun c => ?_)
    · have h := it c h
      exact fx_vret hx hb hr hlocks (Option.some.inj h) hR hS dX3_measure_50
    · have h := ie c h
      refine lv_aload_n hx hb dX3_measure_9 rfl (lv_at hl 2 rfl) ?_
      obtain ⟨_, eO, h⟩ := bd h
      obtain ⟨v5, e, h⟩ := bd h
      refine fx_vI (As := []) (rest := []) hx hb hml hts hown hK hR hS eO (mX5_size l D dA A e) my_X5_size mv_X5_size rfl ml_X3_20 rfl hl.1 rfl (Nat.le_of_ble_eq_true rfl) dX3_measure_10 ⟨Nat.le_of_ble_eq_true rfl, Nat.le_of_ble_eq_true rfl⟩ ⟨Nat.le_refl _, Nat.le_refl _⟩ (fun H locs hR hS => ?_)
      refine lv_istore (lv' := [(4, .int v5), (0, .ref a0), (1, .ref a1), (2, .ref a2), (3, .int x3)]) hx hb dX3_measure_13 hl (by decide) rfl (fun ls hl => ?_)
      exact qX3_measure_L15 C (K5 := fX3_measure_L5  n) (hK5 := @ih) 1000 hR hS (lv_sub hl [1, 2, 3, 4, 0] rfl) h
def fX3_measure (w : Fw) (a0 : Nat) (a1 : Nat) (a2 : Nat) : Option (Fw) := ((isO w a1 4).bind fun _ => ((fX4_size w a1).bind fun v6 => (fX3_measure_L5 1000 w a0 a1 a2 v6)))
set_option maxRecDepth 100000 in
set_option maxHeartbeats 4000000 in
theorem mX3_measure (l : Launch) (D : va_G) (dA : Nat → ClassId) (A : Nat → Prop) {w : Fw} {a0 : Nat} {a1 : Nat} {a2 : Nat} {res : Fw} (h : fX3_measure w a0 a1 a2 = some res) : Met l yX3_measure (wz yX3_measure cX3_measure 5 none) (rz 2 45) (Pz D dA A w [.ref a0, .ref a1, .ref a2]) (QzV D dA A res) 0 0 A := by
  refine Met.ofW (cc := cX3_measure) (maxL := 5) (ret := none) (by decide) rfl ?_
  intro p e s m args below meth c s₁ B hml hv
  obtain ⟨rfl, hR, hK⟩ := hv
  have hx := B.exec
  have hb := B.bytes
  have hr := B.returns
  have hts : ∀ w ∈ lw_g, w.before [.ref a0, .ref a1, .ref a2].toArray s = true := fun w hw => atoms_spec (ws := wz yX3_measure cX3_measure 5 none) B.pre w (List.mem_cons_of_mem _ hw)
  have hown : s.vm.findClass RX3 = some m.cls := findClass_of_methodNamed B.named
  have hlocks := B.notSynchronized
  have C : Cx p s m [.ref a0, .ref a1, .ref a2].toArray meth c D dA RX3 cX3_measure 5 none := ⟨hx, hb, hr, hml, hown, hts, hK, hlocks⟩
  have hS : va_S A s.heap s.heap [] := va_S.rf
  have hl := lv_entry ([.ref a0, .ref a1, .ref a2]) (n := 5) (Nat.le_of_ble_eq_true rfl)
  rw [lg_entry_eq]
  generalize (lg_sl ([.ref a0, .ref a1, .ref a2]) ++ List.replicate (5 - (lg_sl ([.ref a0, .ref a1, .ref a2])).length) Slot.unset).toArray = ls at hl ⊢
  have hl : lv_has ls 5 [(0, .ref a0), (1, .ref a1), (2, .ref a2)] := hl
  unfold fX3_measure at h
  show W p l e (rz 2 45) s m _ below meth c s.heap [] 0 0 _ _
  refine lv_aload_n hx hb dX3_measure_0 rfl (lv_at hl 1 rfl) ?_
  obtain ⟨_, eO, h⟩ := bd h
  obtain ⟨v6, e, h⟩ := bd h
  refine fx_vI (As := []) (rest := []) hx hb hml hts hown hK hR hS eO (mX4_size l D dA A e) my_X4_size mv_X4_size rfl ml_X3_30 rfl hl.1 rfl (Nat.le_of_ble_eq_true rfl) dX3_measure_1 ⟨Nat.le_of_ble_eq_true rfl, Nat.le_of_ble_eq_true rfl⟩ ⟨Nat.le_refl _, Nat.le_refl _⟩ (fun H locs hR hS => ?_)
  refine lv_istore_n (lv' := [(3, .int v6), (0, .ref a0), (1, .ref a1), (2, .ref a2)]) hx hb dX3_measure_4 rfl hl (by decide) rfl (fun ls hl => ?_)
  exact qX3_measure_L5 C   1000 hR hS (lv_sub hl [1, 2, 3, 0] rfl) h
def fX3_isGone_b42 (w : Fw)  (s0 : Int32) : Option (Int32) := zb s0
set_option maxRecDepth 100000 in
set_option maxHeartbeats 4000000 in
theorem qX3_isGone_b42 {p : Program} {l : Launch} {e : Env} {s : State} {m : MethodId} {args : Array Value} {below : List Frame} {meth : Method} {c : Code} {D : va_G} {dA : Nat → ClassId} {A : Nat → Prop} (C : Cx p s m args meth c D dA RX3 cX3_isGone 5 (some .boolean)) {w : Fw} {res : Int32}   {H : Heap} {locs : List Loc} {ls : Array Slot} {s0 : Int32} (hR : Rp D dA A w H) (hS : va_S A s.heap H locs) (hl : lv_has ls 5 []) (h : fX3_isGone_b42 w s0 = some res) : W p l e (rz 1 21) s m args below meth c H locs 0 0 (MQ below (QzI D dA A res w) args s 0 0 A) (F0 m 42 ls [.int s0]) := by
  obtain ⟨hx, hb, hr, hml, hown, hts, hK, hlocks⟩ := id C
  unfold fX3_isGone_b42 at h
  exact fx_zret hx hb hr hlocks h rfl hR hS dX3_isGone_42
def fX3_isGone_b41 (w : Fw)   : Option (Int32) := (fX3_isGone_b42 w 0)
set_option maxRecDepth 100000 in
set_option maxHeartbeats 4000000 in
theorem qX3_isGone_b41 {p : Program} {l : Launch} {e : Env} {s : State} {m : MethodId} {args : Array Value} {below : List Frame} {meth : Method} {c : Code} {D : va_G} {dA : Nat → ClassId} {A : Nat → Prop} (C : Cx p s m args meth c D dA RX3 cX3_isGone 5 (some .boolean)) {w : Fw} {res : Int32}   {H : Heap} {locs : List Loc} {ls : Array Slot}  (hR : Rp D dA A w H) (hS : va_S A s.heap H locs) (hl : lv_has ls 5 []) (h : fX3_isGone_b41 w = some res) : W p l e (rz 1 21) s m args below meth c H locs 0 0 (MQ below (QzI D dA A res w) args s 0 0 A) (F0 m 41 ls []) := by
  obtain ⟨hx, hb, hr, hml, hown, hts, hK, hlocks⟩ := id C
  unfold fX3_isGone_b41 at h
  refine lv_iconst (v := 0) hx hb dX3_isGone_41 (by decide) ?_
  exact qX3_isGone_b42 C   hR hS (lv_sub hl [] rfl) h
def fX3_isGone (w : Fw) (a0 : Nat) (a1 : Nat) (a2 : Nat) (x3 : Int32) (x4 : Int32) : Option (Int32) := ((isO w a1 4).bind fun _ => ((fX4_byteAt w a1 x3).bind fun v1 => ((isO w a2 5).bind fun _ => ((fX5_byteAt w a2 x4).bind fun v2 => (if v1 = v2 then (fX3_isGone_b41 w) else ((gR w a0 3 0).bind fun r3 => ((lR w 1 r3 (x3 + 1)).bind fun r4 => ((lI w r4 x4).bind fun v5 => ((gR w a0 3 0).bind fun r6 => ((lR w 1 r6 x3).bind fun r7 => ((lI w r7 x4).bind fun v8 => (if v5 = v8 then (fX3_isGone_b42 w 1) else (fX3_isGone_b41 w)))))))))))))
set_option maxRecDepth 100000 in
set_option maxHeartbeats 4000000 in
theorem mX3_isGone (l : Launch) (D : va_G) (dA : Nat → ClassId) (A : Nat → Prop) {w : Fw} {a0 : Nat} {a1 : Nat} {a2 : Nat} {x3 : Int32} {x4 : Int32} {res : Int32} (h : fX3_isGone w a0 a1 a2 x3 x4 = some res) : Met l yX3_isGone (wz yX3_isGone cX3_isGone 5 (some .boolean)) (rz 1 21) (Pz D dA A w [.ref a0, .ref a1, .ref a2, .int x3, .int x4]) (QzI D dA A res w) 0 0 A := by
  refine Met.ofW (cc := cX3_isGone) (maxL := 5) (ret := (some .boolean)) (by decide) rfl ?_
  intro p e s m args below meth c s₁ B hml hv
  obtain ⟨rfl, hR, hK⟩ := hv
  have hx := B.exec
  have hb := B.bytes
  have hr := B.returns
  have hts : ∀ w ∈ lw_g, w.before [.ref a0, .ref a1, .ref a2, .int x3, .int x4].toArray s = true := fun w hw => atoms_spec (ws := wz yX3_isGone cX3_isGone 5 (some .boolean)) B.pre w (List.mem_cons_of_mem _ hw)
  have hown : s.vm.findClass RX3 = some m.cls := findClass_of_methodNamed B.named
  have hlocks := B.notSynchronized
  have C : Cx p s m [.ref a0, .ref a1, .ref a2, .int x3, .int x4].toArray meth c D dA RX3 cX3_isGone 5 (some .boolean) := ⟨hx, hb, hr, hml, hown, hts, hK, hlocks⟩
  have hS : va_S A s.heap s.heap [] := va_S.rf
  have hl := lv_entry ([.ref a0, .ref a1, .ref a2, .int x3, .int x4]) (n := 5) (Nat.le_of_ble_eq_true rfl)
  rw [lg_entry_eq]
  generalize (lg_sl ([.ref a0, .ref a1, .ref a2, .int x3, .int x4]) ++ List.replicate (5 - (lg_sl ([.ref a0, .ref a1, .ref a2, .int x3, .int x4])).length) Slot.unset).toArray = ls at hl ⊢
  have hl : lv_has ls 5 [(0, .ref a0), (1, .ref a1), (2, .ref a2), (3, .int x3), (4, .int x4)] := hl
  unfold fX3_isGone at h
  show W p l e (rz 1 21) s m _ below meth c s.heap [] 0 0 _ _
  refine lv_aload_n hx hb dX3_isGone_0 rfl (lv_at hl 1 rfl) ?_
  refine lv_iload_n hx hb dX3_isGone_1 rfl (lv_at hl 3 rfl) ?_
  obtain ⟨_, eO, h⟩ := bd h
  obtain ⟨v1, e, h⟩ := bd h
  refine fx_vI (As := [.int x3]) (rest := []) hx hb hml hts hown hK hR hS eO (mX4_byteAt l D dA A e) my_X4_byteAt mv_X4_byteAt rfl ml_X3_37 rfl hl.1 rfl (Nat.le_of_ble_eq_true rfl) dX3_isGone_2 ⟨Nat.le_of_ble_eq_true rfl, Nat.le_of_ble_eq_true rfl⟩ ⟨Nat.le_refl _, Nat.le_refl _⟩ (fun H locs hR hS => ?_)
  refine lv_aload_n hx hb dX3_isGone_5 rfl (lv_at hl 2 rfl) ?_
  refine lv_iload hx hb dX3_isGone_6 (lv_at hl 4 rfl) ?_
  obtain ⟨_, eO, h⟩ := bd h
  obtain ⟨v2, e, h⟩ := bd h
  refine fx_vI (As := [.int x4]) (rest := [.int v1]) hx hb hml hts hown hK hR hS eO (mX5_byteAt l D dA A e) my_X5_byteAt mv_X5_byteAt rfl ml_X3_41 rfl hl.1 rfl (Nat.le_of_ble_eq_true rfl) dX3_isGone_8 ⟨Nat.le_of_ble_eq_true rfl, Nat.le_of_ble_eq_true rfl⟩ ⟨Nat.le_refl _, Nat.le_refl _⟩ (fun H locs hR hS => ?_)
  refine lv_icmp_eq (tgt := 41) hx hb dX3_isGone_11 (by decide) (fun c => ?_) (fun c => ?_)
  · have h := it c h
    exact qX3_isGone_b41 C   hR hS (lv_sub hl [] rfl) h
  · have h := ie c h
    refine lv_aload_n hx hb dX3_isGone_14 rfl (lv_at hl 0 rfl) ?_
    obtain ⟨r3, e, h⟩ := bd h
    refine fx_gR hx hb hts hown hK hR fl_X3_11 e dX3_isGone_15 ?_
    refine lv_iload_n hx hb dX3_isGone_18 rfl (lv_at hl 3 rfl) ?_
    refine lv_iconst (v := 1) hx hb dX3_isGone_19 (by decide) ?_
    refine lv_iadd hx hb dX3_isGone_20 ?_
    obtain ⟨r4, e, h⟩ := bd h
    refine fx_lR hx hb hK hR (kd := 1) rfl rfl e dX3_isGone_21 ?_
    refine lv_iload hx hb dX3_isGone_22 (lv_at hl 4 rfl) ?_
    obtain ⟨v5, e, h⟩ := bd h
    refine fx_lI hx hb hK hR e dX3_isGone_24 ?_
    refine lv_aload_n hx hb dX3_isGone_25 rfl (lv_at hl 0 rfl) ?_
    obtain ⟨r6, e, h⟩ := bd h
    refine fx_gR hx hb hts hown hK hR fl_X3_11 e dX3_isGone_26 ?_
    refine lv_iload_n hx hb dX3_isGone_29 rfl (lv_at hl 3 rfl) ?_
    obtain ⟨r7, e, h⟩ := bd h
    refine fx_lR hx hb hK hR (kd := 1) rfl rfl e dX3_isGone_30 ?_
    refine lv_iload hx hb dX3_isGone_31 (lv_at hl 4 rfl) ?_
    obtain ⟨v8, e, h⟩ := bd h
    refine fx_lI hx hb hK hR e dX3_isGone_33 ?_
    refine lv_icmp_ne (tgt := 41) hx hb dX3_isGone_34 (by decide) (fun c => ?_) (fun c => ?_)
    · have h := ie c h
      exact qX3_isGone_b41 C   hR hS (lv_sub hl [] rfl) h
    · have h := it c h
      refine lv_iconst (v := 1) hx hb dX3_isGone_37 (by decide) ?_
      refine lv_goto (tgt := 42) hx hb dX3_isGone_38 (by decide) ?_
      exact qX3_isGone_b42 C   hR hS (lv_sub hl [] rfl) h
def fX4_idAt (w : Fw) (a0 : Nat) (x1 : Int32) : Option (Int32) := ((gR w a0 4 2).bind fun r1 => ((lI w r1 x1).bind fun v2 => some v2))
set_option maxRecDepth 100000 in
set_option maxHeartbeats 4000000 in
theorem mX4_idAt (l : Launch) (D : va_G) (dA : Nat → ClassId) (A : Nat → Prop) {w : Fw} {a0 : Nat} {x1 : Int32} {res : Int32} (h : fX4_idAt w a0 x1 = some res) : Met l yX4_idAt (wz yX4_idAt cX4_idAt 2 (some .int)) (rz 0 0) (Pz D dA A w [.ref a0, .int x1]) (QzI D dA A res w) 0 0 A := by
  refine Met.ofW (cc := cX4_idAt) (maxL := 2) (ret := (some .int)) (by decide) rfl ?_
  intro p e s m args below meth c s₁ B hml hv
  obtain ⟨rfl, hR, hK⟩ := hv
  have hx := B.exec
  have hb := B.bytes
  have hr := B.returns
  have hts : ∀ w ∈ lw_g, w.before [.ref a0, .int x1].toArray s = true := fun w hw => atoms_spec (ws := wz yX4_idAt cX4_idAt 2 (some .int)) B.pre w (List.mem_cons_of_mem _ hw)
  have hown : s.vm.findClass RX4 = some m.cls := findClass_of_methodNamed B.named
  have hlocks := B.notSynchronized
  have C : Cx p s m [.ref a0, .int x1].toArray meth c D dA RX4 cX4_idAt 2 (some .int) := ⟨hx, hb, hr, hml, hown, hts, hK, hlocks⟩
  have hS : va_S A s.heap s.heap [] := va_S.rf
  have hl := lv_entry ([.ref a0, .int x1]) (n := 2) (Nat.le_of_ble_eq_true rfl)
  rw [lg_entry_eq]
  generalize (lg_sl ([.ref a0, .int x1]) ++ List.replicate (2 - (lg_sl ([.ref a0, .int x1])).length) Slot.unset).toArray = ls at hl ⊢
  have hl : lv_has ls 2 [(0, .ref a0), (1, .int x1)] := hl
  unfold fX4_idAt at h
  show W p l e (rz 0 0) s m _ below meth c s.heap [] 0 0 _ _
  refine lv_aload_n hx hb dX4_idAt_0 rfl (lv_at hl 0 rfl) ?_
  obtain ⟨r1, e, h⟩ := bd h
  refine fx_gR hx hb hts hown hK hR fl_X4_15 e dX4_idAt_1 ?_
  refine lv_iload_n hx hb dX4_idAt_4 rfl (lv_at hl 1 rfl) ?_
  obtain ⟨v2, e, h⟩ := bd h
  refine fx_lI hx hb hK hR e dX4_idAt_5 ?_
  exact fx_iret hx hb hr hlocks (Option.some.inj h) rfl hR hS dX4_idAt_6
def fX3_match_b123 (K26 : Fw → Nat → Nat → Nat → Int32 → Int32 → Int32 → Int32 → Option (Int32 × Fw)) (w : Fw) (a0 : Nat) (a1 : Nat) (a2 : Nat) (x3 : Int32) (x4 : Int32) (x5 : Int32) (x6 : Int32) : Option (Int32 × Fw) := (K26 w a0 a1 a2 x3 x4 x5 (x6 + 1))
set_option maxRecDepth 100000 in
set_option maxHeartbeats 4000000 in
theorem qX3_match_b123 {p : Program} {l : Launch} {e : Env} {s : State} {m : MethodId} {args : Array Value} {below : List Frame} {meth : Method} {c : Code} {D : va_G} {dA : Nat → ClassId} {A : Nat → Prop} (C : Cx p s m args meth c D dA RX3 cX3_match 7 (some .int)) {w : Fw} {res : Int32 × Fw} {K26 : Fw → Nat → Nat → Nat → Int32 → Int32 → Int32 → Int32 → Option (Int32 × Fw)} (hK26 : ∀ {w : Fw} {H : Heap} {locs : List Loc} {ls : Array Slot} {a0 : Nat} {a1 : Nat} {a2 : Nat} {x3 : Int32} {x4 : Int32} {x5 : Int32} {x6 : Int32}, Rp D dA A w H → va_S A s.heap H locs → lv_has ls 7 [(0, .ref a0), (1, .ref a1), (2, .ref a2), (3, .int x3), (4, .int x4), (5, .int x5), (6, .int x6)] → K26 w a0 a1 a2 x3 x4 x5 x6 = some res → W p l e (rz 3 69) s m args below meth c H locs 0 0 (MQ below (QzI D dA A res.1 res.2) args s 0 0 A) (F0 m 26 ls [])) {H : Heap} {locs : List Loc} {ls : Array Slot} {a0 : Nat} {a1 : Nat} {a2 : Nat} {x3 : Int32} {x4 : Int32} {x5 : Int32} {x6 : Int32} (hR : Rp D dA A w H) (hS : va_S A s.heap H locs) (hl : lv_has ls 7 [(0, .ref a0), (1, .ref a1), (2, .ref a2), (3, .int x3), (4, .int x4), (5, .int x5), (6, .int x6)]) (h : fX3_match_b123 K26 w a0 a1 a2 x3 x4 x5 x6 = some res) : W p l e (rz 3 69) s m args below meth c H locs 0 0 (MQ below (QzI D dA A res.1 res.2) args s 0 0 A) (F0 m 123 ls []) := by
  obtain ⟨hx, hb, hr, hml, hown, hts, hK, hlocks⟩ := id C
  unfold fX3_match_b123 at h
  refine lv_iinc (v := (x6 + 1)) (lv' := [(6, .int (x6 + 1)), (0, .ref a0), (1, .ref a1), (2, .ref a2), (3, .int x3), (4, .int x4), (5, .int x5)]) hx hb dX3_match_123 hl (k := 6) rfl rfl (by decide) rfl (fun ls hl => ?_)
  refine lv_goto (tgt := 26) hx hb dX3_match_126 (by decide) ?_
  exact hK26 hR hS (lv_sub hl [1, 2, 3, 4, 5, 6, 0] rfl) h
def fX3_match_b109 (K26 : Fw → Nat → Nat → Nat → Int32 → Int32 → Int32 → Int32 → Option (Int32 × Fw)) (w : Fw) (a0 : Nat) (a1 : Nat) (a2 : Nat) (x3 : Int32) (x4 : Int32) (x5 : Int32) (x6 : Int32) : Option (Int32 × Fw) := ((gR w a0 3 1).bind fun r1 => ((sI w r1 x6 ((x3 + x6) - x4)).bind fun w2 => (fX3_match_b123 K26 w2 a0 a1 a2 x3 x4 x5 x6)))
set_option maxRecDepth 100000 in
set_option maxHeartbeats 4000000 in
theorem qX3_match_b109 {p : Program} {l : Launch} {e : Env} {s : State} {m : MethodId} {args : Array Value} {below : List Frame} {meth : Method} {c : Code} {D : va_G} {dA : Nat → ClassId} {A : Nat → Prop} (C : Cx p s m args meth c D dA RX3 cX3_match 7 (some .int)) {w : Fw} {res : Int32 × Fw} {K26 : Fw → Nat → Nat → Nat → Int32 → Int32 → Int32 → Int32 → Option (Int32 × Fw)} (hK26 : ∀ {w : Fw} {H : Heap} {locs : List Loc} {ls : Array Slot} {a0 : Nat} {a1 : Nat} {a2 : Nat} {x3 : Int32} {x4 : Int32} {x5 : Int32} {x6 : Int32}, Rp D dA A w H → va_S A s.heap H locs → lv_has ls 7 [(0, .ref a0), (1, .ref a1), (2, .ref a2), (3, .int x3), (4, .int x4), (5, .int x5), (6, .int x6)] → K26 w a0 a1 a2 x3 x4 x5 x6 = some res → W p l e (rz 3 69) s m args below meth c H locs 0 0 (MQ below (QzI D dA A res.1 res.2) args s 0 0 A) (F0 m 26 ls [])) {H : Heap} {locs : List Loc} {ls : Array Slot} {a0 : Nat} {a1 : Nat} {a2 : Nat} {x3 : Int32} {x4 : Int32} {x5 : Int32} {x6 : Int32} (hR : Rp D dA A w H) (hS : va_S A s.heap H locs) (hl : lv_has ls 7 [(0, .ref a0), (1, .ref a1), (2, .ref a2), (3, .int x3), (4, .int x4), (5, .int x5), (6, .int x6)]) (h : fX3_match_b109 K26 w a0 a1 a2 x3 x4 x5 x6 = some res) : W p l e (rz 3 69) s m args below meth c H locs 0 0 (MQ below (QzI D dA A res.1 res.2) args s 0 0 A) (F0 m 109 ls []) := by
  obtain ⟨hx, hb, hr, hml, hown, hts, hK, hlocks⟩ := id C
  unfold fX3_match_b109 at h
  refine lv_aload_n hx hb dX3_match_109 rfl (lv_at hl 0 rfl) ?_
  obtain ⟨r1, e, h⟩ := bd h
  refine fx_gR hx hb hts hown hK hR fl_X3_16 e dX3_match_110 ?_
  refine lv_iload hx hb dX3_match_113 (lv_at hl 6 rfl) ?_
  refine lv_iload_n hx hb dX3_match_115 rfl (lv_at hl 3 rfl) ?_
  refine lv_iload hx hb dX3_match_116 (lv_at hl 6 rfl) ?_
  refine lv_iadd hx hb dX3_match_118 ?_
  refine lv_iload hx hb dX3_match_119 (lv_at hl 4 rfl) ?_
  refine lv_isub hx hb dX3_match_121 ?_
  obtain ⟨w2, e, h⟩ := bd h
  refine fx_sI hx hb hK hR hS e dX3_match_122 (fun H locs hR hS => ?_)
  exact qX3_match_b123 C (K26 := K26) (hK26 := @hK26) hR hS (lv_sub hl [0, 1, 2, 3, 4, 5, 6] rfl) h
def fX3_match_b63 (K26 : Fw → Nat → Nat → Nat → Int32 → Int32 → Int32 → Int32 → Option (Int32 × Fw)) (w : Fw) (a0 : Nat) (a1 : Nat) (a2 : Nat) (x3 : Int32) (x4 : Int32) (x5 : Int32) (x6 : Int32) : Option (Int32 × Fw) := ((isO w a1 4).bind fun _ => ((fX4_size w a1).bind fun v3 => (if v3 ≤ x5 then (fX3_match_b109 K26 w a0 a1 a2 x3 x4 x5 x6) else ((isO w a1 4).bind fun _ => ((fX4_byteAt w a1 x5).bind fun v4 => ((isO w a2 5).bind fun _ => ((fX5_byteAt w a2 x6).bind fun v5 => (if v4 = v5 then ((gR w a0 3 1).bind fun r6 => ((isO w a1 4).bind fun _ => ((fX4_idAt w a1 x5).bind fun v7 => ((sI w r6 x6 v7).bind fun w8 => (fX3_match_b123 K26 w8 a0 a1 a2 x3 (x4 + 1) (x5 + 1) x6))))) else (fX3_match_b109 K26 w a0 a1 a2 x3 x4 x5 x6)))))))))
set_option maxRecDepth 100000 in
set_option maxHeartbeats 4000000 in
theorem qX3_match_b63 {p : Program} {l : Launch} {e : Env} {s : State} {m : MethodId} {args : Array Value} {below : List Frame} {meth : Method} {c : Code} {D : va_G} {dA : Nat → ClassId} {A : Nat → Prop} (C : Cx p s m args meth c D dA RX3 cX3_match 7 (some .int)) {w : Fw} {res : Int32 × Fw} {K26 : Fw → Nat → Nat → Nat → Int32 → Int32 → Int32 → Int32 → Option (Int32 × Fw)} (hK26 : ∀ {w : Fw} {H : Heap} {locs : List Loc} {ls : Array Slot} {a0 : Nat} {a1 : Nat} {a2 : Nat} {x3 : Int32} {x4 : Int32} {x5 : Int32} {x6 : Int32}, Rp D dA A w H → va_S A s.heap H locs → lv_has ls 7 [(0, .ref a0), (1, .ref a1), (2, .ref a2), (3, .int x3), (4, .int x4), (5, .int x5), (6, .int x6)] → K26 w a0 a1 a2 x3 x4 x5 x6 = some res → W p l e (rz 3 69) s m args below meth c H locs 0 0 (MQ below (QzI D dA A res.1 res.2) args s 0 0 A) (F0 m 26 ls [])) {H : Heap} {locs : List Loc} {ls : Array Slot} {a0 : Nat} {a1 : Nat} {a2 : Nat} {x3 : Int32} {x4 : Int32} {x5 : Int32} {x6 : Int32} (hR : Rp D dA A w H) (hS : va_S A s.heap H locs) (hl : lv_has ls 7 [(0, .ref a0), (1, .ref a1), (2, .ref a2), (3, .int x3), (4, .int x4), (5, .int x5), (6, .int x6)]) (h : fX3_match_b63 K26 w a0 a1 a2 x3 x4 x5 x6 = some res) : W p l e (rz 3 69) s m args below meth c H locs 0 0 (MQ below (QzI D dA A res.1 res.2) args s 0 0 A) (F0 m 63 ls []) := by
  obtain ⟨hx, hb, hr, hml, hown, hts, hK, hlocks⟩ := id C
  unfold fX3_match_b63 at h
  refine lv_iload hx hb dX3_match_63 (lv_at hl 5 rfl) ?_
  refine lv_aload_n hx hb dX3_match_65 rfl (lv_at hl 1 rfl) ?_
  obtain ⟨_, eO, h⟩ := bd h
  obtain ⟨v3, e, h⟩ := bd h
  refine fx_vI (As := []) (rest := [.int x5]) hx hb hml hts hown hK hR hS eO (mX4_size l D dA A e) my_X4_size mv_X4_size rfl ml_X3_30 rfl hl.1 rfl (Nat.le_of_ble_eq_true rfl) dX3_match_66 ⟨Nat.le_of_ble_eq_true rfl, Nat.le_of_ble_eq_true rfl⟩ ⟨Nat.le_refl _, Nat.le_refl _⟩ (fun H locs hR hS => ?_)
  refine lv_icmp_ge (tgt := 109) hx hb dX3_match_69 (by decide) (fun c => ?_) (fun c => ?_)
  · have h := it c h
    exact qX3_match_b109 C (K26 := K26) (hK26 := @hK26) hR hS (lv_sub hl [0, 1, 2, 3, 4, 5, 6] rfl) h
  · have h := ie c h
    refine lv_aload_n hx hb dX3_match_72 rfl (lv_at hl 1 rfl) ?_
    refine lv_iload hx hb dX3_match_73 (lv_at hl 5 rfl) ?_
    obtain ⟨_, eO, h⟩ := bd h
    obtain ⟨v4, e, h⟩ := bd h
    refine fx_vI (As := [.int x5]) (rest := []) hx hb hml hts hown hK hR hS eO (mX4_byteAt l D dA A e) my_X4_byteAt mv_X4_byteAt rfl ml_X3_37 rfl hl.1 rfl (Nat.le_of_ble_eq_true rfl) dX3_match_75 ⟨Nat.le_of_ble_eq_true rfl, Nat.le_of_ble_eq_true rfl⟩ ⟨Nat.le_refl _, Nat.le_refl _⟩ (fun H locs hR hS => ?_)
    refine lv_aload_n hx hb dX3_match_78 rfl (lv_at hl 2 rfl) ?_
    refine lv_iload hx hb dX3_match_79 (lv_at hl 6 rfl) ?_
    obtain ⟨_, eO, h⟩ := bd h
    obtain ⟨v5, e, h⟩ := bd h
    refine fx_vI (As := [.int x6]) (rest := [.int v4]) hx hb hml hts hown hK hR hS eO (mX5_byteAt l D dA A e) my_X5_byteAt mv_X5_byteAt rfl ml_X3_41 rfl hl.1 rfl (Nat.le_of_ble_eq_true rfl) dX3_match_81 ⟨Nat.le_of_ble_eq_true rfl, Nat.le_of_ble_eq_true rfl⟩ ⟨Nat.le_refl _, Nat.le_refl _⟩ (fun H locs hR hS => ?_)
    refine lv_icmp_ne (tgt := 109) hx hb dX3_match_84 (by decide) (fun c => ?_) (fun c => ?_)
    · have h := ie c h
      exact qX3_match_b109 C (K26 := K26) (hK26 := @hK26) hR hS (lv_sub hl [0, 1, 2, 3, 4, 5, 6] rfl) h
    · have h := it c h
      refine lv_aload_n hx hb dX3_match_87 rfl (lv_at hl 0 rfl) ?_
      obtain ⟨r6, e, h⟩ := bd h
      refine fx_gR hx hb hts hown hK hR fl_X3_16 e dX3_match_88 ?_
      refine lv_iload hx hb dX3_match_91 (lv_at hl 6 rfl) ?_
      refine lv_aload_n hx hb dX3_match_93 rfl (lv_at hl 1 rfl) ?_
      refine lv_iload hx hb dX3_match_94 (lv_at hl 5 rfl) ?_
      obtain ⟨_, eO, h⟩ := bd h
      obtain ⟨v7, e, h⟩ := bd h
      refine fx_vI (As := [.int x5]) (rest := [.int x6, .ref r6]) hx hb hml hts hown hK hR hS eO (mX4_idAt l D dA A e) my_X4_idAt mv_X4_idAt rfl ml_X3_42 rfl hl.1 rfl (Nat.le_of_ble_eq_true rfl) dX3_match_96 ⟨Nat.le_of_ble_eq_true rfl, Nat.le_of_ble_eq_true rfl⟩ ⟨Nat.le_refl _, Nat.le_refl _⟩ (fun H locs hR hS => ?_)
      obtain ⟨w8, e, h⟩ := bd h
      refine fx_sI hx hb hK hR hS e dX3_match_99 (fun H locs hR hS => ?_)
      refine lv_iinc (v := (x4 + 1)) (lv' := [(4, .int (x4 + 1)), (0, .ref a0), (1, .ref a1), (2, .ref a2), (3, .int x3), (5, .int x5), (6, .int x6)]) hx hb dX3_match_100 hl (k := 4) rfl rfl (by decide) rfl (fun ls hl => ?_)
      refine lv_iinc (v := (x5 + 1)) (lv' := [(5, .int (x5 + 1)), (4, .int (x4 + 1)), (0, .ref a0), (1, .ref a1), (2, .ref a2), (3, .int x3), (6, .int x6)]) hx hb dX3_match_103 hl (k := 5) rfl rfl (by decide) rfl (fun ls hl => ?_)
      refine lv_goto (tgt := 123) hx hb dX3_match_106 (by decide) ?_
      exact qX3_match_b123 C (K26 := K26) (hK26 := @hK26) hR hS (lv_sub hl [2, 3, 4, 5, 1, 0, 6] rfl) h
def fX3_match_L35 (K26 : Fw → Nat → Nat → Nat → Int32 → Int32 → Int32 → Int32 → Option (Int32 × Fw)) : Nat → Fw → Nat → Nat → Nat → Int32 → Int32 → Int32 → Int32 → Option (Int32 × Fw)
  | 0, _, _, _, _, _, _, _, _ => none
  | n + 1, w, a0, a1, a2, x3, x4, x5, x6 => ((isO w a1 4).bind fun _ => ((fX4_size w a1).bind fun v9 => (if v9 ≤ x5 then (fX3_match_b63 K26 w a0 a1 a2 x3 x4 x5 x6) else ((isO w a0 3).bind fun _ => ((fX3_isGone w a0 a1 a2 x5 x6).bind fun v10 => (if v10 = 0 then (fX3_match_b63 K26 w a0 a1 a2 x3 x4 x5 x6) else (fX3_match_L35 K26 n w a0 a1 a2 x3 x4 (x5 + 1) x6)))))))
set_option maxRecDepth 100000 in
set_option maxHeartbeats 4000000 in
theorem qX3_match_L35 {p : Program} {l : Launch} {e : Env} {s : State} {m : MethodId} {args : Array Value} {below : List Frame} {meth : Method} {c : Code} {D : va_G} {dA : Nat → ClassId} {A : Nat → Prop} (C : Cx p s m args meth c D dA RX3 cX3_match 7 (some .int)) {res : Int32 × Fw} {K26 : Fw → Nat → Nat → Nat → Int32 → Int32 → Int32 → Int32 → Option (Int32 × Fw)} (hK26 : ∀ {w : Fw} {H : Heap} {locs : List Loc} {ls : Array Slot} {a0 : Nat} {a1 : Nat} {a2 : Nat} {x3 : Int32} {x4 : Int32} {x5 : Int32} {x6 : Int32}, Rp D dA A w H → va_S A s.heap H locs → lv_has ls 7 [(0, .ref a0), (1, .ref a1), (2, .ref a2), (3, .int x3), (4, .int x4), (5, .int x5), (6, .int x6)] → K26 w a0 a1 a2 x3 x4 x5 x6 = some res → W p l e (rz 3 69) s m args below meth c H locs 0 0 (MQ below (QzI D dA A res.1 res.2) args s 0 0 A) (F0 m 26 ls [])) : ∀ (n : Nat) {w : Fw} {H : Heap} {locs : List Loc} {ls : Array Slot} {a0 : Nat} {a1 : Nat} {a2 : Nat} {x3 : Int32} {x4 : Int32} {x5 : Int32} {x6 : Int32}, Rp D dA A w H → va_S A s.heap H locs → lv_has ls 7 [(0, .ref a0), (1, .ref a1), (2, .ref a2), (3, .int x3), (4, .int x4), (5, .int x5), (6, .int x6)] → fX3_match_L35 K26 n w a0 a1 a2 x3 x4 x5 x6 = some res → W p l e (rz 3 69) s m args below meth c H locs 0 0 (MQ below (QzI D dA A res.1 res.2) args s 0 0 A) (F0 m 35 ls []) := by
  obtain ⟨hx, hb, hr, hml, hown, hts, hK, hlocks⟩ := id C
  intro n
  induction n with
  | zero =>
    intro w H locs ls a0 a1 a2 x3 x4 x5 x6 hR hS hl h
    rw [fX3_match_L35.eq_1] at h
    cases h
  | succ n ih =>
    intro w H locs ls a0 a1 a2 x3 x4 x5 x6 hR hS hl h
    rw [fX3_match_L35.eq_2] at h
    refine lv_iload hx hb dX3_match_35 (lv_at hl 5 rfl) ?_
    refine lv_aload_n hx hb dX3_match_37 rfl (lv_at hl 1 rfl) ?_
    obtain ⟨_, eO, h⟩ := bd h
    obtain ⟨v9, e, h⟩ := bd h
    refine fx_vI (As := []) (rest := [.int x5]) hx hb hml hts hown hK hR hS eO (mX4_size l D dA A e) my_X4_size mv_X4_size rfl ml_X3_30 rfl hl.1 rfl (Nat.le_of_ble_eq_true rfl) dX3_match_38 ⟨Nat.le_of_ble_eq_true rfl, Nat.le_of_ble_eq_true rfl⟩ ⟨Nat.le_refl _, Nat.le_refl _⟩ (fun H locs hR hS => ?_)
    refine lv_icmp_ge (tgt := 63) hx hb dX3_match_41 (by decide) (fun c => ?_) (fun c => ?_)
    · have h := it c h
      exact qX3_match_b63 C (K26 := K26) (hK26 := @hK26) hR hS (lv_sub hl [0, 1, 2, 3, 4, 5, 6] rfl) h
    · have h := ie c h
      refine lv_aload_n hx hb dX3_match_44 rfl (lv_at hl 0 rfl) ?_
      refine lv_aload_n hx hb dX3_match_45 rfl (lv_at hl 1 rfl) ?_
      refine lv_aload_n hx hb dX3_match_46 rfl (lv_at hl 2 rfl) ?_
      refine lv_iload hx hb dX3_match_47 (lv_at hl 5 rfl) ?_
      refine lv_iload hx hb dX3_match_49 (lv_at hl 6 rfl) ?_
      obtain ⟨_, eO, h⟩ := bd h
      obtain ⟨v10, e, h⟩ := bd h
      refine fx_vI (As := [.ref a1, .ref a2, .int x5, .int x6]) (rest := []) hx hb hml hts hown hK hR hS eO (mX3_isGone l D dA A e) my_X3_isGone mv_X3_isGone rfl ml_X3_33 rfl hl.1 rfl (Nat.le_of_ble_eq_true rfl) dX3_match_51 ⟨Nat.le_of_ble_eq_true rfl, Nat.le_of_ble_eq_true rfl⟩ ⟨Nat.le_refl _, Nat.le_refl _⟩ (fun H locs hR hS => ?_)
      refine lv_if_eq (tgt := 63) hx hb dX3_match_54 (by decide) (fun c => ?_) (fun c => ?_)
      · have h := it c h
        exact qX3_match_b63 C (K26 := K26) (hK26 := @hK26) hR hS (lv_sub hl [0, 1, 2, 3, 4, 5, 6] rfl) h
      · have h := ie c h
        refine lv_iinc (v := (x5 + 1)) (lv' := [(5, .int (x5 + 1)), (0, .ref a0), (1, .ref a1), (2, .ref a2), (3, .int x3), (4, .int x4), (6, .int x6)]) hx hb dX3_match_57 hl (k := 5) rfl rfl (by decide) rfl (fun ls hl => ?_)
        refine lv_goto (tgt := 35) hx hb dX3_match_60 (by decide) ?_
        exact ih hR hS (lv_sub hl [1, 2, 3, 4, 5, 0, 6] rfl) h
def fX3_match_L26  : Nat → Fw → Nat → Nat → Nat → Int32 → Int32 → Int32 → Int32 → Option (Int32 × Fw)
  | 0, _, _, _, _, _, _, _, _ => none
  | n + 1, w, a0, a1, a2, x3, x4, x5, x6 => ((isO w a2 5).bind fun _ => ((fX5_size w a2).bind fun v11 => (if v11 ≤ x6 then some (x4, w) else (fX3_match_L35 (fX3_match_L26  n) 1000 w a0 a1 a2 x3 x4 x5 x6))))
set_option maxRecDepth 100000 in
set_option maxHeartbeats 4000000 in
theorem qX3_match_L26 {p : Program} {l : Launch} {e : Env} {s : State} {m : MethodId} {args : Array Value} {below : List Frame} {meth : Method} {c : Code} {D : va_G} {dA : Nat → ClassId} {A : Nat → Prop} (C : Cx p s m args meth c D dA RX3 cX3_match 7 (some .int)) {res : Int32 × Fw}   : ∀ (n : Nat) {w : Fw} {H : Heap} {locs : List Loc} {ls : Array Slot} {a0 : Nat} {a1 : Nat} {a2 : Nat} {x3 : Int32} {x4 : Int32} {x5 : Int32} {x6 : Int32}, Rp D dA A w H → va_S A s.heap H locs → lv_has ls 7 [(0, .ref a0), (1, .ref a1), (2, .ref a2), (3, .int x3), (4, .int x4), (5, .int x5), (6, .int x6)] → fX3_match_L26 n w a0 a1 a2 x3 x4 x5 x6 = some res → W p l e (rz 3 69) s m args below meth c H locs 0 0 (MQ below (QzI D dA A res.1 res.2) args s 0 0 A) (F0 m 26 ls []) := by
  obtain ⟨hx, hb, hr, hml, hown, hts, hK, hlocks⟩ := id C
  intro n
  induction n with
  | zero =>
    intro w H locs ls a0 a1 a2 x3 x4 x5 x6 hR hS hl h
    rw [fX3_match_L26.eq_1] at h
    cases h
  | succ n ih =>
    intro w H locs ls a0 a1 a2 x3 x4 x5 x6 hR hS hl h
    rw [fX3_match_L26.eq_2] at h
    refine lv_iload hx hb dX3_match_26 (lv_at hl 6 rfl) ?_
    refine lv_aload_n hx hb dX3_match_28 rfl (lv_at hl 2 rfl) ?_
    obtain ⟨_, eO, h⟩ := bd h
    obtain ⟨v11, e, h⟩ := bd h
    refine fx_vI (As := []) (rest := [.int x6]) hx hb hml hts hown hK hR hS eO (mX5_size l D dA A e) my_X5_size mv_X5_size rfl ml_X3_20 rfl hl.1 rfl (Nat.le_of_ble_eq_true rfl) dX3_match_29 ⟨Nat.le_of_ble_eq_true rfl, Nat.le_of_ble_eq_true rfl⟩ ⟨Nat.le_refl _, Nat.le_refl _⟩ (fun H locs hR hS => ?_)
    refine lv_icmp_ge (tgt := 129) hx hb dX3_match_32 (by decide) (fun c => ?_) (fun c => ?_)
    · have h := it c h
      refine lv_iload hx hb dX3_match_129 (lv_at hl 4 rfl) ?_
      exact fx_iret hx hb hr hlocks (pr1 h) (pr2 h) hR hS dX3_match_131
    · have h := ie c h
      exact qX3_match_L35 C (K26 := fX3_match_L26  n) (hK26 := @ih) 1000 hR hS (lv_sub hl [0, 1, 2, 3, 4, 5, 6] rfl) h
def fX3_match (w : Fw) (a0 : Nat) (a1 : Nat) (a2 : Nat) (x3 : Int32) : Option (Int32 × Fw) := ((isO w a2 5).bind fun _ => ((fX5_size w a2).bind fun v12 => (if v12 ≤ 32 then ((isO w a0 3).bind fun _ => ((fX3_measure w a0 a1 a2).bind fun w13 => (fX3_match_L26 1000 w13 a0 a1 a2 x3 0 0 0))) else some (0, w))))
set_option maxRecDepth 100000 in
set_option maxHeartbeats 4000000 in
theorem mX3_match (l : Launch) (D : va_G) (dA : Nat → ClassId) (A : Nat → Prop) {w : Fw} {a0 : Nat} {a1 : Nat} {a2 : Nat} {x3 : Int32} {res : Int32 × Fw} (h : fX3_match w a0 a1 a2 x3 = some res) : Met l yX3_match (wz yX3_match cX3_match 7 (some .int)) (rz 3 69) (Pz D dA A w [.ref a0, .ref a1, .ref a2, .int x3]) (QzI D dA A res.1 res.2) 0 0 A := by
  refine Met.ofW (cc := cX3_match) (maxL := 7) (ret := (some .int)) (by decide) rfl ?_
  intro p e s m args below meth c s₁ B hml hv
  obtain ⟨rfl, hR, hK⟩ := hv
  have hx := B.exec
  have hb := B.bytes
  have hr := B.returns
  have hts : ∀ w ∈ lw_g, w.before [.ref a0, .ref a1, .ref a2, .int x3].toArray s = true := fun w hw => atoms_spec (ws := wz yX3_match cX3_match 7 (some .int)) B.pre w (List.mem_cons_of_mem _ hw)
  have hown : s.vm.findClass RX3 = some m.cls := findClass_of_methodNamed B.named
  have hlocks := B.notSynchronized
  have C : Cx p s m [.ref a0, .ref a1, .ref a2, .int x3].toArray meth c D dA RX3 cX3_match 7 (some .int) := ⟨hx, hb, hr, hml, hown, hts, hK, hlocks⟩
  have hS : va_S A s.heap s.heap [] := va_S.rf
  have hl := lv_entry ([.ref a0, .ref a1, .ref a2, .int x3]) (n := 7) (Nat.le_of_ble_eq_true rfl)
  rw [lg_entry_eq]
  generalize (lg_sl ([.ref a0, .ref a1, .ref a2, .int x3]) ++ List.replicate (7 - (lg_sl ([.ref a0, .ref a1, .ref a2, .int x3])).length) Slot.unset).toArray = ls at hl ⊢
  have hl : lv_has ls 7 [(0, .ref a0), (1, .ref a1), (2, .ref a2), (3, .int x3)] := hl
  unfold fX3_match at h
  show W p l e (rz 3 69) s m _ below meth c s.heap [] 0 0 _ _
  refine lv_aload_n hx hb dX3_match_0 rfl (lv_at hl 2 rfl) ?_
  obtain ⟨_, eO, h⟩ := bd h
  obtain ⟨v12, e, h⟩ := bd h
  refine fx_vI (As := []) (rest := []) hx hb hml hts hown hK hR hS eO (mX5_size l D dA A e) my_X5_size mv_X5_size rfl ml_X3_20 rfl hl.1 rfl (Nat.le_of_ble_eq_true rfl) dX3_match_1 ⟨Nat.le_of_ble_eq_true rfl, Nat.le_of_ble_eq_true rfl⟩ ⟨Nat.le_refl _, Nat.le_refl _⟩ (fun H locs hR hS => ?_)
  refine lv_bipush (v := 32) hx hb dX3_match_4 (by decide) ?_
  refine lv_icmp_le (tgt := 11) hx hb dX3_match_6 (by decide) (fun c => ?_) (fun c => ?_)
  · have h := it c h
    refine lv_aload_n hx hb dX3_match_11 rfl (lv_at hl 0 rfl) ?_
    refine lv_aload_n hx hb dX3_match_12 rfl (lv_at hl 1 rfl) ?_
    refine lv_aload_n hx hb dX3_match_13 rfl (lv_at hl 2 rfl) ?_
    obtain ⟨_, eO, h⟩ := bd h
    obtain ⟨w13, e, h⟩ := bd h
    refine fx_vV (As := [.ref a1, .ref a2]) (rest := []) hx hb hml hts hown hK hR hS eO (mX3_measure l D dA A e) my_X3_measure mv_X3_measure rfl ml_X3_26 rfl hl.1 rfl (Nat.le_of_ble_eq_true rfl) dX3_match_14 ⟨Nat.le_of_ble_eq_true rfl, Nat.le_of_ble_eq_true rfl⟩ ⟨Nat.le_refl _, Nat.le_refl _⟩ (fun H locs hR hS => ?_)
    refine lv_iconst (v := 0) hx hb dX3_match_17 (by decide) ?_
    refine lv_istore (lv' := [(4, .int 0), (0, .ref a0), (1, .ref a1), (2, .ref a2), (3, .int x3)]) hx hb dX3_match_18 hl (by decide) rfl (fun ls hl => ?_)
    refine lv_iconst (v := 0) hx hb dX3_match_20 (by decide) ?_
    refine lv_istore (lv' := [(5, .int 0), (4, .int 0), (0, .ref a0), (1, .ref a1), (2, .ref a2), (3, .int x3)]) hx hb dX3_match_21 hl (by decide) rfl (fun ls hl => ?_)
    refine lv_iconst (v := 0) hx hb dX3_match_23 (by decide) ?_
    refine lv_istore (lv' := [(6, .int 0), (5, .int 0), (4, .int 0), (0, .ref a0), (1, .ref a1), (2, .ref a2), (3, .int x3)]) hx hb dX3_match_24 hl (by decide) rfl (fun ls hl => ?_)
    exact qX3_match_L26 C   1000 hR hS (lv_sub hl [3, 4, 5, 6, 2, 1, 0] rfl) h
  · have h := ie c h
    refine lv_iconst (v := 0) hx hb dX3_match_9 (by decide) ?_
    exact fx_iret hx hb hr hlocks (pr1 h) (pr2 h) hR hS dX3_match_10
def fX4_hasLine_b17 (w : Fw)  (s0 : Int32) : Option (Int32) := zb s0
set_option maxRecDepth 100000 in
set_option maxHeartbeats 4000000 in
theorem qX4_hasLine_b17 {p : Program} {l : Launch} {e : Env} {s : State} {m : MethodId} {args : Array Value} {below : List Frame} {meth : Method} {c : Code} {D : va_G} {dA : Nat → ClassId} {A : Nat → Prop} (C : Cx p s m args meth c D dA RX4 cX4_hasLine 2 (some .boolean)) {w : Fw} {res : Int32}   {H : Heap} {locs : List Loc} {ls : Array Slot} {s0 : Int32} (hR : Rp D dA A w H) (hS : va_S A s.heap H locs) (hl : lv_has ls 2 []) (h : fX4_hasLine_b17 w s0 = some res) : W p l e (rz 0 0) s m args below meth c H locs 0 0 (MQ below (QzI D dA A res w) args s 0 0 A) (F0 m 17 ls [.int s0]) := by
  obtain ⟨hx, hb, hr, hml, hown, hts, hK, hlocks⟩ := id C
  unfold fX4_hasLine_b17 at h
  exact fx_zret hx hb hr hlocks h rfl hR hS dX4_hasLine_17
def fX4_hasLine_b16 (w : Fw)   : Option (Int32) := (fX4_hasLine_b17 w 0)
set_option maxRecDepth 100000 in
set_option maxHeartbeats 4000000 in
theorem qX4_hasLine_b16 {p : Program} {l : Launch} {e : Env} {s : State} {m : MethodId} {args : Array Value} {below : List Frame} {meth : Method} {c : Code} {D : va_G} {dA : Nat → ClassId} {A : Nat → Prop} (C : Cx p s m args meth c D dA RX4 cX4_hasLine 2 (some .boolean)) {w : Fw} {res : Int32}   {H : Heap} {locs : List Loc} {ls : Array Slot}  (hR : Rp D dA A w H) (hS : va_S A s.heap H locs) (hl : lv_has ls 2 []) (h : fX4_hasLine_b16 w = some res) : W p l e (rz 0 0) s m args below meth c H locs 0 0 (MQ below (QzI D dA A res w) args s 0 0 A) (F0 m 16 ls []) := by
  obtain ⟨hx, hb, hr, hml, hown, hts, hK, hlocks⟩ := id C
  unfold fX4_hasLine_b16 at h
  refine lv_iconst (v := 0) hx hb dX4_hasLine_16 (by decide) ?_
  exact qX4_hasLine_b17 C   hR hS (lv_sub hl [] rfl) h
def fX4_hasLine (w : Fw) (a0 : Nat) (x1 : Int32) : Option (Int32) := if x1 < 0 then (fX4_hasLine_b16 w) else ((gI w a0 4 0).bind fun v1 => (if v1 ≤ x1 then (fX4_hasLine_b16 w) else (fX4_hasLine_b17 w 1)))
set_option maxRecDepth 100000 in
set_option maxHeartbeats 4000000 in
theorem mX4_hasLine (l : Launch) (D : va_G) (dA : Nat → ClassId) (A : Nat → Prop) {w : Fw} {a0 : Nat} {x1 : Int32} {res : Int32} (h : fX4_hasLine w a0 x1 = some res) : Met l yX4_hasLine (wz yX4_hasLine cX4_hasLine 2 (some .boolean)) (rz 0 0) (Pz D dA A w [.ref a0, .int x1]) (QzI D dA A res w) 0 0 A := by
  refine Met.ofW (cc := cX4_hasLine) (maxL := 2) (ret := (some .boolean)) (by decide) rfl ?_
  intro p e s m args below meth c s₁ B hml hv
  obtain ⟨rfl, hR, hK⟩ := hv
  have hx := B.exec
  have hb := B.bytes
  have hr := B.returns
  have hts : ∀ w ∈ lw_g, w.before [.ref a0, .int x1].toArray s = true := fun w hw => atoms_spec (ws := wz yX4_hasLine cX4_hasLine 2 (some .boolean)) B.pre w (List.mem_cons_of_mem _ hw)
  have hown : s.vm.findClass RX4 = some m.cls := findClass_of_methodNamed B.named
  have hlocks := B.notSynchronized
  have C : Cx p s m [.ref a0, .int x1].toArray meth c D dA RX4 cX4_hasLine 2 (some .boolean) := ⟨hx, hb, hr, hml, hown, hts, hK, hlocks⟩
  have hS : va_S A s.heap s.heap [] := va_S.rf
  have hl := lv_entry ([.ref a0, .int x1]) (n := 2) (Nat.le_of_ble_eq_true rfl)
  rw [lg_entry_eq]
  generalize (lg_sl ([.ref a0, .int x1]) ++ List.replicate (2 - (lg_sl ([.ref a0, .int x1])).length) Slot.unset).toArray = ls at hl ⊢
  have hl : lv_has ls 2 [(0, .ref a0), (1, .int x1)] := hl
  unfold fX4_hasLine at h
  show W p l e (rz 0 0) s m _ below meth c s.heap [] 0 0 _ _
  refine lv_iload_n hx hb dX4_hasLine_0 rfl (lv_at hl 1 rfl) ?_
  refine lv_if_lt (tgt := 16) hx hb dX4_hasLine_1 (by decide) (fun c => ?_) (fun c => ?_)
  · have h := it c h
    exact qX4_hasLine_b16 C   hR hS (lv_sub hl [] rfl) h
  · have h := ie c h
    refine lv_iload_n hx hb dX4_hasLine_4 rfl (lv_at hl 1 rfl) ?_
    refine lv_aload_n hx hb dX4_hasLine_5 rfl (lv_at hl 0 rfl) ?_
    obtain ⟨v1, e, h⟩ := bd h
    refine fx_gI hx hb hts hown hK hR fl_X4_28 e dX4_hasLine_6 ?_
    refine lv_icmp_ge (tgt := 16) hx hb dX4_hasLine_9 (by decide) (fun c => ?_) (fun c => ?_)
    · have h := it c h
      exact qX4_hasLine_b16 C   hR hS (lv_sub hl [] rfl) h
    · have h := ie c h
      refine lv_iconst (v := 1) hx hb dX4_hasLine_12 (by decide) ?_
      refine lv_goto (tgt := 17) hx hb dX4_hasLine_13 (by decide) ?_
      exact qX4_hasLine_b17 C   hR hS (lv_sub hl [] rfl) h
def fX4_takesLine_b26 (w : Fw)  (s0 : Int32) : Option (Int32) := zb s0
set_option maxRecDepth 100000 in
set_option maxHeartbeats 4000000 in
theorem qX4_takesLine_b26 {p : Program} {l : Launch} {e : Env} {s : State} {m : MethodId} {args : Array Value} {below : List Frame} {meth : Method} {c : Code} {D : va_G} {dA : Nat → ClassId} {A : Nat → Prop} (C : Cx p s m args meth c D dA RX4 cX4_takesLine 2 (some .boolean)) {w : Fw} {res : Int32}   {H : Heap} {locs : List Loc} {ls : Array Slot} {s0 : Int32} (hR : Rp D dA A w H) (hS : va_S A s.heap H locs) (hl : lv_has ls 2 []) (h : fX4_takesLine_b26 w s0 = some res) : W p l e (rz 0 0) s m args below meth c H locs 0 0 (MQ below (QzI D dA A res w) args s 0 0 A) (F0 m 26 ls [.int s0]) := by
  obtain ⟨hx, hb, hr, hml, hown, hts, hK, hlocks⟩ := id C
  unfold fX4_takesLine_b26 at h
  exact fx_zret hx hb hr hlocks h rfl hR hS dX4_takesLine_26
def fX4_takesLine_b25 (w : Fw)   : Option (Int32) := (fX4_takesLine_b26 w 0)
set_option maxRecDepth 100000 in
set_option maxHeartbeats 4000000 in
theorem qX4_takesLine_b25 {p : Program} {l : Launch} {e : Env} {s : State} {m : MethodId} {args : Array Value} {below : List Frame} {meth : Method} {c : Code} {D : va_G} {dA : Nat → ClassId} {A : Nat → Prop} (C : Cx p s m args meth c D dA RX4 cX4_takesLine 2 (some .boolean)) {w : Fw} {res : Int32}   {H : Heap} {locs : List Loc} {ls : Array Slot}  (hR : Rp D dA A w H) (hS : va_S A s.heap H locs) (hl : lv_has ls 2 []) (h : fX4_takesLine_b25 w = some res) : W p l e (rz 0 0) s m args below meth c H locs 0 0 (MQ below (QzI D dA A res w) args s 0 0 A) (F0 m 25 ls []) := by
  obtain ⟨hx, hb, hr, hml, hown, hts, hK, hlocks⟩ := id C
  unfold fX4_takesLine_b25 at h
  refine lv_iconst (v := 0) hx hb dX4_takesLine_25 (by decide) ?_
  exact qX4_takesLine_b26 C   hR hS (lv_sub hl [] rfl) h
def fX4_takesLine (w : Fw) (a0 : Nat) (x1 : Int32) : Option (Int32) := if x1 < 0 then (fX4_takesLine_b25 w) else ((gI w a0 4 0).bind fun v1 => (if v1 < x1 then (fX4_takesLine_b25 w) else ((gI w a0 4 0).bind fun v2 => (if 32 ≤ v2 then (fX4_takesLine_b25 w) else (fX4_takesLine_b26 w 1)))))
set_option maxRecDepth 100000 in
set_option maxHeartbeats 4000000 in
theorem mX4_takesLine (l : Launch) (D : va_G) (dA : Nat → ClassId) (A : Nat → Prop) {w : Fw} {a0 : Nat} {x1 : Int32} {res : Int32} (h : fX4_takesLine w a0 x1 = some res) : Met l yX4_takesLine (wz yX4_takesLine cX4_takesLine 2 (some .boolean)) (rz 0 0) (Pz D dA A w [.ref a0, .int x1]) (QzI D dA A res w) 0 0 A := by
  refine Met.ofW (cc := cX4_takesLine) (maxL := 2) (ret := (some .boolean)) (by decide) rfl ?_
  intro p e s m args below meth c s₁ B hml hv
  obtain ⟨rfl, hR, hK⟩ := hv
  have hx := B.exec
  have hb := B.bytes
  have hr := B.returns
  have hts : ∀ w ∈ lw_g, w.before [.ref a0, .int x1].toArray s = true := fun w hw => atoms_spec (ws := wz yX4_takesLine cX4_takesLine 2 (some .boolean)) B.pre w (List.mem_cons_of_mem _ hw)
  have hown : s.vm.findClass RX4 = some m.cls := findClass_of_methodNamed B.named
  have hlocks := B.notSynchronized
  have C : Cx p s m [.ref a0, .int x1].toArray meth c D dA RX4 cX4_takesLine 2 (some .boolean) := ⟨hx, hb, hr, hml, hown, hts, hK, hlocks⟩
  have hS : va_S A s.heap s.heap [] := va_S.rf
  have hl := lv_entry ([.ref a0, .int x1]) (n := 2) (Nat.le_of_ble_eq_true rfl)
  rw [lg_entry_eq]
  generalize (lg_sl ([.ref a0, .int x1]) ++ List.replicate (2 - (lg_sl ([.ref a0, .int x1])).length) Slot.unset).toArray = ls at hl ⊢
  have hl : lv_has ls 2 [(0, .ref a0), (1, .int x1)] := hl
  unfold fX4_takesLine at h
  show W p l e (rz 0 0) s m _ below meth c s.heap [] 0 0 _ _
  refine lv_iload_n hx hb dX4_takesLine_0 rfl (lv_at hl 1 rfl) ?_
  refine lv_if_lt (tgt := 25) hx hb dX4_takesLine_1 (by decide) (fun c => ?_) (fun c => ?_)
  · have h := it c h
    exact qX4_takesLine_b25 C   hR hS (lv_sub hl [] rfl) h
  · have h := ie c h
    refine lv_iload_n hx hb dX4_takesLine_4 rfl (lv_at hl 1 rfl) ?_
    refine lv_aload_n hx hb dX4_takesLine_5 rfl (lv_at hl 0 rfl) ?_
    obtain ⟨v1, e, h⟩ := bd h
    refine fx_gI hx hb hts hown hK hR fl_X4_28 e dX4_takesLine_6 ?_
    refine lv_icmp_gt (tgt := 25) hx hb dX4_takesLine_9 (by decide) (fun c => ?_) (fun c => ?_)
    · have h := it c h
      exact qX4_takesLine_b25 C   hR hS (lv_sub hl [] rfl) h
    · have h := ie c h
      refine lv_aload_n hx hb dX4_takesLine_12 rfl (lv_at hl 0 rfl) ?_
      obtain ⟨v2, e, h⟩ := bd h
      refine fx_gI hx hb hts hown hK hR fl_X4_28 e dX4_takesLine_13 ?_
      refine lv_bipush (v := 32) hx hb dX4_takesLine_16 (by decide) ?_
      refine lv_icmp_ge (tgt := 25) hx hb dX4_takesLine_18 (by decide) (fun c => ?_) (fun c => ?_)
      · have h := it c h
        exact qX4_takesLine_b25 C   hR hS (lv_sub hl [] rfl) h
      · have h := ie c h
        refine lv_iconst (v := 1) hx hb dX4_takesLine_21 (by decide) ?_
        refine lv_goto (tgt := 26) hx hb dX4_takesLine_22 (by decide) ?_
        exact qX4_takesLine_b26 C   hR hS (lv_sub hl [] rfl) h
def fX4_findings (w : Fw) (a0 : Nat) : Option (Nat) := ((gR w a0 4 3).bind fun r1 => some r1)
set_option maxRecDepth 100000 in
set_option maxHeartbeats 4000000 in
theorem mX4_findings (l : Launch) (D : va_G) (dA : Nat → ClassId) (A : Nat → Prop) {w : Fw} {a0 : Nat} {res : Nat} (h : fX4_findings w a0 = some res) : Met l yX4_findings (wz yX4_findings cX4_findings 1 (some (.object "FindingHouse$FindingRow"))) (rz 0 0) (Pz D dA A w [.ref a0]) (QzR D dA A res w) 0 0 A := by
  refine Met.ofW (cc := cX4_findings) (maxL := 1) (ret := (some (.object "FindingHouse$FindingRow"))) (by decide) rfl ?_
  intro p e s m args below meth c s₁ B hml hv
  obtain ⟨rfl, hR, hK⟩ := hv
  have hx := B.exec
  have hb := B.bytes
  have hr := B.returns
  have hts : ∀ w ∈ lw_g, w.before [.ref a0].toArray s = true := fun w hw => atoms_spec (ws := wz yX4_findings cX4_findings 1 (some (.object "FindingHouse$FindingRow"))) B.pre w (List.mem_cons_of_mem _ hw)
  have hown : s.vm.findClass RX4 = some m.cls := findClass_of_methodNamed B.named
  have hlocks := B.notSynchronized
  have C : Cx p s m [.ref a0].toArray meth c D dA RX4 cX4_findings 1 (some (.object "FindingHouse$FindingRow")) := ⟨hx, hb, hr, hml, hown, hts, hK, hlocks⟩
  have hS : va_S A s.heap s.heap [] := va_S.rf
  have hl := lv_entry ([.ref a0]) (n := 1) (Nat.le_of_ble_eq_true rfl)
  rw [lg_entry_eq]
  generalize (lg_sl ([.ref a0]) ++ List.replicate (1 - (lg_sl ([.ref a0])).length) Slot.unset).toArray = ls at hl ⊢
  have hl : lv_has ls 1 [(0, .ref a0)] := hl
  unfold fX4_findings at h
  show W p l e (rz 0 0) s m _ below meth c s.heap [] 0 0 _ _
  refine lv_aload_n hx hb dX4_findings_0 rfl (lv_at hl 0 rfl) ?_
  obtain ⟨r1, e, h⟩ := bd h
  refine fx_gR hx hb hts hown hK hR fl_X4_21 e dX4_findings_1 ?_
  exact fx_aret hx hb hr hlocks (Option.some.inj h) rfl hR hS dX4_findings_4
def fX4_insert_L6  : Nat → Fw → Nat → Int32 → Int32 → Int32 → Int32 → Option (Fw)
  | 0, _, _, _, _, _, _ => none
  | n + 1, w, a0, x1, x2, x3, x4 => if x4 ≤ x1 then ((gR w a0 4 1).bind fun r1 => ((sI w r1 x1 x2).bind fun w2 => ((gR w2 a0 4 2).bind fun r3 => ((sI w2 r3 x1 x3).bind fun w4 => ((gI w4 a0 4 0).bind fun v5 => ((pF w4 a0 4 0 (.int (v5 + 1))).bind fun w6 => some w6)))))) else ((gR w a0 4 1).bind fun r7 => ((gR w a0 4 1).bind fun r8 => ((lI w r8 (x4 - 1)).bind fun v9 => ((sI w r7 x4 v9).bind fun w10 => ((gR w10 a0 4 2).bind fun r11 => ((gR w10 a0 4 2).bind fun r12 => ((lI w10 r12 (x4 - 1)).bind fun v13 => ((sI w10 r11 x4 v13).bind fun w14 => (fX4_insert_L6  n w14 a0 x1 x2 x3 (x4 + (-1)))))))))))
set_option maxRecDepth 100000 in
set_option maxHeartbeats 4000000 in
theorem qX4_insert_L6 {p : Program} {l : Launch} {e : Env} {s : State} {m : MethodId} {args : Array Value} {below : List Frame} {meth : Method} {c : Code} {D : va_G} {dA : Nat → ClassId} {A : Nat → Prop} (C : Cx p s m args meth c D dA RX4 cX4_insert 5 none) {res : Fw}   : ∀ (n : Nat) {w : Fw} {H : Heap} {locs : List Loc} {ls : Array Slot} {a0 : Nat} {x1 : Int32} {x2 : Int32} {x3 : Int32} {x4 : Int32}, Rp D dA A w H → va_S A s.heap H locs → lv_has ls 5 [(0, .ref a0), (1, .int x1), (2, .int x2), (3, .int x3), (4, .int x4)] → fX4_insert_L6 n w a0 x1 x2 x3 x4 = some res → W p l e (rz 0 0) s m args below meth c H locs 0 0 (MQ below (QzV D dA A res) args s 0 0 A) (F0 m 6 ls []) := by
  obtain ⟨hx, hb, hr, hml, hown, hts, hK, hlocks⟩ := id C
  intro n
  induction n with
  | zero =>
    intro w H locs ls a0 x1 x2 x3 x4 hR hS hl h
    rw [fX4_insert_L6.eq_1] at h
    cases h
  | succ n ih =>
    intro w H locs ls a0 x1 x2 x3 x4 hR hS hl h
    rw [fX4_insert_L6.eq_2] at h
    refine lv_iload hx hb dX4_insert_6 (lv_at hl 4 rfl) ?_
    refine lv_iload_n hx hb dX4_insert_8 rfl (lv_at hl 1 rfl) ?_
    refine lv_icmp_le (tgt := 50) hx hb dX4_insert_9 (by decide) (fun c => ?_) (fun c => ?_)
    · have h := it c h
      refine lv_aload_n hx hb dX4_insert_50 rfl (lv_at hl 0 rfl) ?_
      obtain ⟨r1, e, h⟩ := bd h
      refine fx_gR hx hb hts hown hK hR fl_X4_9 e dX4_insert_51 ?_
      refine lv_iload_n hx hb dX4_insert_54 rfl (lv_at hl 1 rfl) ?_
      refine lv_iload_n hx hb dX4_insert_55 rfl (lv_at hl 2 rfl) ?_
      obtain ⟨w2, e, h⟩ := bd h
      refine fx_sI hx hb hK hR hS e dX4_insert_56 (fun H locs hR hS => ?_)
      refine lv_aload_n hx hb dX4_insert_57 rfl (lv_at hl 0 rfl) ?_
      obtain ⟨r3, e, h⟩ := bd h
      refine fx_gR hx hb hts hown hK hR fl_X4_15 e dX4_insert_58 ?_
      refine lv_iload_n hx hb dX4_insert_61 rfl (lv_at hl 1 rfl) ?_
      refine lv_iload_n hx hb dX4_insert_62 rfl (lv_at hl 3 rfl) ?_
      obtain ⟨w4, e, h⟩ := bd h
      refine fx_sI hx hb hK hR hS e dX4_insert_63 (fun H locs hR hS => ?_)
      refine lv_aload_n hx hb dX4_insert_64 rfl (lv_at hl 0 rfl) ?_
      refine lv_dup hx hb dX4_insert_65 rfl ?_
      obtain ⟨v5, e, h⟩ := bd h
      refine fx_gI hx hb hts hown hK hR fl_X4_28 e dX4_insert_66 ?_
      refine lv_iconst (v := 1) hx hb dX4_insert_69 (by decide) ?_
      refine lv_iadd hx hb dX4_insert_70 ?_
      obtain ⟨w6, e, h⟩ := bd h
      refine fx_p hx hb hts hown hK hR hS fp_X4_28 e rfl rfl dX4_insert_71 (fun H locs hR hS => ?_)
      exact fx_vret hx hb hr hlocks (Option.some.inj h) hR hS dX4_insert_74
    · have h := ie c h
      refine lv_aload_n hx hb dX4_insert_12 rfl (lv_at hl 0 rfl) ?_
      obtain ⟨r7, e, h⟩ := bd h
      refine fx_gR hx hb hts hown hK hR fl_X4_9 e dX4_insert_13 ?_
      refine lv_iload hx hb dX4_insert_16 (lv_at hl 4 rfl) ?_
      refine lv_aload_n hx hb dX4_insert_18 rfl (lv_at hl 0 rfl) ?_
      obtain ⟨r8, e, h⟩ := bd h
      refine fx_gR hx hb hts hown hK hR fl_X4_9 e dX4_insert_19 ?_
      refine lv_iload hx hb dX4_insert_22 (lv_at hl 4 rfl) ?_
      refine lv_iconst (v := 1) hx hb dX4_insert_24 (by decide) ?_
      refine lv_isub hx hb dX4_insert_25 ?_
      obtain ⟨v9, e, h⟩ := bd h
      refine fx_lI hx hb hK hR e dX4_insert_26 ?_
      obtain ⟨w10, e, h⟩ := bd h
      refine fx_sI hx hb hK hR hS e dX4_insert_27 (fun H locs hR hS => ?_)
      refine lv_aload_n hx hb dX4_insert_28 rfl (lv_at hl 0 rfl) ?_
      obtain ⟨r11, e, h⟩ := bd h
      refine fx_gR hx hb hts hown hK hR fl_X4_15 e dX4_insert_29 ?_
      refine lv_iload hx hb dX4_insert_32 (lv_at hl 4 rfl) ?_
      refine lv_aload_n hx hb dX4_insert_34 rfl (lv_at hl 0 rfl) ?_
      obtain ⟨r12, e, h⟩ := bd h
      refine fx_gR hx hb hts hown hK hR fl_X4_15 e dX4_insert_35 ?_
      refine lv_iload hx hb dX4_insert_38 (lv_at hl 4 rfl) ?_
      refine lv_iconst (v := 1) hx hb dX4_insert_40 (by decide) ?_
      refine lv_isub hx hb dX4_insert_41 ?_
      obtain ⟨v13, e, h⟩ := bd h
      refine fx_lI hx hb hK hR e dX4_insert_42 ?_
      obtain ⟨w14, e, h⟩ := bd h
      refine fx_sI hx hb hK hR hS e dX4_insert_43 (fun H locs hR hS => ?_)
      refine lv_iinc (v := (x4 + (-1))) (lv' := [(4, .int (x4 + (-1))), (0, .ref a0), (1, .int x1), (2, .int x2), (3, .int x3)]) hx hb dX4_insert_44 hl (k := 4) rfl rfl (by decide) rfl (fun ls hl => ?_)
      refine lv_goto (tgt := 6) hx hb dX4_insert_47 (by decide) ?_
      exact ih hR hS (lv_sub hl [1, 2, 3, 4, 0] rfl) h
def fX4_insert (w : Fw) (a0 : Nat) (x1 : Int32) (x2 : Int32) (x3 : Int32) : Option (Fw) := ((gI w a0 4 0).bind fun v15 => (fX4_insert_L6 1000 w a0 x1 x2 x3 v15))
set_option maxRecDepth 100000 in
set_option maxHeartbeats 4000000 in
theorem mX4_insert (l : Launch) (D : va_G) (dA : Nat → ClassId) (A : Nat → Prop) {w : Fw} {a0 : Nat} {x1 : Int32} {x2 : Int32} {x3 : Int32} {res : Fw} (h : fX4_insert w a0 x1 x2 x3 = some res) : Met l yX4_insert (wz yX4_insert cX4_insert 5 none) (rz 0 0) (Pz D dA A w [.ref a0, .int x1, .int x2, .int x3]) (QzV D dA A res) 0 0 A := by
  refine Met.ofW (cc := cX4_insert) (maxL := 5) (ret := none) (by decide) rfl ?_
  intro p e s m args below meth c s₁ B hml hv
  obtain ⟨rfl, hR, hK⟩ := hv
  have hx := B.exec
  have hb := B.bytes
  have hr := B.returns
  have hts : ∀ w ∈ lw_g, w.before [.ref a0, .int x1, .int x2, .int x3].toArray s = true := fun w hw => atoms_spec (ws := wz yX4_insert cX4_insert 5 none) B.pre w (List.mem_cons_of_mem _ hw)
  have hown : s.vm.findClass RX4 = some m.cls := findClass_of_methodNamed B.named
  have hlocks := B.notSynchronized
  have C : Cx p s m [.ref a0, .int x1, .int x2, .int x3].toArray meth c D dA RX4 cX4_insert 5 none := ⟨hx, hb, hr, hml, hown, hts, hK, hlocks⟩
  have hS : va_S A s.heap s.heap [] := va_S.rf
  have hl := lv_entry ([.ref a0, .int x1, .int x2, .int x3]) (n := 5) (Nat.le_of_ble_eq_true rfl)
  rw [lg_entry_eq]
  generalize (lg_sl ([.ref a0, .int x1, .int x2, .int x3]) ++ List.replicate (5 - (lg_sl ([.ref a0, .int x1, .int x2, .int x3])).length) Slot.unset).toArray = ls at hl ⊢
  have hl : lv_has ls 5 [(0, .ref a0), (1, .int x1), (2, .int x2), (3, .int x3)] := hl
  unfold fX4_insert at h
  show W p l e (rz 0 0) s m _ below meth c s.heap [] 0 0 _ _
  refine lv_aload_n hx hb dX4_insert_0 rfl (lv_at hl 0 rfl) ?_
  obtain ⟨v15, e, h⟩ := bd h
  refine fx_gI hx hb hts hown hK hR fl_X4_28 e dX4_insert_1 ?_
  refine lv_istore (lv' := [(4, .int v15), (0, .ref a0), (1, .int x1), (2, .int x2), (3, .int x3)]) hx hb dX4_insert_4 hl (by decide) rfl (fun ls hl => ?_)
  exact qX4_insert_L6 C   1000 hR hS (lv_sub hl [1, 2, 3, 4, 0] rfl) h
def fX4_remove_L12  : Nat → Fw → Nat → Int32 → Option (Fw)
  | 0, _, _, _ => none
  | n + 1, w, a0, x2 => ((gI w a0 4 0).bind fun v1 => (if v1 ≤ x2 then some w else ((gR w a0 4 1).bind fun r2 => ((gR w a0 4 1).bind fun r3 => ((lI w r3 (x2 + 1)).bind fun v4 => ((sI w r2 x2 v4).bind fun w5 => ((gR w5 a0 4 2).bind fun r6 => ((gR w5 a0 4 2).bind fun r7 => ((lI w5 r7 (x2 + 1)).bind fun v8 => ((sI w5 r6 x2 v8).bind fun w9 => (fX4_remove_L12  n w9 a0 (x2 + 1))))))))))))
set_option maxRecDepth 100000 in
set_option maxHeartbeats 4000000 in
theorem qX4_remove_L12 {p : Program} {l : Launch} {e : Env} {s : State} {m : MethodId} {args : Array Value} {below : List Frame} {meth : Method} {c : Code} {D : va_G} {dA : Nat → ClassId} {A : Nat → Prop} (C : Cx p s m args meth c D dA RX4 cX4_remove 3 none) {res : Fw}   : ∀ (n : Nat) {w : Fw} {H : Heap} {locs : List Loc} {ls : Array Slot} {a0 : Nat} {x2 : Int32}, Rp D dA A w H → va_S A s.heap H locs → lv_has ls 3 [(0, .ref a0), (2, .int x2)] → fX4_remove_L12 n w a0 x2 = some res → W p l e (rz 0 0) s m args below meth c H locs 0 0 (MQ below (QzV D dA A res) args s 0 0 A) (F0 m 12 ls []) := by
  obtain ⟨hx, hb, hr, hml, hown, hts, hK, hlocks⟩ := id C
  intro n
  induction n with
  | zero =>
    intro w H locs ls a0 x2 hR hS hl h
    rw [fX4_remove_L12.eq_1] at h
    cases h
  | succ n ih =>
    intro w H locs ls a0 x2 hR hS hl h
    rw [fX4_remove_L12.eq_2] at h
    refine lv_iload_n hx hb dX4_remove_12 rfl (lv_at hl 1 rfl) ?_
    refine lv_aload_n hx hb dX4_remove_13 rfl (lv_at hl 0 rfl) ?_
    obtain ⟨v1, e, h⟩ := bd h
    refine fx_gI hx hb hts hown hK hR fl_X4_28 e dX4_remove_14 ?_
    refine lv_icmp_ge (tgt := 54) hx hb dX4_remove_17 (by decide) (fun c => ?_) (fun c => ?_)
    · have h := it c h
      exact fx_vret hx hb hr hlocks (Option.some.inj h) hR hS dX4_remove_54
    · have h := ie c h
      refine lv_aload_n hx hb dX4_remove_20 rfl (lv_at hl 0 rfl) ?_
      obtain ⟨r2, e, h⟩ := bd h
      refine fx_gR hx hb hts hown hK hR fl_X4_9 e dX4_remove_21 ?_
      refine lv_iload_n hx hb dX4_remove_24 rfl (lv_at hl 1 rfl) ?_
      refine lv_aload_n hx hb dX4_remove_25 rfl (lv_at hl 0 rfl) ?_
      obtain ⟨r3, e, h⟩ := bd h
      refine fx_gR hx hb hts hown hK hR fl_X4_9 e dX4_remove_26 ?_
      refine lv_iload_n hx hb dX4_remove_29 rfl (lv_at hl 1 rfl) ?_
      refine lv_iconst (v := 1) hx hb dX4_remove_30 (by decide) ?_
      refine lv_iadd hx hb dX4_remove_31 ?_
      obtain ⟨v4, e, h⟩ := bd h
      refine fx_lI hx hb hK hR e dX4_remove_32 ?_
      obtain ⟨w5, e, h⟩ := bd h
      refine fx_sI hx hb hK hR hS e dX4_remove_33 (fun H locs hR hS => ?_)
      refine lv_aload_n hx hb dX4_remove_34 rfl (lv_at hl 0 rfl) ?_
      obtain ⟨r6, e, h⟩ := bd h
      refine fx_gR hx hb hts hown hK hR fl_X4_15 e dX4_remove_35 ?_
      refine lv_iload_n hx hb dX4_remove_38 rfl (lv_at hl 1 rfl) ?_
      refine lv_aload_n hx hb dX4_remove_39 rfl (lv_at hl 0 rfl) ?_
      obtain ⟨r7, e, h⟩ := bd h
      refine fx_gR hx hb hts hown hK hR fl_X4_15 e dX4_remove_40 ?_
      refine lv_iload_n hx hb dX4_remove_43 rfl (lv_at hl 1 rfl) ?_
      refine lv_iconst (v := 1) hx hb dX4_remove_44 (by decide) ?_
      refine lv_iadd hx hb dX4_remove_45 ?_
      obtain ⟨v8, e, h⟩ := bd h
      refine fx_lI hx hb hK hR e dX4_remove_46 ?_
      obtain ⟨w9, e, h⟩ := bd h
      refine fx_sI hx hb hK hR hS e dX4_remove_47 (fun H locs hR hS => ?_)
      refine lv_iinc (v := (x2 + 1)) (lv' := [(2, .int (x2 + 1)), (0, .ref a0)]) hx hb dX4_remove_48 hl (k := 1) rfl rfl (by decide) rfl (fun ls hl => ?_)
      refine lv_goto (tgt := 12) hx hb dX4_remove_51 (by decide) ?_
      exact ih hR hS (lv_sub hl [1, 0] rfl) h
def fX4_remove (w : Fw) (a0 : Nat) (x1 : Int32) : Option (Fw) := ((gI w a0 4 0).bind fun v10 => ((pF w a0 4 0 (.int (v10 - 1))).bind fun w11 => (fX4_remove_L12 1000 w11 a0 x1)))
set_option maxRecDepth 100000 in
set_option maxHeartbeats 4000000 in
theorem mX4_remove (l : Launch) (D : va_G) (dA : Nat → ClassId) (A : Nat → Prop) {w : Fw} {a0 : Nat} {x1 : Int32} {res : Fw} (h : fX4_remove w a0 x1 = some res) : Met l yX4_remove (wz yX4_remove cX4_remove 3 none) (rz 0 0) (Pz D dA A w [.ref a0, .int x1]) (QzV D dA A res) 0 0 A := by
  refine Met.ofW (cc := cX4_remove) (maxL := 3) (ret := none) (by decide) rfl ?_
  intro p e s m args below meth c s₁ B hml hv
  obtain ⟨rfl, hR, hK⟩ := hv
  have hx := B.exec
  have hb := B.bytes
  have hr := B.returns
  have hts : ∀ w ∈ lw_g, w.before [.ref a0, .int x1].toArray s = true := fun w hw => atoms_spec (ws := wz yX4_remove cX4_remove 3 none) B.pre w (List.mem_cons_of_mem _ hw)
  have hown : s.vm.findClass RX4 = some m.cls := findClass_of_methodNamed B.named
  have hlocks := B.notSynchronized
  have C : Cx p s m [.ref a0, .int x1].toArray meth c D dA RX4 cX4_remove 3 none := ⟨hx, hb, hr, hml, hown, hts, hK, hlocks⟩
  have hS : va_S A s.heap s.heap [] := va_S.rf
  have hl := lv_entry ([.ref a0, .int x1]) (n := 3) (Nat.le_of_ble_eq_true rfl)
  rw [lg_entry_eq]
  generalize (lg_sl ([.ref a0, .int x1]) ++ List.replicate (3 - (lg_sl ([.ref a0, .int x1])).length) Slot.unset).toArray = ls at hl ⊢
  have hl : lv_has ls 3 [(0, .ref a0), (1, .int x1)] := hl
  unfold fX4_remove at h
  show W p l e (rz 0 0) s m _ below meth c s.heap [] 0 0 _ _
  refine lv_aload_n hx hb dX4_remove_0 rfl (lv_at hl 0 rfl) ?_
  refine lv_dup hx hb dX4_remove_1 rfl ?_
  obtain ⟨v10, e, h⟩ := bd h
  refine fx_gI hx hb hts hown hK hR fl_X4_28 e dX4_remove_2 ?_
  refine lv_iconst (v := 1) hx hb dX4_remove_5 (by decide) ?_
  refine lv_isub hx hb dX4_remove_6 ?_
  obtain ⟨w11, e, h⟩ := bd h
  refine fx_p hx hb hts hown hK hR hS fp_X4_28 e rfl rfl dX4_remove_7 (fun H locs hR hS => ?_)
  refine lv_iload_n hx hb dX4_remove_10 rfl (lv_at hl 1 rfl) ?_
  refine lv_istore_n (lv' := [(2, .int x1), (0, .ref a0), (1, .int x1)]) hx hb dX4_remove_11 rfl hl (by decide) rfl (fun ls hl => ?_)
  exact qX4_remove_L12 C   1000 hR hS (lv_sub hl [1, 0] rfl) h
def fX4_replace (w : Fw) (a0 : Nat) (x1 : Int32) (x2 : Int32) : Option (Fw) := ((gR w a0 4 1).bind fun r1 => ((sI w r1 x1 x2).bind fun w2 => some w2))
set_option maxRecDepth 100000 in
set_option maxHeartbeats 4000000 in
theorem mX4_replace (l : Launch) (D : va_G) (dA : Nat → ClassId) (A : Nat → Prop) {w : Fw} {a0 : Nat} {x1 : Int32} {x2 : Int32} {res : Fw} (h : fX4_replace w a0 x1 x2 = some res) : Met l yX4_replace (wz yX4_replace cX4_replace 3 none) (rz 0 0) (Pz D dA A w [.ref a0, .int x1, .int x2]) (QzV D dA A res) 0 0 A := by
  refine Met.ofW (cc := cX4_replace) (maxL := 3) (ret := none) (by decide) rfl ?_
  intro p e s m args below meth c s₁ B hml hv
  obtain ⟨rfl, hR, hK⟩ := hv
  have hx := B.exec
  have hb := B.bytes
  have hr := B.returns
  have hts : ∀ w ∈ lw_g, w.before [.ref a0, .int x1, .int x2].toArray s = true := fun w hw => atoms_spec (ws := wz yX4_replace cX4_replace 3 none) B.pre w (List.mem_cons_of_mem _ hw)
  have hown : s.vm.findClass RX4 = some m.cls := findClass_of_methodNamed B.named
  have hlocks := B.notSynchronized
  have C : Cx p s m [.ref a0, .int x1, .int x2].toArray meth c D dA RX4 cX4_replace 3 none := ⟨hx, hb, hr, hml, hown, hts, hK, hlocks⟩
  have hS : va_S A s.heap s.heap [] := va_S.rf
  have hl := lv_entry ([.ref a0, .int x1, .int x2]) (n := 3) (Nat.le_of_ble_eq_true rfl)
  rw [lg_entry_eq]
  generalize (lg_sl ([.ref a0, .int x1, .int x2]) ++ List.replicate (3 - (lg_sl ([.ref a0, .int x1, .int x2])).length) Slot.unset).toArray = ls at hl ⊢
  have hl : lv_has ls 3 [(0, .ref a0), (1, .int x1), (2, .int x2)] := hl
  unfold fX4_replace at h
  show W p l e (rz 0 0) s m _ below meth c s.heap [] 0 0 _ _
  refine lv_aload_n hx hb dX4_replace_0 rfl (lv_at hl 0 rfl) ?_
  obtain ⟨r1, e, h⟩ := bd h
  refine fx_gR hx hb hts hown hK hR fl_X4_9 e dX4_replace_1 ?_
  refine lv_iload_n hx hb dX4_replace_4 rfl (lv_at hl 1 rfl) ?_
  refine lv_iload_n hx hb dX4_replace_5 rfl (lv_at hl 2 rfl) ?_
  obtain ⟨w2, e, h⟩ := bd h
  refine fx_sI hx hb hK hR hS e dX4_replace_6 (fun H locs hR hS => ?_)
  exact fx_vret hx hb hr hlocks (Option.some.inj h) hR hS dX4_replace_7
