def fX4_retell_L10  : Nat → Fw → Nat → Nat → Nat → Int32 → Option (Fw)
  | 0, _, _, _, _, _ => none
  | n + 1, w, a0, a1, a2, x3 => ((gI w a0 4 0).bind fun v1 => (if v1 ≤ x3 then some w else ((gR w a0 4 1).bind fun r2 => ((isO w a1 5).bind fun _ => ((fX5_byteAt w a1 x3).bind fun v3 => ((sI w r2 x3 v3).bind fun w4 => ((gR w4 a0 4 2).bind fun r5 => ((isO w4 a2 3).bind fun _ => ((fX3_idAt w4 a2 x3).bind fun v6 => ((sI w4 r5 x3 v6).bind fun w7 => (fX4_retell_L10  n w7 a0 a1 a2 (x3 + 1))))))))))))
set_option maxRecDepth 100000 in
set_option maxHeartbeats 4000000 in
theorem qX4_retell_L10 {p : Program} {l : Launch} {e : Env} {s : State} {m : MethodId} {args : Array Value} {below : List Frame} {meth : Method} {c : Code} {D : va_G} {dA : Nat → ClassId} {A : Nat → Prop} (C : Cx p s m args meth c D dA RX4 cX4_retell 4 none) {res : Fw}   : ∀ (n : Nat) {w : Fw} {H : Heap} {locs : List Loc} {ls : Array Slot} {a0 : Nat} {a1 : Nat} {a2 : Nat} {x3 : Int32}, Rp D dA A w H → va_S A s.heap H locs → lv_has ls 4 [(0, .ref a0), (1, .ref a1), (2, .ref a2), (3, .int x3)] → fX4_retell_L10 n w a0 a1 a2 x3 = some res → W p l e (rz 1 21) s m args below meth c H locs 0 0 (MQ below (QzV D dA A res) args s 0 0 A) (F0 m 10 ls []) := by
  obtain ⟨hx, hb, hr, hml, hown, hts, hK, hlocks⟩ := id C
  intro n
  induction n with
  | zero =>
    intro w H locs ls a0 a1 a2 x3 hR hS hl h
    rw [fX4_retell_L10.eq_1] at h
    cases h
  | succ n ih =>
    intro w H locs ls a0 a1 a2 x3 hR hS hl h
    rw [fX4_retell_L10.eq_2] at h
    refine lv_iload_n hx hb dX4_retell_10 rfl (lv_at hl 3 rfl) ?_
    refine lv_aload_n hx hb dX4_retell_11 rfl (lv_at hl 0 rfl) ?_
    obtain ⟨v1, e, h⟩ := bd h
    refine fx_gI hx hb hts hown hK hR fl_X4_28 e dX4_retell_12 ?_
    refine lv_icmp_ge (tgt := 46) hx hb dX4_retell_15 (by decide) (fun c => ?_) (fun c => ?_)
    · have h := it c h
      exact fx_vret hx hb hr hlocks (Option.some.inj h) hR hS dX4_retell_46
    · have h := ie c h
      refine lv_aload_n hx hb dX4_retell_18 rfl (lv_at hl 0 rfl) ?_
      obtain ⟨r2, e, h⟩ := bd h
      refine fx_gR hx hb hts hown hK hR fl_X4_9 e dX4_retell_19 ?_
      refine lv_iload_n hx hb dX4_retell_22 rfl (lv_at hl 3 rfl) ?_
      refine lv_aload_n hx hb dX4_retell_23 rfl (lv_at hl 1 rfl) ?_
      refine lv_iload_n hx hb dX4_retell_24 rfl (lv_at hl 3 rfl) ?_
      obtain ⟨_, eO, h⟩ := bd h
      obtain ⟨v3, e, h⟩ := bd h
      refine fx_vI (As := [.int x3]) (rest := [.int x3, .ref r2]) hx hb hml hts hown hK hR hS eO (mX5_byteAt l D dA A e) my_X5_byteAt mv_X5_byteAt rfl ml_X4_38 rfl hl.1 rfl (Nat.le_of_ble_eq_true rfl) dX4_retell_25 ⟨Nat.le_of_ble_eq_true rfl, Nat.le_of_ble_eq_true rfl⟩ ⟨Nat.le_refl _, Nat.le_refl _⟩ (fun H locs hR hS => ?_)
      obtain ⟨w4, e, h⟩ := bd h
      refine fx_sI hx hb hK hR hS e dX4_retell_28 (fun H locs hR hS => ?_)
      refine lv_aload_n hx hb dX4_retell_29 rfl (lv_at hl 0 rfl) ?_
      obtain ⟨r5, e, h⟩ := bd h
      refine fx_gR hx hb hts hown hK hR fl_X4_15 e dX4_retell_30 ?_
      refine lv_iload_n hx hb dX4_retell_33 rfl (lv_at hl 3 rfl) ?_
      refine lv_aload_n hx hb dX4_retell_34 rfl (lv_at hl 2 rfl) ?_
      refine lv_iload_n hx hb dX4_retell_35 rfl (lv_at hl 3 rfl) ?_
      obtain ⟨_, eO, h⟩ := bd h
      obtain ⟨v6, e, h⟩ := bd h
      refine fx_vI (As := [.int x3]) (rest := [.int x3, .ref r5]) hx hb hml hts hown hK hR hS eO (mX3_idAt l D dA A e) my_X3_idAt mv_X3_idAt rfl ml_X4_42 rfl hl.1 rfl (Nat.le_of_ble_eq_true rfl) dX4_retell_36 ⟨Nat.le_of_ble_eq_true rfl, Nat.le_of_ble_eq_true rfl⟩ ⟨Nat.le_refl _, Nat.le_refl _⟩ (fun H locs hR hS => ?_)
      obtain ⟨w7, e, h⟩ := bd h
      refine fx_sI hx hb hK hR hS e dX4_retell_39 (fun H locs hR hS => ?_)
      refine lv_iinc (v := (x3 + 1)) (lv' := [(3, .int (x3 + 1)), (0, .ref a0), (1, .ref a1), (2, .ref a2)]) hx hb dX4_retell_40 hl (k := 3) rfl rfl (by decide) rfl (fun ls hl => ?_)
      refine lv_goto (tgt := 10) hx hb dX4_retell_43 (by decide) ?_
      exact ih hR hS (lv_sub hl [1, 2, 3, 0] rfl) h
def fX4_retell (w : Fw) (a0 : Nat) (a1 : Nat) (a2 : Nat) : Option (Fw) := ((isO w a1 5).bind fun _ => ((fX5_size w a1).bind fun v8 => ((pF w a0 4 0 (.int v8)).bind fun w9 => (fX4_retell_L10 1000 w9 a0 a1 a2 0))))
set_option maxRecDepth 100000 in
set_option maxHeartbeats 4000000 in
theorem mX4_retell (l : Launch) (D : va_G) (dA : Nat → ClassId) (A : Nat → Prop) {w : Fw} {a0 : Nat} {a1 : Nat} {a2 : Nat} {res : Fw} (h : fX4_retell w a0 a1 a2 = some res) : Met l yX4_retell (wz yX4_retell cX4_retell 4 none) (rz 1 21) (Pz D dA A w [.ref a0, .ref a1, .ref a2]) (QzV D dA A res) 0 0 A := by
  refine Met.ofW (cc := cX4_retell) (maxL := 4) (ret := none) (by decide) rfl ?_
  intro p e s m args below meth c s₁ B hml hv
  obtain ⟨rfl, hR, hK⟩ := hv
  have hx := B.exec
  have hb := B.bytes
  have hr := B.returns
  have hts : ∀ w ∈ lw_g, w.before [.ref a0, .ref a1, .ref a2].toArray s = true := fun w hw => atoms_spec (ws := wz yX4_retell cX4_retell 4 none) B.pre w (List.mem_cons_of_mem _ hw)
  have hown : s.vm.findClass RX4 = some m.cls := findClass_of_methodNamed B.named
  have hlocks := B.notSynchronized
  have C : Cx p s m [.ref a0, .ref a1, .ref a2].toArray meth c D dA RX4 cX4_retell 4 none := ⟨hx, hb, hr, hml, hown, hts, hK, hlocks⟩
  have hS : va_S A s.heap s.heap [] := va_S.rf
  have hl := lv_entry ([.ref a0, .ref a1, .ref a2]) (n := 4) (Nat.le_of_ble_eq_true rfl)
  rw [lg_entry_eq]
  generalize (lg_sl ([.ref a0, .ref a1, .ref a2]) ++ List.replicate (4 - (lg_sl ([.ref a0, .ref a1, .ref a2])).length) Slot.unset).toArray = ls at hl ⊢
  have hl : lv_has ls 4 [(0, .ref a0), (1, .ref a1), (2, .ref a2)] := hl
  unfold fX4_retell at h
  show W p l e (rz 1 21) s m _ below meth c s.heap [] 0 0 _ _
  refine lv_aload_n hx hb dX4_retell_0 rfl (lv_at hl 0 rfl) ?_
  refine lv_aload_n hx hb dX4_retell_1 rfl (lv_at hl 1 rfl) ?_
  obtain ⟨_, eO, h⟩ := bd h
  obtain ⟨v8, e, h⟩ := bd h
  refine fx_vI (As := []) (rest := [.ref a0]) hx hb hml hts hown hK hR hS eO (mX5_size l D dA A e) my_X5_size mv_X5_size rfl ml_X4_32 rfl hl.1 rfl (Nat.le_of_ble_eq_true rfl) dX4_retell_2 ⟨Nat.le_of_ble_eq_true rfl, Nat.le_of_ble_eq_true rfl⟩ ⟨Nat.le_refl _, Nat.le_refl _⟩ (fun H locs hR hS => ?_)
  obtain ⟨w9, e, h⟩ := bd h
  refine fx_p hx hb hts hown hK hR hS fp_X4_28 e rfl rfl dX4_retell_5 (fun H locs hR hS => ?_)
  refine lv_iconst (v := 0) hx hb dX4_retell_8 (by decide) ?_
  refine lv_istore_n (lv' := [(3, .int 0), (0, .ref a0), (1, .ref a1), (2, .ref a2)]) hx hb dX4_retell_9 rfl hl (by decide) rfl (fun ls hl => ?_)
  exact qX4_retell_L10 C   1000 hR hS (lv_sub hl [1, 2, 3, 0] rfl) h
def fX4_renewFindings_b72 (K14 : Fw → Nat → Nat → Int32 → Nat → Nat → Int32 → Option (Fw)) (K26 : Fw → Nat → Nat → Int32 → Nat → Nat → Int32 → Int32 → Option (Fw)) (w : Fw) (a0 : Nat) (a1 : Nat) (x2 : Int32) (a3 : Nat) (a4 : Nat) (x5 : Int32) (x6 : Int32) : Option (Fw) := (K26 w a0 a1 x2 a3 a4 x5 (x6 + 1))
set_option maxRecDepth 100000 in
set_option maxHeartbeats 4000000 in
theorem qX4_renewFindings_b72 {p : Program} {l : Launch} {e : Env} {s : State} {m : MethodId} {args : Array Value} {below : List Frame} {meth : Method} {c : Code} {D : va_G} {dA : Nat → ClassId} {A : Nat → Prop} (C : Cx p s m args meth c D dA RX4 cX4_renewFindings 7 none) {w : Fw} {res : Fw} {K14 : Fw → Nat → Nat → Int32 → Nat → Nat → Int32 → Option (Fw)} {K26 : Fw → Nat → Nat → Int32 → Nat → Nat → Int32 → Int32 → Option (Fw)} (hK14 : ∀ {w : Fw} {H : Heap} {locs : List Loc} {ls : Array Slot} {a0 : Nat} {a1 : Nat} {x2 : Int32} {a3 : Nat} {a4 : Nat} {x5 : Int32}, Rp D dA A w H → va_S A s.heap H locs → lv_has ls 7 [(0, .ref a0), (1, .ref a1), (2, .int x2), (3, .ref a3), (4, .ref a4), (5, .int x5)] → K14 w a0 a1 x2 a3 a4 x5 = some res → W p l e (rz 3 69) s m args below meth c H locs 0 0 (MQ below (QzV D dA A res) args s 0 0 A) (F0 m 14 ls [])) (hK26 : ∀ {w : Fw} {H : Heap} {locs : List Loc} {ls : Array Slot} {a0 : Nat} {a1 : Nat} {x2 : Int32} {a3 : Nat} {a4 : Nat} {x5 : Int32} {x6 : Int32}, Rp D dA A w H → va_S A s.heap H locs → lv_has ls 7 [(0, .ref a0), (1, .ref a1), (2, .int x2), (3, .ref a3), (4, .ref a4), (5, .int x5), (6, .int x6)] → K26 w a0 a1 x2 a3 a4 x5 x6 = some res → W p l e (rz 3 69) s m args below meth c H locs 0 0 (MQ below (QzV D dA A res) args s 0 0 A) (F0 m 26 ls [])) {H : Heap} {locs : List Loc} {ls : Array Slot} {a0 : Nat} {a1 : Nat} {x2 : Int32} {a3 : Nat} {a4 : Nat} {x5 : Int32} {x6 : Int32} (hR : Rp D dA A w H) (hS : va_S A s.heap H locs) (hl : lv_has ls 7 [(0, .ref a0), (1, .ref a1), (2, .int x2), (3, .ref a3), (4, .ref a4), (5, .int x5), (6, .int x6)]) (h : fX4_renewFindings_b72 K14 K26 w a0 a1 x2 a3 a4 x5 x6 = some res) : W p l e (rz 3 69) s m args below meth c H locs 0 0 (MQ below (QzV D dA A res) args s 0 0 A) (F0 m 72 ls []) := by
  obtain ⟨hx, hb, hr, hml, hown, hts, hK, hlocks⟩ := id C
  unfold fX4_renewFindings_b72 at h
  refine lv_iinc (v := (x6 + 1)) (lv' := [(6, .int (x6 + 1)), (0, .ref a0), (1, .ref a1), (2, .int x2), (3, .ref a3), (4, .ref a4), (5, .int x5)]) hx hb dX4_renewFindings_72 hl (k := 6) rfl rfl (by decide) rfl (fun ls hl => ?_)
  refine lv_goto (tgt := 26) hx hb dX4_renewFindings_75 (by decide) ?_
  exact hK26 hR hS (lv_sub hl [1, 2, 3, 4, 5, 6, 0] rfl) h
def fX4_renewFindings_L26 (K14 : Fw → Nat → Nat → Int32 → Nat → Nat → Int32 → Option (Fw)) : Nat → Fw → Nat → Nat → Int32 → Nat → Nat → Int32 → Int32 → Option (Fw)
  | 0, _, _, _, _, _, _, _, _ => none
  | n + 1, w, a0, a1, x2, a3, a4, x5, x6 => if 5 ≤ x6 then (K14 w a0 a1 x2 a3 a4 (x5 + 1)) else ((isO w a1 0).bind fun _ => ((fX0_linesOf w a1 x6).bind fun v1 => ((fX6_has w v1 x5).bind fun v2 => (if v2 = 0 then (fX4_renewFindings_b72 K14 (fX4_renewFindings_L26 K14 n) w a0 a1 x2 a3 a4 x5 x6) else ((gR w a0 4 2).bind fun r3 => ((lI w r3 x5).bind fun v4 => ((isO w a4 2).bind fun _ => ((fX2_add w a4 x6 x5 v4 x2).bind fun w5 => ((gR w5 a0 4 3).bind fun r6 => ((isO w5 a4 2).bind fun _ => ((fX2_takeOver w5 a4 r6).bind fun w7 => (fX4_renewFindings_b72 K14 (fX4_renewFindings_L26 K14 n) w7 a0 a1 x2 a3 a4 x5 x6))))))))))))
set_option maxRecDepth 100000 in
set_option maxHeartbeats 4000000 in
theorem qX4_renewFindings_L26 {p : Program} {l : Launch} {e : Env} {s : State} {m : MethodId} {args : Array Value} {below : List Frame} {meth : Method} {c : Code} {D : va_G} {dA : Nat → ClassId} {A : Nat → Prop} (C : Cx p s m args meth c D dA RX4 cX4_renewFindings 7 none) {res : Fw} {K14 : Fw → Nat → Nat → Int32 → Nat → Nat → Int32 → Option (Fw)} (hK14 : ∀ {w : Fw} {H : Heap} {locs : List Loc} {ls : Array Slot} {a0 : Nat} {a1 : Nat} {x2 : Int32} {a3 : Nat} {a4 : Nat} {x5 : Int32}, Rp D dA A w H → va_S A s.heap H locs → lv_has ls 7 [(0, .ref a0), (1, .ref a1), (2, .int x2), (3, .ref a3), (4, .ref a4), (5, .int x5)] → K14 w a0 a1 x2 a3 a4 x5 = some res → W p l e (rz 3 69) s m args below meth c H locs 0 0 (MQ below (QzV D dA A res) args s 0 0 A) (F0 m 14 ls [])) : ∀ (n : Nat) {w : Fw} {H : Heap} {locs : List Loc} {ls : Array Slot} {a0 : Nat} {a1 : Nat} {x2 : Int32} {a3 : Nat} {a4 : Nat} {x5 : Int32} {x6 : Int32}, Rp D dA A w H → va_S A s.heap H locs → lv_has ls 7 [(0, .ref a0), (1, .ref a1), (2, .int x2), (3, .ref a3), (4, .ref a4), (5, .int x5), (6, .int x6)] → fX4_renewFindings_L26 K14 n w a0 a1 x2 a3 a4 x5 x6 = some res → W p l e (rz 3 69) s m args below meth c H locs 0 0 (MQ below (QzV D dA A res) args s 0 0 A) (F0 m 26 ls []) := by
  obtain ⟨hx, hb, hr, hml, hown, hts, hK, hlocks⟩ := id C
  intro n
  induction n with
  | zero =>
    intro w H locs ls a0 a1 x2 a3 a4 x5 x6 hR hS hl h
    rw [fX4_renewFindings_L26.eq_1] at h
    cases h
  | succ n ih =>
    intro w H locs ls a0 a1 x2 a3 a4 x5 x6 hR hS hl h
    rw [fX4_renewFindings_L26.eq_2] at h
    refine lv_iload hx hb dX4_renewFindings_26 (lv_at hl 6 rfl) ?_
    refine lv_iconst (v := 5) hx hb dX4_renewFindings_28 (by decide) ?_
    refine lv_icmp_ge (tgt := 78) hx hb dX4_renewFindings_29 (by decide) (fun c => ?_) (fun c => ?_)
    · have h := it c h
      refine lv_iinc (v := (x5 + 1)) (lv' := [(5, .int (x5 + 1)), (0, .ref a0), (1, .ref a1), (2, .int x2), (3, .ref a3), (4, .ref a4), (6, .int x6)]) hx hb dX4_renewFindings_78 hl (k := 5) rfl rfl (by decide) rfl (fun ls hl => ?_)
      refine lv_goto (tgt := 14) hx hb dX4_renewFindings_81 (by decide) ?_
      exact hK14 hR hS (lv_sub hl [1, 2, 3, 4, 5, 0] rfl) h
    · have h := ie c h
      refine lv_aload_n hx hb dX4_renewFindings_32 rfl (lv_at hl 1 rfl) ?_
      refine lv_iload hx hb dX4_renewFindings_33 (lv_at hl 6 rfl) ?_
      obtain ⟨_, eO, h⟩ := bd h
      obtain ⟨v1, e, h⟩ := bd h
      refine fx_vI (As := [.int x6]) (rest := []) hx hb hml hts hown hK hR hS eO (mX0_linesOf l D dA A e) my_X0_linesOf mv_X0_linesOf rfl ml_X4_56 rfl hl.1 rfl (Nat.le_of_ble_eq_true rfl) dX4_renewFindings_35 ⟨Nat.le_of_ble_eq_true rfl, Nat.le_of_ble_eq_true rfl⟩ ⟨Nat.le_refl _, Nat.le_refl _⟩ (fun H locs hR hS => ?_)
      refine lv_iload hx hb dX4_renewFindings_38 (lv_at hl 5 rfl) ?_
      obtain ⟨v2, e, h⟩ := bd h
      refine fx_sN (As := [.int v1, .int x5]) (rest := []) hx hb hml hts hown hK hR hS (mX6_has l D dA A e) my_X6_has ms_X6_has hK.2.2 rfl hl.1 rfl (Nat.le_of_ble_eq_true rfl) dX4_renewFindings_40 ⟨Nat.le_of_ble_eq_true rfl, Nat.le_of_ble_eq_true rfl⟩ ⟨Nat.le_refl _, Nat.le_refl _⟩ (fun H locs hR hS => ?_)
      refine lv_if_eq (tgt := 72) hx hb dX4_renewFindings_43 (by decide) (fun c => ?_) (fun c => ?_)
      · have h := it c h
        exact qX4_renewFindings_b72 C (K14 := K14) (K26 := fX4_renewFindings_L26 K14 n) (hK14 := @hK14) (hK26 := @ih) hR hS (lv_sub hl [0, 1, 2, 3, 4, 5, 6] rfl) h
      · have h := ie c h
        refine lv_aload hx hb dX4_renewFindings_46 (lv_at hl 4 rfl) ?_
        refine lv_iload hx hb dX4_renewFindings_48 (lv_at hl 6 rfl) ?_
        refine lv_iload hx hb dX4_renewFindings_50 (lv_at hl 5 rfl) ?_
        refine lv_aload_n hx hb dX4_renewFindings_52 rfl (lv_at hl 0 rfl) ?_
        obtain ⟨r3, e, h⟩ := bd h
        refine fx_gR hx hb hts hown hK hR fl_X4_15 e dX4_renewFindings_53 ?_
        refine lv_iload hx hb dX4_renewFindings_56 (lv_at hl 5 rfl) ?_
        obtain ⟨v4, e, h⟩ := bd h
        refine fx_lI hx hb hK hR e dX4_renewFindings_58 ?_
        refine lv_iload_n hx hb dX4_renewFindings_59 rfl (lv_at hl 2 rfl) ?_
        obtain ⟨_, eO, h⟩ := bd h
        obtain ⟨w5, e, h⟩ := bd h
        refine fx_vV (As := [.int x6, .int x5, .int v4, .int x2]) (rest := []) hx hb hml hts hown hK hR hS eO (mX2_add l D dA A e) my_X2_add mv_X2_add rfl ml_X4_65 rfl hl.1 rfl (Nat.le_of_ble_eq_true rfl) dX4_renewFindings_60 ⟨Nat.le_of_ble_eq_true rfl, Nat.le_of_ble_eq_true rfl⟩ ⟨Nat.le_refl _, Nat.le_refl _⟩ (fun H locs hR hS => ?_)
        refine lv_aload hx hb dX4_renewFindings_63 (lv_at hl 4 rfl) ?_
        refine lv_aload_n hx hb dX4_renewFindings_65 rfl (lv_at hl 0 rfl) ?_
        obtain ⟨r6, e, h⟩ := bd h
        refine fx_gR hx hb hts hown hK hR fl_X4_21 e dX4_renewFindings_66 ?_
        obtain ⟨_, eO, h⟩ := bd h
        obtain ⟨w7, e, h⟩ := bd h
        refine fx_vV (As := [.ref r6]) (rest := []) hx hb hml hts hown hK hR hS eO (mX2_takeOver l D dA A e) my_X2_takeOver mv_X2_takeOver rfl ml_X4_69 rfl hl.1 rfl (Nat.le_of_ble_eq_true rfl) dX4_renewFindings_69 ⟨Nat.le_of_ble_eq_true rfl, Nat.le_of_ble_eq_true rfl⟩ ⟨Nat.le_refl _, Nat.le_refl _⟩ (fun H locs hR hS => ?_)
        exact qX4_renewFindings_b72 C (K14 := K14) (K26 := fX4_renewFindings_L26 K14 n) (hK14 := @hK14) (hK26 := @ih) hR hS (lv_sub hl [0, 1, 2, 3, 4, 5, 6] rfl) h
def fX4_renewFindings_L14  : Nat → Fw → Nat → Nat → Int32 → Nat → Nat → Int32 → Option (Fw)
  | 0, _, _, _, _, _, _, _ => none
  | n + 1, w, a0, a1, x2, a3, a4, x5 => ((gI w a0 4 0).bind fun v8 => (if v8 ≤ x5 then ((gR w a0 4 3).bind fun r9 => ((isO w r9 2).bind fun _ => ((fX2_logEnded w r9 a4 x2 a3).bind fun w10 => ((gR w10 a0 4 3).bind fun r11 => ((pF w10 a0 4 4 (.ref r11)).bind fun w12 => ((pF w12 a0 4 3 (.ref a4)).bind fun w13 => some w13)))))) else (fX4_renewFindings_L26 (fX4_renewFindings_L14  n) 1000 w a0 a1 x2 a3 a4 x5 0)))
set_option maxRecDepth 100000 in
set_option maxHeartbeats 4000000 in
theorem qX4_renewFindings_L14 {p : Program} {l : Launch} {e : Env} {s : State} {m : MethodId} {args : Array Value} {below : List Frame} {meth : Method} {c : Code} {D : va_G} {dA : Nat → ClassId} {A : Nat → Prop} (C : Cx p s m args meth c D dA RX4 cX4_renewFindings 7 none) {res : Fw}   : ∀ (n : Nat) {w : Fw} {H : Heap} {locs : List Loc} {ls : Array Slot} {a0 : Nat} {a1 : Nat} {x2 : Int32} {a3 : Nat} {a4 : Nat} {x5 : Int32}, Rp D dA A w H → va_S A s.heap H locs → lv_has ls 7 [(0, .ref a0), (1, .ref a1), (2, .int x2), (3, .ref a3), (4, .ref a4), (5, .int x5)] → fX4_renewFindings_L14 n w a0 a1 x2 a3 a4 x5 = some res → W p l e (rz 3 69) s m args below meth c H locs 0 0 (MQ below (QzV D dA A res) args s 0 0 A) (F0 m 14 ls []) := by
  obtain ⟨hx, hb, hr, hml, hown, hts, hK, hlocks⟩ := id C
  intro n
  induction n with
  | zero =>
    intro w H locs ls a0 a1 x2 a3 a4 x5 hR hS hl h
    rw [fX4_renewFindings_L14.eq_1] at h
    cases h
  | succ n ih =>
    intro w H locs ls a0 a1 x2 a3 a4 x5 hR hS hl h
    rw [fX4_renewFindings_L14.eq_2] at h
    refine lv_iload hx hb dX4_renewFindings_14 (lv_at hl 5 rfl) ?_
    refine lv_aload_n hx hb dX4_renewFindings_16 rfl (lv_at hl 0 rfl) ?_
    obtain ⟨v8, e, h⟩ := bd h
    refine fx_gI hx hb hts hown hK hR fl_X4_28 e dX4_renewFindings_17 ?_
    refine lv_icmp_ge (tgt := 84) hx hb dX4_renewFindings_20 (by decide) (fun c => ?_) (fun c => ?_)
    · have h := it c h
      refine lv_aload_n hx hb dX4_renewFindings_84 rfl (lv_at hl 0 rfl) ?_
      obtain ⟨r9, e, h⟩ := bd h
      refine fx_gR hx hb hts hown hK hR fl_X4_21 e dX4_renewFindings_85 ?_
      refine lv_aload hx hb dX4_renewFindings_88 (lv_at hl 4 rfl) ?_
      refine lv_iload_n hx hb dX4_renewFindings_90 rfl (lv_at hl 2 rfl) ?_
      refine lv_aload_n hx hb dX4_renewFindings_91 rfl (lv_at hl 3 rfl) ?_
      obtain ⟨_, eO, h⟩ := bd h
      obtain ⟨w10, e, h⟩ := bd h
      refine fx_vV (As := [.ref a4, .int x2, .ref a3]) (rest := []) hx hb hml hts hown hK hR hS eO (mX2_logEnded l D dA A e) my_X2_logEnded mv_X2_logEnded rfl ml_X4_73 rfl hl.1 rfl (Nat.le_of_ble_eq_true rfl) dX4_renewFindings_92 ⟨Nat.le_of_ble_eq_true rfl, Nat.le_of_ble_eq_true rfl⟩ ⟨Nat.le_refl _, Nat.le_refl _⟩ (fun H locs hR hS => ?_)
      refine lv_aload_n hx hb dX4_renewFindings_95 rfl (lv_at hl 0 rfl) ?_
      refine lv_aload_n hx hb dX4_renewFindings_96 rfl (lv_at hl 0 rfl) ?_
      obtain ⟨r11, e, h⟩ := bd h
      refine fx_gR hx hb hts hown hK hR fl_X4_21 e dX4_renewFindings_97 ?_
      obtain ⟨w12, e, h⟩ := bd h
      refine fx_p hx hb hts hown hK hR hS fp_X4_25 e rfl rfl dX4_renewFindings_100 (fun H locs hR hS => ?_)
      refine lv_aload_n hx hb dX4_renewFindings_103 rfl (lv_at hl 0 rfl) ?_
      refine lv_aload hx hb dX4_renewFindings_104 (lv_at hl 4 rfl) ?_
      obtain ⟨w13, e, h⟩ := bd h
      refine fx_p hx hb hts hown hK hR hS fp_X4_21 e rfl rfl dX4_renewFindings_106 (fun H locs hR hS => ?_)
      exact fx_vret hx hb hr hlocks (Option.some.inj h) hR hS dX4_renewFindings_109
    · have h := ie c h
      refine lv_iconst (v := 0) hx hb dX4_renewFindings_23 (by decide) ?_
      refine lv_istore (lv' := [(6, .int 0), (0, .ref a0), (1, .ref a1), (2, .int x2), (3, .ref a3), (4, .ref a4), (5, .int x5)]) hx hb dX4_renewFindings_24 hl (by decide) rfl (fun ls hl => ?_)
      exact qX4_renewFindings_L26 C (K14 := fX4_renewFindings_L14  n) (hK14 := @ih) 1000 hR hS (lv_sub hl [1, 2, 3, 4, 5, 6, 0] rfl) h
def fX4_renewFindings (w : Fw) (a0 : Nat) (a1 : Nat) (x2 : Int32) (a3 : Nat) : Option (Fw) := ((gR w a0 4 4).bind fun r14 => ((isO w r14 2).bind fun _ => ((fX2_clear w r14).bind fun w15 => (fX4_renewFindings_L14 1000 w15 a0 a1 x2 a3 r14 0))))
set_option maxRecDepth 100000 in
set_option maxHeartbeats 4000000 in
theorem mX4_renewFindings (l : Launch) (D : va_G) (dA : Nat → ClassId) (A : Nat → Prop) {w : Fw} {a0 : Nat} {a1 : Nat} {x2 : Int32} {a3 : Nat} {res : Fw} (h : fX4_renewFindings w a0 a1 x2 a3 = some res) : Met l yX4_renewFindings (wz yX4_renewFindings cX4_renewFindings 7 none) (rz 3 69) (Pz D dA A w [.ref a0, .ref a1, .int x2, .ref a3]) (QzV D dA A res) 0 0 A := by
  refine Met.ofW (cc := cX4_renewFindings) (maxL := 7) (ret := none) (by decide) rfl ?_
  intro p e s m args below meth c s₁ B hml hv
  obtain ⟨rfl, hR, hK⟩ := hv
  have hx := B.exec
  have hb := B.bytes
  have hr := B.returns
  have hts : ∀ w ∈ lw_g, w.before [.ref a0, .ref a1, .int x2, .ref a3].toArray s = true := fun w hw => atoms_spec (ws := wz yX4_renewFindings cX4_renewFindings 7 none) B.pre w (List.mem_cons_of_mem _ hw)
  have hown : s.vm.findClass RX4 = some m.cls := findClass_of_methodNamed B.named
  have hlocks := B.notSynchronized
  have C : Cx p s m [.ref a0, .ref a1, .int x2, .ref a3].toArray meth c D dA RX4 cX4_renewFindings 7 none := ⟨hx, hb, hr, hml, hown, hts, hK, hlocks⟩
  have hS : va_S A s.heap s.heap [] := va_S.rf
  have hl := lv_entry ([.ref a0, .ref a1, .int x2, .ref a3]) (n := 7) (Nat.le_of_ble_eq_true rfl)
  rw [lg_entry_eq]
  generalize (lg_sl ([.ref a0, .ref a1, .int x2, .ref a3]) ++ List.replicate (7 - (lg_sl ([.ref a0, .ref a1, .int x2, .ref a3])).length) Slot.unset).toArray = ls at hl ⊢
  have hl : lv_has ls 7 [(0, .ref a0), (1, .ref a1), (2, .int x2), (3, .ref a3)] := hl
  unfold fX4_renewFindings at h
  show W p l e (rz 3 69) s m _ below meth c s.heap [] 0 0 _ _
  refine lv_aload_n hx hb dX4_renewFindings_0 rfl (lv_at hl 0 rfl) ?_
  obtain ⟨r14, e, h⟩ := bd h
  refine fx_gR hx hb hts hown hK hR fl_X4_25 e dX4_renewFindings_1 ?_
  refine lv_astore (lv' := [(4, .ref r14), (0, .ref a0), (1, .ref a1), (2, .int x2), (3, .ref a3)]) hx hb dX4_renewFindings_4 hl (by decide) rfl (fun ls hl => ?_)
  refine lv_aload hx hb dX4_renewFindings_6 (lv_at hl 0 rfl) ?_
  obtain ⟨_, eO, h⟩ := bd h
  obtain ⟨w15, e, h⟩ := bd h
  refine fx_vV (As := []) (rest := []) hx hb hml hts hown hK hR hS eO (mX2_clear l D dA A e) my_X2_clear mv_X2_clear rfl ml_X4_53 rfl hl.1 rfl (Nat.le_of_ble_eq_true rfl) dX4_renewFindings_8 ⟨Nat.le_of_ble_eq_true rfl, Nat.le_of_ble_eq_true rfl⟩ ⟨Nat.le_refl _, Nat.le_refl _⟩ (fun H locs hR hS => ?_)
  refine lv_iconst (v := 0) hx hb dX4_renewFindings_11 (by decide) ?_
  refine lv_istore (lv' := [(5, .int 0), (4, .ref r14), (0, .ref a0), (1, .ref a1), (2, .int x2), (3, .ref a3)]) hx hb dX4_renewFindings_12 hl (by decide) rfl (fun ls hl => ?_)
  exact qX4_renewFindings_L14 C   1000 hR hS (lv_sub hl [2, 3, 4, 5, 1, 0] rfl) h
def fX5_append_b48  (w : Fw)  : Option (Fw) := some w
set_option maxRecDepth 100000 in
set_option maxHeartbeats 4000000 in
theorem qX5_append_b48 {p : Program} {l : Launch} {e : Env} {s : State} {m : MethodId} {args : Array Value} {below : List Frame} {meth : Method} {c : Code} {D : va_G} {dA : Nat → ClassId} {A : Nat → Prop} (C : Cx p s m args meth c D dA RX5 cX5_append 3 none) {w : Fw} {res : Fw}   {H : Heap} {locs : List Loc} {ls : Array Slot}  (hR : Rp D dA A w H) (hS : va_S A s.heap H locs) (hl : lv_has ls 3 []) (h : fX5_append_b48 w = some res) : W p l e (rz 0 0) s m args below meth c H locs 0 0 (MQ below (QzV D dA A res) args s 0 0 A) (F0 m 48 ls []) := by
  obtain ⟨hx, hb, hr, hml, hown, hts, hK, hlocks⟩ := id C
  unfold fX5_append_b48 at h
  exact fx_vret hx hb hr hlocks (Option.some.inj h) hR hS dX5_append_48
def fX5_append_L3  : Nat → Fw → Nat → Int32 → Int32 → Option (Fw)
  | 0, _, _, _, _ => none
  | n + 1, w, a0, x1, x2 => if x2 < 0 then (fX5_append_b48 w) else ((gI w a0 5 0).bind fun v1 => (if 40 ≤ v1 then (fX5_append_b48 w) else ((gR w a0 5 1).bind fun r2 => ((gI w a0 5 0).bind fun v3 => ((sI w r2 v3 (((Int32.toUInt32 x1 >>> (Int32.toUInt32 x2 &&& Int32.toUInt32 31)).toInt32) &&& 255)).bind fun w4 => ((gI w4 a0 5 0).bind fun v5 => ((pF w4 a0 5 0 (.int (v5 + 1))).bind fun w6 => (fX5_append_L3  n w6 a0 x1 (x2 + (-8))))))))))
set_option maxRecDepth 100000 in
set_option maxHeartbeats 4000000 in
theorem qX5_append_L3 {p : Program} {l : Launch} {e : Env} {s : State} {m : MethodId} {args : Array Value} {below : List Frame} {meth : Method} {c : Code} {D : va_G} {dA : Nat → ClassId} {A : Nat → Prop} (C : Cx p s m args meth c D dA RX5 cX5_append 3 none) {res : Fw}   : ∀ (n : Nat) {w : Fw} {H : Heap} {locs : List Loc} {ls : Array Slot} {a0 : Nat} {x1 : Int32} {x2 : Int32}, Rp D dA A w H → va_S A s.heap H locs → lv_has ls 3 [(0, .ref a0), (1, .int x1), (2, .int x2)] → fX5_append_L3 n w a0 x1 x2 = some res → W p l e (rz 0 0) s m args below meth c H locs 0 0 (MQ below (QzV D dA A res) args s 0 0 A) (F0 m 3 ls []) := by
  obtain ⟨hx, hb, hr, hml, hown, hts, hK, hlocks⟩ := id C
  intro n
  induction n with
  | zero =>
    intro w H locs ls a0 x1 x2 hR hS hl h
    rw [fX5_append_L3.eq_1] at h
    cases h
  | succ n ih =>
    intro w H locs ls a0 x1 x2 hR hS hl h
    rw [fX5_append_L3.eq_2] at h
    refine lv_iload_n hx hb dX5_append_3 rfl (lv_at hl 2 rfl) ?_
    refine lv_if_lt (tgt := 48) hx hb dX5_append_4 (by decide) (fun c => ?_) (fun c => ?_)
    · have h := it c h
      exact qX5_append_b48 C   hR hS (lv_sub hl [] rfl) h
    · have h := ie c h
      refine lv_aload_n hx hb dX5_append_7 rfl (lv_at hl 0 rfl) ?_
      obtain ⟨v1, e, h⟩ := bd h
      refine fx_gI hx hb hts hown hK hR fl_X5_15 e dX5_append_8 ?_
      refine lv_bipush (v := 40) hx hb dX5_append_11 (by decide) ?_
      refine lv_icmp_ge (tgt := 48) hx hb dX5_append_13 (by decide) (fun c => ?_) (fun c => ?_)
      · have h := it c h
        exact qX5_append_b48 C   hR hS (lv_sub hl [] rfl) h
      · have h := ie c h
        refine lv_aload_n hx hb dX5_append_16 rfl (lv_at hl 0 rfl) ?_
        obtain ⟨r2, e, h⟩ := bd h
        refine fx_gR hx hb hts hown hK hR fl_X5_9 e dX5_append_17 ?_
        refine lv_aload_n hx hb dX5_append_20 rfl (lv_at hl 0 rfl) ?_
        obtain ⟨v3, e, h⟩ := bd h
        refine fx_gI hx hb hts hown hK hR fl_X5_15 e dX5_append_21 ?_
        refine lv_iload_n hx hb dX5_append_24 rfl (lv_at hl 1 rfl) ?_
        refine lv_iload_n hx hb dX5_append_25 rfl (lv_at hl 2 rfl) ?_
        refine lv_iushr (v := (Int32.toUInt32 x1 >>> (Int32.toUInt32 x2 &&& Int32.toUInt32 31)).toInt32) hx hb dX5_append_26 rfl ?_
        refine lv_sipush (v := 255) hx hb dX5_append_27 (by decide) ?_
        refine lv_iand hx hb dX5_append_30 ?_
        obtain ⟨w4, e, h⟩ := bd h
        refine fx_sI hx hb hK hR hS e dX5_append_31 (fun H locs hR hS => ?_)
        refine lv_aload_n hx hb dX5_append_32 rfl (lv_at hl 0 rfl) ?_
        refine lv_dup hx hb dX5_append_33 rfl ?_
        obtain ⟨v5, e, h⟩ := bd h
        refine fx_gI hx hb hts hown hK hR fl_X5_15 e dX5_append_34 ?_
        refine lv_iconst (v := 1) hx hb dX5_append_37 (by decide) ?_
        refine lv_iadd hx hb dX5_append_38 ?_
        obtain ⟨w6, e, h⟩ := bd h
        refine fx_p hx hb hts hown hK hR hS fp_X5_15 e rfl rfl dX5_append_39 (fun H locs hR hS => ?_)
        refine lv_iinc (v := (x2 + (-8))) (lv' := [(2, .int (x2 + (-8))), (0, .ref a0), (1, .int x1)]) hx hb dX5_append_42 hl (k := 2) rfl rfl (by decide) rfl (fun ls hl => ?_)
        refine lv_goto (tgt := 3) hx hb dX5_append_45 (by decide) ?_
        exact ih hR hS (lv_sub hl [1, 2, 0] rfl) h
def fX5_append (w : Fw) (a0 : Nat) (x1 : Int32) : Option (Fw) := (fX5_append_L3 1000 w a0 x1 24)
set_option maxRecDepth 100000 in
set_option maxHeartbeats 4000000 in
theorem mX5_append (l : Launch) (D : va_G) (dA : Nat → ClassId) (A : Nat → Prop) {w : Fw} {a0 : Nat} {x1 : Int32} {res : Fw} (h : fX5_append w a0 x1 = some res) : Met l yX5_append (wz yX5_append cX5_append 3 none) (rz 0 0) (Pz D dA A w [.ref a0, .int x1]) (QzV D dA A res) 0 0 A := by
  refine Met.ofW (cc := cX5_append) (maxL := 3) (ret := none) (by decide) rfl ?_
  intro p e s m args below meth c s₁ B hml hv
  obtain ⟨rfl, hR, hK⟩ := hv
  have hx := B.exec
  have hb := B.bytes
  have hr := B.returns
  have hts : ∀ w ∈ lw_g, w.before [.ref a0, .int x1].toArray s = true := fun w hw => atoms_spec (ws := wz yX5_append cX5_append 3 none) B.pre w (List.mem_cons_of_mem _ hw)
  have hown : s.vm.findClass RX5 = some m.cls := findClass_of_methodNamed B.named
  have hlocks := B.notSynchronized
  have C : Cx p s m [.ref a0, .int x1].toArray meth c D dA RX5 cX5_append 3 none := ⟨hx, hb, hr, hml, hown, hts, hK, hlocks⟩
  have hS : va_S A s.heap s.heap [] := va_S.rf
  have hl := lv_entry ([.ref a0, .int x1]) (n := 3) (Nat.le_of_ble_eq_true rfl)
  rw [lg_entry_eq]
  generalize (lg_sl ([.ref a0, .int x1]) ++ List.replicate (3 - (lg_sl ([.ref a0, .int x1])).length) Slot.unset).toArray = ls at hl ⊢
  have hl : lv_has ls 3 [(0, .ref a0), (1, .int x1)] := hl
  unfold fX5_append at h
  show W p l e (rz 0 0) s m _ below meth c s.heap [] 0 0 _ _
  refine lv_bipush (v := 24) hx hb dX5_append_0 (by decide) ?_
  refine lv_istore_n (lv' := [(2, .int 24), (0, .ref a0), (1, .int x1)]) hx hb dX5_append_2 rfl hl (by decide) rfl (fun ls hl => ?_)
  exact qX5_append_L3 C   1000 hR hS (lv_sub hl [1, 2, 0] rfl) h
def fX5_shorten (w : Fw) (a0 : Nat) (x1 : Int32) : Option (Fw) := ((pF w a0 5 0 (.int x1)).bind fun w1 => some w1)
set_option maxRecDepth 100000 in
set_option maxHeartbeats 4000000 in
theorem mX5_shorten (l : Launch) (D : va_G) (dA : Nat → ClassId) (A : Nat → Prop) {w : Fw} {a0 : Nat} {x1 : Int32} {res : Fw} (h : fX5_shorten w a0 x1 = some res) : Met l yX5_shorten (wz yX5_shorten cX5_shorten 2 none) (rz 0 0) (Pz D dA A w [.ref a0, .int x1]) (QzV D dA A res) 0 0 A := by
  refine Met.ofW (cc := cX5_shorten) (maxL := 2) (ret := none) (by decide) rfl ?_
  intro p e s m args below meth c s₁ B hml hv
  obtain ⟨rfl, hR, hK⟩ := hv
  have hx := B.exec
  have hb := B.bytes
  have hr := B.returns
  have hts : ∀ w ∈ lw_g, w.before [.ref a0, .int x1].toArray s = true := fun w hw => atoms_spec (ws := wz yX5_shorten cX5_shorten 2 none) B.pre w (List.mem_cons_of_mem _ hw)
  have hown : s.vm.findClass RX5 = some m.cls := findClass_of_methodNamed B.named
  have hlocks := B.notSynchronized
  have C : Cx p s m [.ref a0, .int x1].toArray meth c D dA RX5 cX5_shorten 2 none := ⟨hx, hb, hr, hml, hown, hts, hK, hlocks⟩
  have hS : va_S A s.heap s.heap [] := va_S.rf
  have hl := lv_entry ([.ref a0, .int x1]) (n := 2) (Nat.le_of_ble_eq_true rfl)
  rw [lg_entry_eq]
  generalize (lg_sl ([.ref a0, .int x1]) ++ List.replicate (2 - (lg_sl ([.ref a0, .int x1])).length) Slot.unset).toArray = ls at hl ⊢
  have hl : lv_has ls 2 [(0, .ref a0), (1, .int x1)] := hl
  unfold fX5_shorten at h
  show W p l e (rz 0 0) s m _ below meth c s.heap [] 0 0 _ _
  refine lv_aload_n hx hb dX5_shorten_0 rfl (lv_at hl 0 rfl) ?_
  refine lv_iload_n hx hb dX5_shorten_1 rfl (lv_at hl 1 rfl) ?_
  obtain ⟨w1, e, h⟩ := bd h
  refine fx_p hx hb hts hown hK hR hS fp_X5_15 e rfl rfl dX5_shorten_2 (fun H locs hR hS => ?_)
  exact fx_vret hx hb hr hlocks (Option.some.inj h) hR hS dX5_shorten_5
def fX6_isFile_b15 (w : Fw)  (s0 : Int32) : Option (Int32) := zb s0
set_option maxRecDepth 100000 in
set_option maxHeartbeats 4000000 in
theorem qX6_isFile_b15 {p : Program} {l : Launch} {e : Env} {s : State} {m : MethodId} {args : Array Value} {below : List Frame} {meth : Method} {c : Code} {D : va_G} {dA : Nat → ClassId} {A : Nat → Prop} (C : Cx p s m args meth c D dA RX6 cX6_isFile 1 (some .boolean)) {w : Fw} {res : Int32}   {H : Heap} {locs : List Loc} {ls : Array Slot} {s0 : Int32} (hR : Rp D dA A w H) (hS : va_S A s.heap H locs) (hl : lv_has ls 1 []) (h : fX6_isFile_b15 w s0 = some res) : W p l e (rz 0 0) s m args below meth c H locs 0 0 (MQ below (QzI D dA A res w) args s 0 0 A) (F0 m 15 ls [.int s0]) := by
  obtain ⟨hx, hb, hr, hml, hown, hts, hK, hlocks⟩ := id C
  unfold fX6_isFile_b15 at h
  exact fx_zret hx hb hr hlocks h rfl hR hS dX6_isFile_15
def fX6_isFile_b14 (w : Fw)   : Option (Int32) := (fX6_isFile_b15 w 0)
set_option maxRecDepth 100000 in
set_option maxHeartbeats 4000000 in
theorem qX6_isFile_b14 {p : Program} {l : Launch} {e : Env} {s : State} {m : MethodId} {args : Array Value} {below : List Frame} {meth : Method} {c : Code} {D : va_G} {dA : Nat → ClassId} {A : Nat → Prop} (C : Cx p s m args meth c D dA RX6 cX6_isFile 1 (some .boolean)) {w : Fw} {res : Int32}   {H : Heap} {locs : List Loc} {ls : Array Slot}  (hR : Rp D dA A w H) (hS : va_S A s.heap H locs) (hl : lv_has ls 1 []) (h : fX6_isFile_b14 w = some res) : W p l e (rz 0 0) s m args below meth c H locs 0 0 (MQ below (QzI D dA A res w) args s 0 0 A) (F0 m 14 ls []) := by
  obtain ⟨hx, hb, hr, hml, hown, hts, hK, hlocks⟩ := id C
  unfold fX6_isFile_b14 at h
  refine lv_iconst (v := 0) hx hb dX6_isFile_14 (by decide) ?_
  exact qX6_isFile_b15 C   hR hS (lv_sub hl [] rfl) h
def fX6_isFile (w : Fw) (x0 : Int32) : Option (Int32) := if x0 < 0 then (fX6_isFile_b14 w) else if 6 ≤ x0 then (fX6_isFile_b14 w) else (fX6_isFile_b15 w 1)
set_option maxRecDepth 100000 in
set_option maxHeartbeats 4000000 in
theorem mX6_isFile (l : Launch) (D : va_G) (dA : Nat → ClassId) (A : Nat → Prop) {w : Fw} {x0 : Int32} {res : Int32} (h : fX6_isFile w x0 = some res) : Met l yX6_isFile (wz yX6_isFile cX6_isFile 1 (some .boolean)) (rz 0 0) (Pz D dA A w [.int x0]) (QzI D dA A res w) 0 0 A := by
  refine Met.ofW (cc := cX6_isFile) (maxL := 1) (ret := (some .boolean)) (by decide) rfl ?_
  intro p e s m args below meth c s₁ B hml hv
  obtain ⟨rfl, hR, hK⟩ := hv
  have hx := B.exec
  have hb := B.bytes
  have hr := B.returns
  have hts : ∀ w ∈ lw_g, w.before [.int x0].toArray s = true := fun w hw => atoms_spec (ws := wz yX6_isFile cX6_isFile 1 (some .boolean)) B.pre w (List.mem_cons_of_mem _ hw)
  have hown : s.vm.findClass RX6 = some m.cls := findClass_of_methodNamed B.named
  have hlocks := B.notSynchronized
  have C : Cx p s m [.int x0].toArray meth c D dA RX6 cX6_isFile 1 (some .boolean) := ⟨hx, hb, hr, hml, hown, hts, hK, hlocks⟩
  have hS : va_S A s.heap s.heap [] := va_S.rf
  have hl := lv_entry ([.int x0]) (n := 1) (Nat.le_of_ble_eq_true rfl)
  rw [lg_entry_eq]
  generalize (lg_sl ([.int x0]) ++ List.replicate (1 - (lg_sl ([.int x0])).length) Slot.unset).toArray = ls at hl ⊢
  have hl : lv_has ls 1 [(0, .int x0)] := hl
  unfold fX6_isFile at h
  show W p l e (rz 0 0) s m _ below meth c s.heap [] 0 0 _ _
  refine lv_iload_n hx hb dX6_isFile_0 rfl (lv_at hl 0 rfl) ?_
  refine lv_if_lt (tgt := 14) hx hb dX6_isFile_1 (by decide) (fun c => ?_) (fun c => ?_)
  · have h := it c h
    exact qX6_isFile_b14 C   hR hS (lv_sub hl [] rfl) h
  · have h := ie c h
    refine lv_iload_n hx hb dX6_isFile_4 rfl (lv_at hl 0 rfl) ?_
    refine lv_bipush (v := 6) hx hb dX6_isFile_5 (by decide) ?_
    refine lv_icmp_ge (tgt := 14) hx hb dX6_isFile_7 (by decide) (fun c => ?_) (fun c => ?_)
    · have h := it c h
      exact qX6_isFile_b14 C   hR hS (lv_sub hl [] rfl) h
    · have h := ie c h
      refine lv_iconst (v := 1) hx hb dX6_isFile_10 (by decide) ?_
      refine lv_goto (tgt := 15) hx hb dX6_isFile_11 (by decide) ?_
      exact qX6_isFile_b15 C   hR hS (lv_sub hl [] rfl) h
def fX6_isByte_b16 (w : Fw)  (s0 : Int32) : Option (Int32) := zb s0
set_option maxRecDepth 100000 in
set_option maxHeartbeats 4000000 in
theorem qX6_isByte_b16 {p : Program} {l : Launch} {e : Env} {s : State} {m : MethodId} {args : Array Value} {below : List Frame} {meth : Method} {c : Code} {D : va_G} {dA : Nat → ClassId} {A : Nat → Prop} (C : Cx p s m args meth c D dA RX6 cX6_isByte 1 (some .boolean)) {w : Fw} {res : Int32}   {H : Heap} {locs : List Loc} {ls : Array Slot} {s0 : Int32} (hR : Rp D dA A w H) (hS : va_S A s.heap H locs) (hl : lv_has ls 1 []) (h : fX6_isByte_b16 w s0 = some res) : W p l e (rz 0 0) s m args below meth c H locs 0 0 (MQ below (QzI D dA A res w) args s 0 0 A) (F0 m 16 ls [.int s0]) := by
  obtain ⟨hx, hb, hr, hml, hown, hts, hK, hlocks⟩ := id C
  unfold fX6_isByte_b16 at h
  exact fx_zret hx hb hr hlocks h rfl hR hS dX6_isByte_16
def fX6_isByte_b15 (w : Fw)   : Option (Int32) := (fX6_isByte_b16 w 0)
set_option maxRecDepth 100000 in
set_option maxHeartbeats 4000000 in
theorem qX6_isByte_b15 {p : Program} {l : Launch} {e : Env} {s : State} {m : MethodId} {args : Array Value} {below : List Frame} {meth : Method} {c : Code} {D : va_G} {dA : Nat → ClassId} {A : Nat → Prop} (C : Cx p s m args meth c D dA RX6 cX6_isByte 1 (some .boolean)) {w : Fw} {res : Int32}   {H : Heap} {locs : List Loc} {ls : Array Slot}  (hR : Rp D dA A w H) (hS : va_S A s.heap H locs) (hl : lv_has ls 1 []) (h : fX6_isByte_b15 w = some res) : W p l e (rz 0 0) s m args below meth c H locs 0 0 (MQ below (QzI D dA A res w) args s 0 0 A) (F0 m 15 ls []) := by
  obtain ⟨hx, hb, hr, hml, hown, hts, hK, hlocks⟩ := id C
  unfold fX6_isByte_b15 at h
  refine lv_iconst (v := 0) hx hb dX6_isByte_15 (by decide) ?_
  exact qX6_isByte_b16 C   hR hS (lv_sub hl [] rfl) h
def fX6_isByte (w : Fw) (x0 : Int32) : Option (Int32) := if x0 < 0 then (fX6_isByte_b15 w) else if 255 < x0 then (fX6_isByte_b15 w) else (fX6_isByte_b16 w 1)
set_option maxRecDepth 100000 in
set_option maxHeartbeats 4000000 in
theorem mX6_isByte (l : Launch) (D : va_G) (dA : Nat → ClassId) (A : Nat → Prop) {w : Fw} {x0 : Int32} {res : Int32} (h : fX6_isByte w x0 = some res) : Met l yX6_isByte (wz yX6_isByte cX6_isByte 1 (some .boolean)) (rz 0 0) (Pz D dA A w [.int x0]) (QzI D dA A res w) 0 0 A := by
  refine Met.ofW (cc := cX6_isByte) (maxL := 1) (ret := (some .boolean)) (by decide) rfl ?_
  intro p e s m args below meth c s₁ B hml hv
  obtain ⟨rfl, hR, hK⟩ := hv
  have hx := B.exec
  have hb := B.bytes
  have hr := B.returns
  have hts : ∀ w ∈ lw_g, w.before [.int x0].toArray s = true := fun w hw => atoms_spec (ws := wz yX6_isByte cX6_isByte 1 (some .boolean)) B.pre w (List.mem_cons_of_mem _ hw)
  have hown : s.vm.findClass RX6 = some m.cls := findClass_of_methodNamed B.named
  have hlocks := B.notSynchronized
  have C : Cx p s m [.int x0].toArray meth c D dA RX6 cX6_isByte 1 (some .boolean) := ⟨hx, hb, hr, hml, hown, hts, hK, hlocks⟩
  have hS : va_S A s.heap s.heap [] := va_S.rf
  have hl := lv_entry ([.int x0]) (n := 1) (Nat.le_of_ble_eq_true rfl)
  rw [lg_entry_eq]
  generalize (lg_sl ([.int x0]) ++ List.replicate (1 - (lg_sl ([.int x0])).length) Slot.unset).toArray = ls at hl ⊢
  have hl : lv_has ls 1 [(0, .int x0)] := hl
  unfold fX6_isByte at h
  show W p l e (rz 0 0) s m _ below meth c s.heap [] 0 0 _ _
  refine lv_iload_n hx hb dX6_isByte_0 rfl (lv_at hl 0 rfl) ?_
  refine lv_if_lt (tgt := 15) hx hb dX6_isByte_1 (by decide) (fun c => ?_) (fun c => ?_)
  · have h := it c h
    exact qX6_isByte_b15 C   hR hS (lv_sub hl [] rfl) h
  · have h := ie c h
    refine lv_iload_n hx hb dX6_isByte_4 rfl (lv_at hl 0 rfl) ?_
    refine lv_sipush (v := 255) hx hb dX6_isByte_5 (by decide) ?_
    refine lv_icmp_gt (tgt := 15) hx hb dX6_isByte_8 (by decide) (fun c => ?_) (fun c => ?_)
    · have h := it c h
      exact qX6_isByte_b15 C   hR hS (lv_sub hl [] rfl) h
    · have h := ie c h
      refine lv_iconst (v := 1) hx hb dX6_isByte_11 (by decide) ?_
      refine lv_goto (tgt := 16) hx hb dX6_isByte_12 (by decide) ?_
      exact qX6_isByte_b16 C   hR hS (lv_sub hl [] rfl) h
def fX6_importersOf_b32 (w : Fw) (K4 : Nat → Int32 → Int32 → Int32 → Option (Int32)) (a0 : Nat) (x1 : Int32) (x2 : Int32) (x3 : Int32) : Option (Int32) := (K4 a0 x1 x2 (x3 + 1))
set_option maxRecDepth 100000 in
set_option maxHeartbeats 4000000 in
theorem qX6_importersOf_b32 {p : Program} {l : Launch} {e : Env} {s : State} {m : MethodId} {args : Array Value} {below : List Frame} {meth : Method} {c : Code} {D : va_G} {dA : Nat → ClassId} {A : Nat → Prop} (C : Cx p s m args meth c D dA RX6 cX6_importersOf 4 (some .int)) {w : Fw} {res : Int32} {K4 : Nat → Int32 → Int32 → Int32 → Option (Int32)} (hK4 : ∀ {H : Heap} {locs : List Loc} {ls : Array Slot} {a0 : Nat} {x1 : Int32} {x2 : Int32} {x3 : Int32}, Rp D dA A w H → va_S A s.heap H locs → lv_has ls 4 [(0, .ref a0), (1, .int x1), (2, .int x2), (3, .int x3)] → K4 a0 x1 x2 x3 = some res → W p l e (rz 2 43) s m args below meth c H locs 0 0 (MQ below (QzI D dA A res w) args s 0 0 A) (F0 m 4 ls [])) {H : Heap} {locs : List Loc} {ls : Array Slot} {a0 : Nat} {x1 : Int32} {x2 : Int32} {x3 : Int32} (hR : Rp D dA A w H) (hS : va_S A s.heap H locs) (hl : lv_has ls 4 [(0, .ref a0), (1, .int x1), (2, .int x2), (3, .int x3)]) (h : fX6_importersOf_b32 w K4 a0 x1 x2 x3 = some res) : W p l e (rz 2 43) s m args below meth c H locs 0 0 (MQ below (QzI D dA A res w) args s 0 0 A) (F0 m 32 ls []) := by
  obtain ⟨hx, hb, hr, hml, hown, hts, hK, hlocks⟩ := id C
  unfold fX6_importersOf_b32 at h
  refine lv_iinc (v := (x3 + 1)) (lv' := [(3, .int (x3 + 1)), (0, .ref a0), (1, .int x1), (2, .int x2)]) hx hb dX6_importersOf_32 hl (k := 3) rfl rfl (by decide) rfl (fun ls hl => ?_)
  refine lv_goto (tgt := 4) hx hb dX6_importersOf_35 (by decide) ?_
  exact hK4 hR hS (lv_sub hl [1, 2, 3, 0] rfl) h
def fX6_importersOf_L4 (w : Fw)  : Nat → Nat → Int32 → Int32 → Int32 → Option (Int32)
  | 0, _, _, _, _ => none
  | n + 1, a0, x1, x2, x3 => if 6 ≤ x3 then some x2 else ((gR w a0 6 0).bind fun r1 => ((lR w 0 r1 x3).bind fun r2 => ((isO w r2 4).bind fun _ => ((fX4_importedFiles w r2).bind fun v3 => ((fX6_has w v3 x1).bind fun v4 => (if v4 = 0 then (fX6_importersOf_b32 w (fX6_importersOf_L4 w n) a0 x1 x2 x3) else (fX6_importersOf_b32 w (fX6_importersOf_L4 w n) a0 x1 (x2 ||| ((1 : Int32) <<< (x3 &&& 31))) x3)))))))
set_option maxRecDepth 100000 in
set_option maxHeartbeats 4000000 in
theorem qX6_importersOf_L4 {p : Program} {l : Launch} {e : Env} {s : State} {m : MethodId} {args : Array Value} {below : List Frame} {meth : Method} {c : Code} {D : va_G} {dA : Nat → ClassId} {A : Nat → Prop} (C : Cx p s m args meth c D dA RX6 cX6_importersOf 4 (some .int)) {w : Fw} {res : Int32}   : ∀ (n : Nat) {H : Heap} {locs : List Loc} {ls : Array Slot} {a0 : Nat} {x1 : Int32} {x2 : Int32} {x3 : Int32}, Rp D dA A w H → va_S A s.heap H locs → lv_has ls 4 [(0, .ref a0), (1, .int x1), (2, .int x2), (3, .int x3)] → fX6_importersOf_L4 w n a0 x1 x2 x3 = some res → W p l e (rz 2 43) s m args below meth c H locs 0 0 (MQ below (QzI D dA A res w) args s 0 0 A) (F0 m 4 ls []) := by
  obtain ⟨hx, hb, hr, hml, hown, hts, hK, hlocks⟩ := id C
  intro n
  induction n with
  | zero =>
    intro H locs ls a0 x1 x2 x3 hR hS hl h
    rw [fX6_importersOf_L4.eq_1] at h
    cases h
  | succ n ih =>
    intro H locs ls a0 x1 x2 x3 hR hS hl h
    rw [fX6_importersOf_L4.eq_2] at h
    refine lv_iload_n hx hb dX6_importersOf_4 rfl (lv_at hl 3 rfl) ?_
    refine lv_bipush (v := 6) hx hb dX6_importersOf_5 (by decide) ?_
    refine lv_icmp_ge (tgt := 38) hx hb dX6_importersOf_7 (by decide) (fun c => ?_) (fun c => ?_)
    · have h := it c h
      refine lv_iload_n hx hb dX6_importersOf_38 rfl (lv_at hl 2 rfl) ?_
      exact fx_iret hx hb hr hlocks (Option.some.inj h) rfl hR hS dX6_importersOf_39
    · have h := ie c h
      refine lv_aload_n hx hb dX6_importersOf_10 rfl (lv_at hl 0 rfl) ?_
      obtain ⟨r1, e, h⟩ := bd h
      refine fx_gR hx hb hts hown hK hR fl_X6_11 e dX6_importersOf_11 ?_
      refine lv_iload_n hx hb dX6_importersOf_14 rfl (lv_at hl 3 rfl) ?_
      obtain ⟨r2, e, h⟩ := bd h
      refine fx_lR hx hb hK hR (kd := 0) rfl rfl e dX6_importersOf_15 ?_
      obtain ⟨_, eO, h⟩ := bd h
      obtain ⟨v3, e, h⟩ := bd h
      refine fx_vI (As := []) (rest := []) hx hb hml hts hown hK hR hS eO (mX4_importedFiles l D dA A e) my_X4_importedFiles mv_X4_importedFiles rfl ml_X6_186 rfl hl.1 rfl (Nat.le_of_ble_eq_true rfl) dX6_importersOf_16 ⟨Nat.le_of_ble_eq_true rfl, Nat.le_of_ble_eq_true rfl⟩ ⟨Nat.le_refl _, Nat.le_refl _⟩ (fun H locs hR hS => ?_)
      refine lv_iload_n hx hb dX6_importersOf_19 rfl (lv_at hl 1 rfl) ?_
      obtain ⟨v4, e, h⟩ := bd h
      refine fx_sI' (As := [.int v3, .int x1]) (rest := []) hx hb hml hts hown hK hR hS (mX6_has l D dA A e) my_X6_has ms_X6_has ml_X6_189 rfl hl.1 rfl (Nat.le_of_ble_eq_true rfl) dX6_importersOf_20 ⟨Nat.le_of_ble_eq_true rfl, Nat.le_of_ble_eq_true rfl⟩ ⟨Nat.le_refl _, Nat.le_refl _⟩ (fun H locs hR hS => ?_)
      refine lv_if_eq (tgt := 32) hx hb dX6_importersOf_23 (by decide) (fun c => ?_) (fun c => ?_)
      · have h := it c h
        exact qX6_importersOf_b32 C (K4 := fX6_importersOf_L4 w n) (hK4 := @ih) hR hS (lv_sub hl [0, 1, 2, 3] rfl) h
      · have h := ie c h
        refine lv_iload_n hx hb dX6_importersOf_26 rfl (lv_at hl 2 rfl) ?_
        refine lv_iconst (v := 1) hx hb dX6_importersOf_27 (by decide) ?_
        refine lv_iload_n hx hb dX6_importersOf_28 rfl (lv_at hl 3 rfl) ?_
        refine lv_ishl hx hb dX6_importersOf_29 ?_
        refine lv_ior hx hb dX6_importersOf_30 ?_
        refine lv_istore_n (lv' := [(2, .int (x2 ||| ((1 : Int32) <<< (x3 &&& 31)))), (0, .ref a0), (1, .int x1), (3, .int x3)]) hx hb dX6_importersOf_31 rfl hl (by decide) rfl (fun ls hl => ?_)
        exact qX6_importersOf_b32 C (K4 := fX6_importersOf_L4 w n) (hK4 := @ih) hR hS (lv_sub hl [1, 2, 0, 3] rfl) h
def fX6_importersOf (w : Fw) (a0 : Nat) (x1 : Int32) : Option (Int32) := (fX6_importersOf_L4 w 1000 a0 x1 0 0)
set_option maxRecDepth 100000 in
set_option maxHeartbeats 4000000 in
theorem mX6_importersOf (l : Launch) (D : va_G) (dA : Nat → ClassId) (A : Nat → Prop) {w : Fw} {a0 : Nat} {x1 : Int32} {res : Int32} (h : fX6_importersOf w a0 x1 = some res) : Met l yX6_importersOf (wz yX6_importersOf cX6_importersOf 4 (some .int)) (rz 2 43) (Pz D dA A w [.ref a0, .int x1]) (QzI D dA A res w) 0 0 A := by
  refine Met.ofW (cc := cX6_importersOf) (maxL := 4) (ret := (some .int)) (by decide) rfl ?_
  intro p e s m args below meth c s₁ B hml hv
  obtain ⟨rfl, hR, hK⟩ := hv
  have hx := B.exec
  have hb := B.bytes
  have hr := B.returns
  have hts : ∀ w ∈ lw_g, w.before [.ref a0, .int x1].toArray s = true := fun w hw => atoms_spec (ws := wz yX6_importersOf cX6_importersOf 4 (some .int)) B.pre w (List.mem_cons_of_mem _ hw)
  have hown : s.vm.findClass RX6 = some m.cls := findClass_of_methodNamed B.named
  have hlocks := B.notSynchronized
  have C : Cx p s m [.ref a0, .int x1].toArray meth c D dA RX6 cX6_importersOf 4 (some .int) := ⟨hx, hb, hr, hml, hown, hts, hK, hlocks⟩
  have hS : va_S A s.heap s.heap [] := va_S.rf
  have hl := lv_entry ([.ref a0, .int x1]) (n := 4) (Nat.le_of_ble_eq_true rfl)
  rw [lg_entry_eq]
  generalize (lg_sl ([.ref a0, .int x1]) ++ List.replicate (4 - (lg_sl ([.ref a0, .int x1])).length) Slot.unset).toArray = ls at hl ⊢
  have hl : lv_has ls 4 [(0, .ref a0), (1, .int x1)] := hl
  unfold fX6_importersOf at h
  show W p l e (rz 2 43) s m _ below meth c s.heap [] 0 0 _ _
  refine lv_iconst (v := 0) hx hb dX6_importersOf_0 (by decide) ?_
  refine lv_istore_n (lv' := [(2, .int 0), (0, .ref a0), (1, .int x1)]) hx hb dX6_importersOf_1 rfl hl (by decide) rfl (fun ls hl => ?_)
  refine lv_iconst (v := 0) hx hb dX6_importersOf_2 (by decide) ?_
  refine lv_istore_n (lv' := [(3, .int 0), (2, .int 0), (0, .ref a0), (1, .int x1)]) hx hb dX6_importersOf_3 rfl hl (by decide) rfl (fun ls hl => ?_)
  exact qX6_importersOf_L4 C   1000 hR hS (lv_sub hl [2, 3, 1, 0] rfl) h
def fX6_work_b68 (K17 : Fw → Nat → Int32 → Int32 → Option (Fw)) (w : Fw) (a0 : Nat) (x1 : Int32) (x2 : Int32) : Option (Fw) := (K17 w a0 x1 (x2 + 1))
set_option maxRecDepth 100000 in
set_option maxHeartbeats 4000000 in
theorem qX6_work_b68 {p : Program} {l : Launch} {e : Env} {s : State} {m : MethodId} {args : Array Value} {below : List Frame} {meth : Method} {c : Code} {D : va_G} {dA : Nat → ClassId} {A : Nat → Prop} (C : Cx p s m args meth c D dA RX6 cX6_work 3 none) {w : Fw} {res : Fw} {K17 : Fw → Nat → Int32 → Int32 → Option (Fw)} (hK17 : ∀ {w : Fw} {H : Heap} {locs : List Loc} {ls : Array Slot} {a0 : Nat} {x1 : Int32} {x2 : Int32}, Rp D dA A w H → va_S A s.heap H locs → lv_has ls 3 [(0, .ref a0), (1, .int x1), (2, .int x2)] → K17 w a0 x1 x2 = some res → W p l e (rz 4 95) s m args below meth c H locs 0 0 (MQ below (QzV D dA A res) args s 0 0 A) (F0 m 17 ls [])) {H : Heap} {locs : List Loc} {ls : Array Slot} {a0 : Nat} {x1 : Int32} {x2 : Int32} (hR : Rp D dA A w H) (hS : va_S A s.heap H locs) (hl : lv_has ls 3 [(0, .ref a0), (1, .int x1), (2, .int x2)]) (h : fX6_work_b68 K17 w a0 x1 x2 = some res) : W p l e (rz 4 95) s m args below meth c H locs 0 0 (MQ below (QzV D dA A res) args s 0 0 A) (F0 m 68 ls []) := by
  obtain ⟨hx, hb, hr, hml, hown, hts, hK, hlocks⟩ := id C
  unfold fX6_work_b68 at h
  refine lv_iinc (v := (x2 + 1)) (lv' := [(2, .int (x2 + 1)), (0, .ref a0), (1, .int x1)]) hx hb dX6_work_68 hl (k := 2) rfl rfl (by decide) rfl (fun ls hl => ?_)
  refine lv_goto (tgt := 17) hx hb dX6_work_71 (by decide) ?_
  exact hK17 hR hS (lv_sub hl [1, 2, 0] rfl) h
def fX6_work_L17  : Nat → Fw → Nat → Int32 → Int32 → Option (Fw)
  | 0, _, _, _, _ => none
  | n + 1, w, a0, x1, x2 => if 6 ≤ x2 then some w else ((fX6_has w x1 x2).bind fun v1 => (if v1 = 0 then (fX6_work_b68 (fX6_work_L17  n) w a0 x1 x2) else ((gR w a0 6 3).bind fun r2 => ((gR w a0 6 0).bind fun r3 => ((gI w a0 6 8).bind fun v4 => ((isO w r2 0).bind fun _ => ((fX0_check w r2 r3 x2 v4).bind fun w5 => ((gR w5 a0 6 0).bind fun r6 => ((lR w5 0 r6 x2).bind fun r7 => ((gR w5 a0 6 3).bind fun r8 => ((gI w5 a0 6 5).bind fun v9 => ((gR w5 a0 6 4).bind fun r10 => ((isO w5 r7 4).bind fun _ => ((fX4_renewFindings w5 r7 r8 v9 r10).bind fun w11 => (fX6_work_b68 (fX6_work_L17  n) w11 a0 x1 x2)))))))))))))))
set_option maxRecDepth 100000 in
set_option maxHeartbeats 4000000 in
theorem qX6_work_L17 {p : Program} {l : Launch} {e : Env} {s : State} {m : MethodId} {args : Array Value} {below : List Frame} {meth : Method} {c : Code} {D : va_G} {dA : Nat → ClassId} {A : Nat → Prop} (C : Cx p s m args meth c D dA RX6 cX6_work 3 none) {res : Fw}   : ∀ (n : Nat) {w : Fw} {H : Heap} {locs : List Loc} {ls : Array Slot} {a0 : Nat} {x1 : Int32} {x2 : Int32}, Rp D dA A w H → va_S A s.heap H locs → lv_has ls 3 [(0, .ref a0), (1, .int x1), (2, .int x2)] → fX6_work_L17 n w a0 x1 x2 = some res → W p l e (rz 4 95) s m args below meth c H locs 0 0 (MQ below (QzV D dA A res) args s 0 0 A) (F0 m 17 ls []) := by
  obtain ⟨hx, hb, hr, hml, hown, hts, hK, hlocks⟩ := id C
  intro n
  induction n with
  | zero =>
    intro w H locs ls a0 x1 x2 hR hS hl h
    rw [fX6_work_L17.eq_1] at h
    cases h
  | succ n ih =>
    intro w H locs ls a0 x1 x2 hR hS hl h
    rw [fX6_work_L17.eq_2] at h
    refine lv_iload_n hx hb dX6_work_17 rfl (lv_at hl 2 rfl) ?_
    refine lv_bipush (v := 6) hx hb dX6_work_18 (by decide) ?_
    refine lv_icmp_ge (tgt := 74) hx hb dX6_work_20 (by decide) (fun c => ?_) (fun c => ?_)
    · have h := it c h
      exact fx_vret hx hb hr hlocks (Option.some.inj h) hR hS dX6_work_74
    · have h := ie c h
      refine lv_iload_n hx hb dX6_work_23 rfl (lv_at hl 1 rfl) ?_
      refine lv_iload_n hx hb dX6_work_24 rfl (lv_at hl 2 rfl) ?_
      obtain ⟨v1, e, h⟩ := bd h
      refine fx_sI' (As := [.int x1, .int x2]) (rest := []) hx hb hml hts hown hK hR hS (mX6_has l D dA A e) my_X6_has ms_X6_has ml_X6_189 rfl hl.1 rfl (Nat.le_of_ble_eq_true rfl) dX6_work_25 ⟨Nat.le_of_ble_eq_true rfl, Nat.le_of_ble_eq_true rfl⟩ ⟨Nat.le_refl _, Nat.le_refl _⟩ (fun H locs hR hS => ?_)
      refine lv_if_eq (tgt := 68) hx hb dX6_work_28 (by decide) (fun c => ?_) (fun c => ?_)
      · have h := it c h
        exact qX6_work_b68 C (K17 := fX6_work_L17  n) (hK17 := @ih) hR hS (lv_sub hl [0, 1, 2] rfl) h
      · have h := ie c h
        refine lv_aload_n hx hb dX6_work_31 rfl (lv_at hl 0 rfl) ?_
        obtain ⟨r2, e, h⟩ := bd h
        refine fx_gR hx hb hts hown hK hR fl_X6_33 e dX6_work_32 ?_
        refine lv_aload_n hx hb dX6_work_35 rfl (lv_at hl 0 rfl) ?_
        obtain ⟨r3, e, h⟩ := bd h
        refine fx_gR hx hb hts hown hK hR fl_X6_11 e dX6_work_36 ?_
        refine lv_iload_n hx hb dX6_work_39 rfl (lv_at hl 2 rfl) ?_
        refine lv_aload_n hx hb dX6_work_40 rfl (lv_at hl 0 rfl) ?_
        obtain ⟨v4, e, h⟩ := bd h
        refine fx_gI hx hb hts hown hK hR fl_X6_102 e dX6_work_41 ?_
        obtain ⟨_, eO, h⟩ := bd h
        obtain ⟨w5, e, h⟩ := bd h
        refine fx_vV (As := [.ref r3, .int x2, .int v4]) (rest := []) hx hb hml hts hown hK hR hS eO (mX0_check l D dA A e) my_X0_check mv_X0_check rfl ml_X6_192 rfl hl.1 rfl (Nat.le_of_ble_eq_true rfl) dX6_work_44 ⟨Nat.le_of_ble_eq_true rfl, Nat.le_of_ble_eq_true rfl⟩ ⟨Nat.le_refl _, Nat.le_refl _⟩ (fun H locs hR hS => ?_)
        refine lv_aload_n hx hb dX6_work_47 rfl (lv_at hl 0 rfl) ?_
        obtain ⟨r6, e, h⟩ := bd h
        refine fx_gR hx hb hts hown hK hR fl_X6_11 e dX6_work_48 ?_
        refine lv_iload_n hx hb dX6_work_51 rfl (lv_at hl 2 rfl) ?_
        obtain ⟨r7, e, h⟩ := bd h
        refine fx_lR hx hb hK hR (kd := 0) rfl rfl e dX6_work_52 ?_
        refine lv_aload_n hx hb dX6_work_53 rfl (lv_at hl 0 rfl) ?_
        obtain ⟨r8, e, h⟩ := bd h
        refine fx_gR hx hb hts hown hK hR fl_X6_33 e dX6_work_54 ?_
        refine lv_aload_n hx hb dX6_work_57 rfl (lv_at hl 0 rfl) ?_
        obtain ⟨v9, e, h⟩ := bd h
        refine fx_gI hx hb hts hown hK hR fl_X6_111 e dX6_work_58 ?_
        refine lv_aload_n hx hb dX6_work_61 rfl (lv_at hl 0 rfl) ?_
        obtain ⟨r10, e, h⟩ := bd h
        refine fx_gR hx hb hts hown hK hR fl_X6_40 e dX6_work_62 ?_
        obtain ⟨_, eO, h⟩ := bd h
        obtain ⟨w11, e, h⟩ := bd h
        refine fx_vV (As := [.ref r8, .int v9, .ref r10]) (rest := []) hx hb hml hts hown hK hR hS eO (mX4_renewFindings l D dA A e) my_X4_renewFindings mv_X4_renewFindings rfl ml_X6_196 rfl hl.1 rfl (Nat.le_of_ble_eq_true rfl) dX6_work_65 ⟨Nat.le_of_ble_eq_true rfl, Nat.le_of_ble_eq_true rfl⟩ ⟨Nat.le_refl _, Nat.le_refl _⟩ (fun H locs hR hS => ?_)
        exact qX6_work_b68 C (K17 := fX6_work_L17  n) (hK17 := @ih) hR hS (lv_sub hl [0, 1, 2] rfl) h
def fX6_work (w : Fw) (a0 : Nat) (x1 : Int32) : Option (Fw) := ((gI w a0 6 5).bind fun v12 => ((pF w a0 6 5 (.int (v12 + 1))).bind fun w13 => ((pF w13 a0 6 9 (.int x1)).bind fun w14 => (fX6_work_L17 1000 w14 a0 x1 0))))
set_option maxRecDepth 100000 in
set_option maxHeartbeats 4000000 in
theorem mX6_work (l : Launch) (D : va_G) (dA : Nat → ClassId) (A : Nat → Prop) {w : Fw} {a0 : Nat} {x1 : Int32} {res : Fw} (h : fX6_work w a0 x1 = some res) : Met l yX6_work (wz yX6_work cX6_work 3 none) (rz 4 95) (Pz D dA A w [.ref a0, .int x1]) (QzV D dA A res) 0 0 A := by
  refine Met.ofW (cc := cX6_work) (maxL := 3) (ret := none) (by decide) rfl ?_
  intro p e s m args below meth c s₁ B hml hv
  obtain ⟨rfl, hR, hK⟩ := hv
  have hx := B.exec
  have hb := B.bytes
  have hr := B.returns
  have hts : ∀ w ∈ lw_g, w.before [.ref a0, .int x1].toArray s = true := fun w hw => atoms_spec (ws := wz yX6_work cX6_work 3 none) B.pre w (List.mem_cons_of_mem _ hw)
  have hown : s.vm.findClass RX6 = some m.cls := findClass_of_methodNamed B.named
  have hlocks := B.notSynchronized
  have C : Cx p s m [.ref a0, .int x1].toArray meth c D dA RX6 cX6_work 3 none := ⟨hx, hb, hr, hml, hown, hts, hK, hlocks⟩
  have hS : va_S A s.heap s.heap [] := va_S.rf
  have hl := lv_entry ([.ref a0, .int x1]) (n := 3) (Nat.le_of_ble_eq_true rfl)
  rw [lg_entry_eq]
  generalize (lg_sl ([.ref a0, .int x1]) ++ List.replicate (3 - (lg_sl ([.ref a0, .int x1])).length) Slot.unset).toArray = ls at hl ⊢
  have hl : lv_has ls 3 [(0, .ref a0), (1, .int x1)] := hl
  unfold fX6_work at h
  show W p l e (rz 4 95) s m _ below meth c s.heap [] 0 0 _ _
  refine lv_aload_n hx hb dX6_work_0 rfl (lv_at hl 0 rfl) ?_
  refine lv_dup hx hb dX6_work_1 rfl ?_
  obtain ⟨v12, e, h⟩ := bd h
  refine fx_gI hx hb hts hown hK hR fl_X6_111 e dX6_work_2 ?_
  refine lv_iconst (v := 1) hx hb dX6_work_5 (by decide) ?_
  refine lv_iadd hx hb dX6_work_6 ?_
  obtain ⟨w13, e, h⟩ := bd h
  refine fx_p hx hb hts hown hK hR hS fp_X6_111 e rfl rfl dX6_work_7 (fun H locs hR hS => ?_)
  refine lv_aload_n hx hb dX6_work_10 rfl (lv_at hl 0 rfl) ?_
  refine lv_iload_n hx hb dX6_work_11 rfl (lv_at hl 1 rfl) ?_
  obtain ⟨w14, e, h⟩ := bd h
  refine fx_p hx hb hts hown hK hR hS fp_X6_121 e rfl rfl dX6_work_12 (fun H locs hR hS => ?_)
  refine lv_iconst (v := 0) hx hb dX6_work_15 (by decide) ?_
  refine lv_istore_n (lv' := [(2, .int 0), (0, .ref a0), (1, .int x1)]) hx hb dX6_work_16 rfl hl (by decide) rfl (fun ls hl => ?_)
  exact qX6_work_L17 C   1000 hR hS (lv_sub hl [1, 2, 0] rfl) h
def fX6_settle_b26  (w : Fw) (a0 : Nat) (x3 : Int32) : Option (Fw) := ((isO w a0 6).bind fun _ => ((fX6_work w a0 x3).bind fun w1 => some w1))
set_option maxRecDepth 100000 in
set_option maxHeartbeats 4000000 in
theorem qX6_settle_b26 {p : Program} {l : Launch} {e : Env} {s : State} {m : MethodId} {args : Array Value} {below : List Frame} {meth : Method} {c : Code} {D : va_G} {dA : Nat → ClassId} {A : Nat → Prop} (C : Cx p s m args meth c D dA RX6 cX6_settle 4 none) {w : Fw} {res : Fw}   {H : Heap} {locs : List Loc} {ls : Array Slot} {a0 : Nat} {x3 : Int32} (hR : Rp D dA A w H) (hS : va_S A s.heap H locs) (hl : lv_has ls 4 [(0, .ref a0), (3, .int x3)]) (h : fX6_settle_b26 w a0 x3 = some res) : W p l e (rz 5 117) s m args below meth c H locs 0 0 (MQ below (QzV D dA A res) args s 0 0 A) (F0 m 26 ls []) := by
  obtain ⟨hx, hb, hr, hml, hown, hts, hK, hlocks⟩ := id C
  unfold fX6_settle_b26 at h
  refine lv_aload_n hx hb dX6_settle_26 rfl (lv_at hl 0 rfl) ?_
  refine lv_iload_n hx hb dX6_settle_27 rfl (lv_at hl 1 rfl) ?_
  obtain ⟨_, eO, h⟩ := bd h
  obtain ⟨w1, e, h⟩ := bd h
  refine fx_vV (As := [.int x3]) (rest := []) hx hb hml hts hown hK hR hS eO (mX6_work l D dA A e) my_X6_work mv_X6_work rfl ml_X6_105 rfl hl.1 rfl (Nat.le_of_ble_eq_true rfl) dX6_settle_28 ⟨Nat.le_of_ble_eq_true rfl, Nat.le_of_ble_eq_true rfl⟩ ⟨Nat.le_refl _, Nat.le_refl _⟩ (fun H locs hR hS => ?_)
  exact fx_vret hx hb hr hlocks (Option.some.inj h) hR hS dX6_settle_31
def fX6_settle (w : Fw) (a0 : Nat) (x1 : Int32) (x2 : Int32) : Option (Fw) := ((gR w a0 6 0).bind fun r2 => ((lR w 0 r2 x1).bind fun r3 => ((isO w r3 4).bind fun _ => ((fX4_numbersOf w r3 1).bind fun v4 => (if v4 = x2 then (fX6_settle_b26 w a0 ((1 : Int32) <<< (x1 &&& 31))) else ((isO w a0 6).bind fun _ => ((fX6_importersOf w a0 x1).bind fun v5 => (fX6_settle_b26 w a0 (((1 : Int32) <<< (x1 &&& 31)) ||| v5)))))))))
set_option maxRecDepth 100000 in
set_option maxHeartbeats 4000000 in
theorem mX6_settle (l : Launch) (D : va_G) (dA : Nat → ClassId) (A : Nat → Prop) {w : Fw} {a0 : Nat} {x1 : Int32} {x2 : Int32} {res : Fw} (h : fX6_settle w a0 x1 x2 = some res) : Met l yX6_settle (wz yX6_settle cX6_settle 4 none) (rz 5 117) (Pz D dA A w [.ref a0, .int x1, .int x2]) (QzV D dA A res) 0 0 A := by
  refine Met.ofW (cc := cX6_settle) (maxL := 4) (ret := none) (by decide) rfl ?_
  intro p e s m args below meth c s₁ B hml hv
  obtain ⟨rfl, hR, hK⟩ := hv
  have hx := B.exec
  have hb := B.bytes
  have hr := B.returns
  have hts : ∀ w ∈ lw_g, w.before [.ref a0, .int x1, .int x2].toArray s = true := fun w hw => atoms_spec (ws := wz yX6_settle cX6_settle 4 none) B.pre w (List.mem_cons_of_mem _ hw)
  have hown : s.vm.findClass RX6 = some m.cls := findClass_of_methodNamed B.named
  have hlocks := B.notSynchronized
  have C : Cx p s m [.ref a0, .int x1, .int x2].toArray meth c D dA RX6 cX6_settle 4 none := ⟨hx, hb, hr, hml, hown, hts, hK, hlocks⟩
  have hS : va_S A s.heap s.heap [] := va_S.rf
  have hl := lv_entry ([.ref a0, .int x1, .int x2]) (n := 4) (Nat.le_of_ble_eq_true rfl)
  rw [lg_entry_eq]
  generalize (lg_sl ([.ref a0, .int x1, .int x2]) ++ List.replicate (4 - (lg_sl ([.ref a0, .int x1, .int x2])).length) Slot.unset).toArray = ls at hl ⊢
  have hl : lv_has ls 4 [(0, .ref a0), (1, .int x1), (2, .int x2)] := hl
  unfold fX6_settle at h
  show W p l e (rz 5 117) s m _ below meth c s.heap [] 0 0 _ _
  refine lv_iconst (v := 1) hx hb dX6_settle_0 (by decide) ?_
  refine lv_iload_n hx hb dX6_settle_1 rfl (lv_at hl 1 rfl) ?_
  refine lv_ishl hx hb dX6_settle_2 ?_
  refine lv_istore_n (lv' := [(3, .int ((1 : Int32) <<< (x1 &&& 31))), (0, .ref a0), (1, .int x1), (2, .int x2)]) hx hb dX6_settle_3 rfl hl (by decide) rfl (fun ls hl => ?_)
  refine lv_aload_n hx hb dX6_settle_4 rfl (lv_at hl 1 rfl) ?_
  obtain ⟨r2, e, h⟩ := bd h
  refine fx_gR hx hb hts hown hK hR fl_X6_11 e dX6_settle_5 ?_
  refine lv_iload_n hx hb dX6_settle_8 rfl (lv_at hl 2 rfl) ?_
  obtain ⟨r3, e, h⟩ := bd h
  refine fx_lR hx hb hK hR (kd := 0) rfl rfl e dX6_settle_9 ?_
  refine lv_iconst (v := 1) hx hb dX6_settle_10 (by decide) ?_
  obtain ⟨_, eO, h⟩ := bd h
  obtain ⟨v4, e, h⟩ := bd h
  refine fx_vI (As := [.int 1]) (rest := []) hx hb hml hts hown hK hR hS eO (mX4_numbersOf l D dA A e) my_X4_numbersOf mv_X4_numbersOf rfl ml_X6_54 rfl hl.1 rfl (Nat.le_of_ble_eq_true rfl) dX6_settle_11 ⟨Nat.le_of_ble_eq_true rfl, Nat.le_of_ble_eq_true rfl⟩ ⟨Nat.le_refl _, Nat.le_refl _⟩ (fun H locs hR hS => ?_)
  refine lv_iload_n hx hb dX6_settle_14 rfl (lv_at hl 3 rfl) ?_
  refine lv_icmp_eq (tgt := 26) hx hb dX6_settle_15 (by decide) (fun c => ?_) (fun c => ?_)
  · have h := it c h
    exact qX6_settle_b26 C   hR hS (lv_sub hl [1, 0] rfl) h
  · have h := ie c h
    refine lv_iload_n hx hb dX6_settle_18 rfl (lv_at hl 0 rfl) ?_
    refine lv_aload_n hx hb dX6_settle_19 rfl (lv_at hl 1 rfl) ?_
    refine lv_iload_n hx hb dX6_settle_20 rfl (lv_at hl 2 rfl) ?_
    obtain ⟨_, eO, h⟩ := bd h
    obtain ⟨v5, e, h⟩ := bd h
    refine fx_vI (As := [.int x1]) (rest := [.int ((1 : Int32) <<< (x1 &&& 31))]) hx hb hml hts hown hK hR hS eO (mX6_importersOf l D dA A e) my_X6_importersOf mv_X6_importersOf rfl ml_X6_183 rfl hl.1 rfl (Nat.le_of_ble_eq_true rfl) dX6_settle_21 ⟨Nat.le_of_ble_eq_true rfl, Nat.le_of_ble_eq_true rfl⟩ ⟨Nat.le_refl _, Nat.le_refl _⟩ (fun H locs hR hS => ?_)
    refine lv_ior hx hb dX6_settle_24 ?_
    refine lv_istore_n (lv' := [(3, .int (((1 : Int32) <<< (x1 &&& 31)) ||| v5)), (0, .ref a0), (1, .int x1), (2, .int x2)]) hx hb dX6_settle_25 rfl hl (by decide) rfl (fun ls hl => ?_)
    exact qX6_settle_b26 C   hR hS (lv_sub hl [1, 0] rfl) h
def fX6_put_b27  (w : Fw)  : Option (Int32 × Fw) := some ((-1), w)
set_option maxRecDepth 100000 in
set_option maxHeartbeats 4000000 in
theorem qX6_put_b27 {p : Program} {l : Launch} {e : Env} {s : State} {m : MethodId} {args : Array Value} {below : List Frame} {meth : Method} {c : Code} {D : va_G} {dA : Nat → ClassId} {A : Nat → Prop} (C : Cx p s m args meth c D dA RX6 cX6_put 6 (some .int)) {w : Fw} {res : Int32 × Fw}   {H : Heap} {locs : List Loc} {ls : Array Slot}  (hR : Rp D dA A w H) (hS : va_S A s.heap H locs) (hl : lv_has ls 6 []) (h : fX6_put_b27 w = some res) : W p l e (rz 6 140) s m args below meth c H locs 0 0 (MQ below (QzI D dA A res.1 res.2) args s 0 0 A) (F0 m 27 ls []) := by
  obtain ⟨hx, hb, hr, hml, hown, hts, hK, hlocks⟩ := id C
  unfold fX6_put_b27 at h
  refine lv_iconst (v := (-1)) hx hb dX6_put_27 (by decide) ?_
  exact fx_iret hx hb hr hlocks (pr1 h) (pr2 h) hR hS dX6_put_28
def fX6_put (w : Fw) (a0 : Nat) (x1 : Int32) (x2 : Int32) (x3 : Int32) : Option (Int32 × Fw) := ((fX6_isFile w x1).bind fun v1 => (if v1 = 0 then (fX6_put_b27 w) else ((fX6_isByte w x3).bind fun v2 => (if v2 = 0 then (fX6_put_b27 w) else ((gR w a0 6 0).bind fun r3 => ((lR w 0 r3 x1).bind fun r4 => ((isO w r4 4).bind fun _ => ((fX4_takesLine w r4 x2).bind fun v5 => (if v5 = 0 then (fX6_put_b27 w) else ((gR w a0 6 0).bind fun r6 => ((lR w 0 r6 x1).bind fun r7 => ((isO w r7 4).bind fun _ => ((fX4_numbersOf w r7 1).bind fun v8 => ((gI w a0 6 7).bind fun v9 => ((gI w a0 6 7).bind fun v10 => ((pF w a0 6 7 (.int (v10 + 1))).bind fun w11 => ((gR w11 a0 6 0).bind fun r12 => ((lR w11 0 r12 x1).bind fun r13 => ((isO w11 r13 4).bind fun _ => ((fX4_insert w11 r13 x2 x3 v9).bind fun w14 => ((isO w14 a0 6).bind fun _ => ((fX6_settle w14 a0 x1 v8).bind fun w15 => some (v9, w15)))))))))))))))))))))))
set_option maxRecDepth 100000 in
set_option maxHeartbeats 4000000 in
theorem mX6_put (l : Launch) (D : va_G) (dA : Nat → ClassId) (A : Nat → Prop) {w : Fw} {a0 : Nat} {x1 : Int32} {x2 : Int32} {x3 : Int32} {res : Int32 × Fw} (h : fX6_put w a0 x1 x2 x3 = some res) : Met l yX6_put (wz yX6_put cX6_put 6 (some .int)) (rz 6 140) (Pz D dA A w [.ref a0, .int x1, .int x2, .int x3]) (QzI D dA A res.1 res.2) 0 0 A := by
  refine Met.ofW (cc := cX6_put) (maxL := 6) (ret := (some .int)) (by decide) rfl ?_
  intro p e s m args below meth c s₁ B hml hv
  obtain ⟨rfl, hR, hK⟩ := hv
  have hx := B.exec
  have hb := B.bytes
  have hr := B.returns
  have hts : ∀ w ∈ lw_g, w.before [.ref a0, .int x1, .int x2, .int x3].toArray s = true := fun w hw => atoms_spec (ws := wz yX6_put cX6_put 6 (some .int)) B.pre w (List.mem_cons_of_mem _ hw)
  have hown : s.vm.findClass RX6 = some m.cls := findClass_of_methodNamed B.named
  have hlocks := B.notSynchronized
  have C : Cx p s m [.ref a0, .int x1, .int x2, .int x3].toArray meth c D dA RX6 cX6_put 6 (some .int) := ⟨hx, hb, hr, hml, hown, hts, hK, hlocks⟩
  have hS : va_S A s.heap s.heap [] := va_S.rf
  have hl := lv_entry ([.ref a0, .int x1, .int x2, .int x3]) (n := 6) (Nat.le_of_ble_eq_true rfl)
  rw [lg_entry_eq]
  generalize (lg_sl ([.ref a0, .int x1, .int x2, .int x3]) ++ List.replicate (6 - (lg_sl ([.ref a0, .int x1, .int x2, .int x3])).length) Slot.unset).toArray = ls at hl ⊢
  have hl : lv_has ls 6 [(0, .ref a0), (1, .int x1), (2, .int x2), (3, .int x3)] := hl
  unfold fX6_put at h
  show W p l e (rz 6 140) s m _ below meth c s.heap [] 0 0 _ _
  refine lv_iload_n hx hb dX6_put_0 rfl (lv_at hl 1 rfl) ?_
  obtain ⟨v1, e, h⟩ := bd h
  refine fx_sI' (As := [.int x1]) (rest := []) hx hb hml hts hown hK hR hS (mX6_isFile l D dA A e) my_X6_isFile ms_X6_isFile ml_X6_44 rfl hl.1 rfl (Nat.le_of_ble_eq_true rfl) dX6_put_1 ⟨Nat.le_of_ble_eq_true rfl, Nat.le_of_ble_eq_true rfl⟩ ⟨Nat.le_refl _, Nat.le_refl _⟩ (fun H locs hR hS => ?_)
  refine lv_if_eq (tgt := 27) hx hb dX6_put_4 (by decide) (fun c => ?_) (fun c => ?_)
  · have h := it c h
    exact qX6_put_b27 C   hR hS (lv_sub hl [] rfl) h
  · have h := ie c h
    refine lv_iload_n hx hb dX6_put_7 rfl (lv_at hl 3 rfl) ?_
    obtain ⟨v2, e, h⟩ := bd h
    refine fx_sI' (As := [.int x3]) (rest := []) hx hb hml hts hown hK hR hS (mX6_isByte l D dA A e) my_X6_isByte ms_X6_isByte ml_X6_48 rfl hl.1 rfl (Nat.le_of_ble_eq_true rfl) dX6_put_8 ⟨Nat.le_of_ble_eq_true rfl, Nat.le_of_ble_eq_true rfl⟩ ⟨Nat.le_refl _, Nat.le_refl _⟩ (fun H locs hR hS => ?_)
    refine lv_if_eq (tgt := 27) hx hb dX6_put_11 (by decide) (fun c => ?_) (fun c => ?_)
    · have h := it c h
      exact qX6_put_b27 C   hR hS (lv_sub hl [] rfl) h
    · have h := ie c h
      refine lv_aload_n hx hb dX6_put_14 rfl (lv_at hl 0 rfl) ?_
      obtain ⟨r3, e, h⟩ := bd h
      refine fx_gR hx hb hts hown hK hR fl_X6_11 e dX6_put_15 ?_
      refine lv_iload_n hx hb dX6_put_18 rfl (lv_at hl 1 rfl) ?_
      obtain ⟨r4, e, h⟩ := bd h
      refine fx_lR hx hb hK hR (kd := 0) rfl rfl e dX6_put_19 ?_
      refine lv_iload_n hx hb dX6_put_20 rfl (lv_at hl 2 rfl) ?_
      obtain ⟨_, eO, h⟩ := bd h
      obtain ⟨v5, e, h⟩ := bd h
      refine fx_vI (As := [.int x2]) (rest := []) hx hb hml hts hown hK hR hS eO (mX4_takesLine l D dA A e) my_X4_takesLine mv_X4_takesLine rfl ml_X6_51 rfl hl.1 rfl (Nat.le_of_ble_eq_true rfl) dX6_put_21 ⟨Nat.le_of_ble_eq_true rfl, Nat.le_of_ble_eq_true rfl⟩ ⟨Nat.le_refl _, Nat.le_refl _⟩ (fun H locs hR hS => ?_)
      refine lv_if_ne (tgt := 29) hx hb dX6_put_24 (by decide) (fun c => ?_) (fun c => ?_)
      · have h := ie c h
        refine lv_aload_n hx hb dX6_put_29 rfl (lv_at hl 0 rfl) ?_
        obtain ⟨r6, e, h⟩ := bd h
        refine fx_gR hx hb hts hown hK hR fl_X6_11 e dX6_put_30 ?_
        refine lv_iload_n hx hb dX6_put_33 rfl (lv_at hl 1 rfl) ?_
        obtain ⟨r7, e, h⟩ := bd h
        refine fx_lR hx hb hK hR (kd := 0) rfl rfl e dX6_put_34 ?_
        refine lv_iconst (v := 1) hx hb dX6_put_35 (by decide) ?_
        obtain ⟨_, eO, h⟩ := bd h
        obtain ⟨v8, e, h⟩ := bd h
        refine fx_vI (As := [.int 1]) (rest := []) hx hb hml hts hown hK hR hS eO (mX4_numbersOf l D dA A e) my_X4_numbersOf mv_X4_numbersOf rfl ml_X6_54 rfl hl.1 rfl (Nat.le_of_ble_eq_true rfl) dX6_put_36 ⟨Nat.le_of_ble_eq_true rfl, Nat.le_of_ble_eq_true rfl⟩ ⟨Nat.le_refl _, Nat.le_refl _⟩ (fun H locs hR hS => ?_)
        refine lv_istore (lv' := [(4, .int v8), (0, .ref a0), (1, .int x1), (2, .int x2), (3, .int x3)]) hx hb dX6_put_39 hl (by decide) rfl (fun ls hl => ?_)
        refine lv_aload_n hx hb dX6_put_41 rfl (lv_at hl 1 rfl) ?_
        obtain ⟨v9, e, h⟩ := bd h
        refine fx_gI hx hb hts hown hK hR fl_X6_58 e dX6_put_42 ?_
        refine lv_istore (lv' := [(5, .int v9), (4, .int v8), (0, .ref a0), (1, .int x1), (2, .int x2), (3, .int x3)]) hx hb dX6_put_45 hl (by decide) rfl (fun ls hl => ?_)
        refine lv_aload_n hx hb dX6_put_47 rfl (lv_at hl 2 rfl) ?_
        refine lv_dup hx hb dX6_put_48 rfl ?_
        obtain ⟨v10, e, h⟩ := bd h
        refine fx_gI hx hb hts hown hK hR fl_X6_58 e dX6_put_49 ?_
        refine lv_iconst (v := 1) hx hb dX6_put_52 (by decide) ?_
        refine lv_iadd hx hb dX6_put_53 ?_
        obtain ⟨w11, e, h⟩ := bd h
        refine fx_p hx hb hts hown hK hR hS fp_X6_58 e rfl rfl dX6_put_54 (fun H locs hR hS => ?_)
        refine lv_aload_n hx hb dX6_put_57 rfl (lv_at hl 2 rfl) ?_
        obtain ⟨r12, e, h⟩ := bd h
        refine fx_gR hx hb hts hown hK hR fl_X6_11 e dX6_put_58 ?_
        refine lv_iload_n hx hb dX6_put_61 rfl (lv_at hl 3 rfl) ?_
        obtain ⟨r13, e, h⟩ := bd h
        refine fx_lR hx hb hK hR (kd := 0) rfl rfl e dX6_put_62 ?_
        refine lv_iload_n hx hb dX6_put_63 rfl (lv_at hl 4 rfl) ?_
        refine lv_iload_n hx hb dX6_put_64 rfl (lv_at hl 5 rfl) ?_
        refine lv_iload hx hb dX6_put_65 (lv_at hl 0 rfl) ?_
        obtain ⟨_, eO, h⟩ := bd h
        obtain ⟨w14, e, h⟩ := bd h
        refine fx_vV (As := [.int x2, .int x3, .int v9]) (rest := []) hx hb hml hts hown hK hR hS eO (mX4_insert l D dA A e) my_X4_insert mv_X4_insert rfl ml_X6_62 rfl hl.1 rfl (Nat.le_of_ble_eq_true rfl) dX6_put_67 ⟨Nat.le_of_ble_eq_true rfl, Nat.le_of_ble_eq_true rfl⟩ ⟨Nat.le_refl _, Nat.le_refl _⟩ (fun H locs hR hS => ?_)
        refine lv_aload_n hx hb dX6_put_70 rfl (lv_at hl 2 rfl) ?_
        refine lv_iload_n hx hb dX6_put_71 rfl (lv_at hl 3 rfl) ?_
        refine lv_iload hx hb dX6_put_72 (lv_at hl 1 rfl) ?_
        obtain ⟨_, eO, h⟩ := bd h
        obtain ⟨w15, e, h⟩ := bd h
        refine fx_vV (As := [.int x1, .int v8]) (rest := []) hx hb hml hts hown hK hR hS eO (mX6_settle l D dA A e) my_X6_settle mv_X6_settle rfl ml_X6_66 rfl hl.1 rfl (Nat.le_of_ble_eq_true rfl) dX6_put_74 ⟨Nat.le_of_ble_eq_true rfl, Nat.le_of_ble_eq_true rfl⟩ ⟨Nat.le_refl _, Nat.le_refl _⟩ (fun H locs hR hS => ?_)
        refine lv_iload hx hb dX6_put_77 (lv_at hl 0 rfl) ?_
        exact fx_iret hx hb hr hlocks (pr1 h) (pr2 h) hR hS dX6_put_79
      · have h := it c h
        exact qX6_put_b27 C   hR hS (lv_sub hl [] rfl) h
def fX6_isLine_b25 (w : Fw)  (s0 : Int32) : Option (Int32) := zb s0
set_option maxRecDepth 100000 in
set_option maxHeartbeats 4000000 in
theorem qX6_isLine_b25 {p : Program} {l : Launch} {e : Env} {s : State} {m : MethodId} {args : Array Value} {below : List Frame} {meth : Method} {c : Code} {D : va_G} {dA : Nat → ClassId} {A : Nat → Prop} (C : Cx p s m args meth c D dA RX6 cX6_isLine 3 (some .boolean)) {w : Fw} {res : Int32}   {H : Heap} {locs : List Loc} {ls : Array Slot} {s0 : Int32} (hR : Rp D dA A w H) (hS : va_S A s.heap H locs) (hl : lv_has ls 3 []) (h : fX6_isLine_b25 w s0 = some res) : W p l e (rz 1 21) s m args below meth c H locs 0 0 (MQ below (QzI D dA A res w) args s 0 0 A) (F0 m 25 ls [.int s0]) := by
  obtain ⟨hx, hb, hr, hml, hown, hts, hK, hlocks⟩ := id C
  unfold fX6_isLine_b25 at h
  exact fx_zret hx hb hr hlocks h rfl hR hS dX6_isLine_25
def fX6_isLine_b24 (w : Fw)   : Option (Int32) := (fX6_isLine_b25 w 0)
set_option maxRecDepth 100000 in
set_option maxHeartbeats 4000000 in
theorem qX6_isLine_b24 {p : Program} {l : Launch} {e : Env} {s : State} {m : MethodId} {args : Array Value} {below : List Frame} {meth : Method} {c : Code} {D : va_G} {dA : Nat → ClassId} {A : Nat → Prop} (C : Cx p s m args meth c D dA RX6 cX6_isLine 3 (some .boolean)) {w : Fw} {res : Int32}   {H : Heap} {locs : List Loc} {ls : Array Slot}  (hR : Rp D dA A w H) (hS : va_S A s.heap H locs) (hl : lv_has ls 3 []) (h : fX6_isLine_b24 w = some res) : W p l e (rz 1 21) s m args below meth c H locs 0 0 (MQ below (QzI D dA A res w) args s 0 0 A) (F0 m 24 ls []) := by
  obtain ⟨hx, hb, hr, hml, hown, hts, hK, hlocks⟩ := id C
  unfold fX6_isLine_b24 at h
  refine lv_iconst (v := 0) hx hb dX6_isLine_24 (by decide) ?_
  exact qX6_isLine_b25 C   hR hS (lv_sub hl [] rfl) h
def fX6_isLine (w : Fw) (a0 : Nat) (x1 : Int32) (x2 : Int32) : Option (Int32) := ((fX6_isFile w x1).bind fun v1 => (if v1 = 0 then (fX6_isLine_b24 w) else ((gR w a0 6 0).bind fun r2 => ((lR w 0 r2 x1).bind fun r3 => ((isO w r3 4).bind fun _ => ((fX4_hasLine w r3 x2).bind fun v4 => (if v4 = 0 then (fX6_isLine_b24 w) else (fX6_isLine_b25 w 1))))))))
set_option maxRecDepth 100000 in
set_option maxHeartbeats 4000000 in
theorem mX6_isLine (l : Launch) (D : va_G) (dA : Nat → ClassId) (A : Nat → Prop) {w : Fw} {a0 : Nat} {x1 : Int32} {x2 : Int32} {res : Int32} (h : fX6_isLine w a0 x1 x2 = some res) : Met l yX6_isLine (wz yX6_isLine cX6_isLine 3 (some .boolean)) (rz 1 21) (Pz D dA A w [.ref a0, .int x1, .int x2]) (QzI D dA A res w) 0 0 A := by
  refine Met.ofW (cc := cX6_isLine) (maxL := 3) (ret := (some .boolean)) (by decide) rfl ?_
  intro p e s m args below meth c s₁ B hml hv
  obtain ⟨rfl, hR, hK⟩ := hv
  have hx := B.exec
  have hb := B.bytes
  have hr := B.returns
  have hts : ∀ w ∈ lw_g, w.before [.ref a0, .int x1, .int x2].toArray s = true := fun w hw => atoms_spec (ws := wz yX6_isLine cX6_isLine 3 (some .boolean)) B.pre w (List.mem_cons_of_mem _ hw)
  have hown : s.vm.findClass RX6 = some m.cls := findClass_of_methodNamed B.named
  have hlocks := B.notSynchronized
  have C : Cx p s m [.ref a0, .int x1, .int x2].toArray meth c D dA RX6 cX6_isLine 3 (some .boolean) := ⟨hx, hb, hr, hml, hown, hts, hK, hlocks⟩
  have hS : va_S A s.heap s.heap [] := va_S.rf
  have hl := lv_entry ([.ref a0, .int x1, .int x2]) (n := 3) (Nat.le_of_ble_eq_true rfl)
  rw [lg_entry_eq]
  generalize (lg_sl ([.ref a0, .int x1, .int x2]) ++ List.replicate (3 - (lg_sl ([.ref a0, .int x1, .int x2])).length) Slot.unset).toArray = ls at hl ⊢
  have hl : lv_has ls 3 [(0, .ref a0), (1, .int x1), (2, .int x2)] := hl
  unfold fX6_isLine at h
  show W p l e (rz 1 21) s m _ below meth c s.heap [] 0 0 _ _
  refine lv_iload_n hx hb dX6_isLine_0 rfl (lv_at hl 1 rfl) ?_
  obtain ⟨v1, e, h⟩ := bd h
  refine fx_sI' (As := [.int x1]) (rest := []) hx hb hml hts hown hK hR hS (mX6_isFile l D dA A e) my_X6_isFile ms_X6_isFile ml_X6_44 rfl hl.1 rfl (Nat.le_of_ble_eq_true rfl) dX6_isLine_1 ⟨Nat.le_of_ble_eq_true rfl, Nat.le_of_ble_eq_true rfl⟩ ⟨Nat.le_refl _, Nat.le_refl _⟩ (fun H locs hR hS => ?_)
  refine lv_if_eq (tgt := 24) hx hb dX6_isLine_4 (by decide) (fun c => ?_) (fun c => ?_)
  · have h := it c h
    exact qX6_isLine_b24 C   hR hS (lv_sub hl [] rfl) h
  · have h := ie c h
    refine lv_aload_n hx hb dX6_isLine_7 rfl (lv_at hl 0 rfl) ?_
    obtain ⟨r2, e, h⟩ := bd h
    refine fx_gR hx hb hts hown hK hR fl_X6_11 e dX6_isLine_8 ?_
    refine lv_iload_n hx hb dX6_isLine_11 rfl (lv_at hl 1 rfl) ?_
    obtain ⟨r3, e, h⟩ := bd h
    refine fx_lR hx hb hK hR (kd := 0) rfl rfl e dX6_isLine_12 ?_
    refine lv_iload_n hx hb dX6_isLine_13 rfl (lv_at hl 2 rfl) ?_
    obtain ⟨_, eO, h⟩ := bd h
    obtain ⟨v4, e, h⟩ := bd h
    refine fx_vI (As := [.int x2]) (rest := []) hx hb hml hts hown hK hR hS eO (mX4_hasLine l D dA A e) my_X4_hasLine mv_X4_hasLine rfl ml_X6_180 rfl hl.1 rfl (Nat.le_of_ble_eq_true rfl) dX6_isLine_14 ⟨Nat.le_of_ble_eq_true rfl, Nat.le_of_ble_eq_true rfl⟩ ⟨Nat.le_refl _, Nat.le_refl _⟩ (fun H locs hR hS => ?_)
    refine lv_if_eq (tgt := 24) hx hb dX6_isLine_17 (by decide) (fun c => ?_) (fun c => ?_)
    · have h := it c h
      exact qX6_isLine_b24 C   hR hS (lv_sub hl [] rfl) h
    · have h := ie c h
      refine lv_iconst (v := 1) hx hb dX6_isLine_20 (by decide) ?_
      refine lv_goto (tgt := 25) hx hb dX6_isLine_21 (by decide) ?_
      exact qX6_isLine_b25 C   hR hS (lv_sub hl [] rfl) h
def fX6_cut (w : Fw) (a0 : Nat) (x1 : Int32) (x2 : Int32) : Option (Int32 × Fw) := ((isO w a0 6).bind fun _ => ((fX6_isLine w a0 x1 x2).bind fun v1 => (if v1 = 0 then (zb 0).bind fun z10 => some (z10, w) else ((gR w a0 6 0).bind fun r2 => ((lR w 0 r2 x1).bind fun r3 => ((isO w r3 4).bind fun _ => ((fX4_numbersOf w r3 1).bind fun v4 => ((gR w a0 6 0).bind fun r5 => ((lR w 0 r5 x1).bind fun r6 => ((isO w r6 4).bind fun _ => ((fX4_remove w r6 x2).bind fun w7 => ((isO w7 a0 6).bind fun _ => ((fX6_settle w7 a0 x1 v4).bind fun w8 => (zb 1).bind fun z9 => some (z9, w8))))))))))))))
set_option maxRecDepth 100000 in
set_option maxHeartbeats 4000000 in
theorem mX6_cut (l : Launch) (D : va_G) (dA : Nat → ClassId) (A : Nat → Prop) {w : Fw} {a0 : Nat} {x1 : Int32} {x2 : Int32} {res : Int32 × Fw} (h : fX6_cut w a0 x1 x2 = some res) : Met l yX6_cut (wz yX6_cut cX6_cut 4 (some .boolean)) (rz 6 140) (Pz D dA A w [.ref a0, .int x1, .int x2]) (QzI D dA A res.1 res.2) 0 0 A := by
  refine Met.ofW (cc := cX6_cut) (maxL := 4) (ret := (some .boolean)) (by decide) rfl ?_
  intro p e s m args below meth c s₁ B hml hv
  obtain ⟨rfl, hR, hK⟩ := hv
  have hx := B.exec
  have hb := B.bytes
  have hr := B.returns
  have hts : ∀ w ∈ lw_g, w.before [.ref a0, .int x1, .int x2].toArray s = true := fun w hw => atoms_spec (ws := wz yX6_cut cX6_cut 4 (some .boolean)) B.pre w (List.mem_cons_of_mem _ hw)
  have hown : s.vm.findClass RX6 = some m.cls := findClass_of_methodNamed B.named
  have hlocks := B.notSynchronized
  have C : Cx p s m [.ref a0, .int x1, .int x2].toArray meth c D dA RX6 cX6_cut 4 (some .boolean) := ⟨hx, hb, hr, hml, hown, hts, hK, hlocks⟩
  have hS : va_S A s.heap s.heap [] := va_S.rf
  have hl := lv_entry ([.ref a0, .int x1, .int x2]) (n := 4) (Nat.le_of_ble_eq_true rfl)
  rw [lg_entry_eq]
  generalize (lg_sl ([.ref a0, .int x1, .int x2]) ++ List.replicate (4 - (lg_sl ([.ref a0, .int x1, .int x2])).length) Slot.unset).toArray = ls at hl ⊢
  have hl : lv_has ls 4 [(0, .ref a0), (1, .int x1), (2, .int x2)] := hl
  unfold fX6_cut at h
  show W p l e (rz 6 140) s m _ below meth c s.heap [] 0 0 _ _
  refine lv_aload_n hx hb dX6_cut_0 rfl (lv_at hl 0 rfl) ?_
  refine lv_iload_n hx hb dX6_cut_1 rfl (lv_at hl 1 rfl) ?_
  refine lv_iload_n hx hb dX6_cut_2 rfl (lv_at hl 2 rfl) ?_
  obtain ⟨_, eO, h⟩ := bd h
  obtain ⟨v1, e, h⟩ := bd h
  refine fx_vI (As := [.int x1, .int x2]) (rest := []) hx hb hml hts hown hK hR hS eO (mX6_isLine l D dA A e) my_X6_isLine mv_X6_isLine rfl ml_X6_70 rfl hl.1 rfl (Nat.le_of_ble_eq_true rfl) dX6_cut_3 ⟨Nat.le_of_ble_eq_true rfl, Nat.le_of_ble_eq_true rfl⟩ ⟨Nat.le_refl _, Nat.le_refl _⟩ (fun H locs hR hS => ?_)
  refine lv_if_ne (tgt := 11) hx hb dX6_cut_6 (by decide) (fun c => ?_) (fun c => ?_)
  · have h := ie c h
    refine lv_aload_n hx hb dX6_cut_11 rfl (lv_at hl 0 rfl) ?_
    obtain ⟨r2, e, h⟩ := bd h
    refine fx_gR hx hb hts hown hK hR fl_X6_11 e dX6_cut_12 ?_
    refine lv_iload_n hx hb dX6_cut_15 rfl (lv_at hl 1 rfl) ?_
    obtain ⟨r3, e, h⟩ := bd h
    refine fx_lR hx hb hK hR (kd := 0) rfl rfl e dX6_cut_16 ?_
    refine lv_iconst (v := 1) hx hb dX6_cut_17 (by decide) ?_
    obtain ⟨_, eO, h⟩ := bd h
    obtain ⟨v4, e, h⟩ := bd h
    refine fx_vI (As := [.int 1]) (rest := []) hx hb hml hts hown hK hR hS eO (mX4_numbersOf l D dA A e) my_X4_numbersOf mv_X4_numbersOf rfl ml_X6_54 rfl hl.1 rfl (Nat.le_of_ble_eq_true rfl) dX6_cut_18 ⟨Nat.le_of_ble_eq_true rfl, Nat.le_of_ble_eq_true rfl⟩ ⟨Nat.le_refl _, Nat.le_refl _⟩ (fun H locs hR hS => ?_)
    refine lv_istore_n (lv' := [(3, .int v4), (0, .ref a0), (1, .int x1), (2, .int x2)]) hx hb dX6_cut_21 rfl hl (by decide) rfl (fun ls hl => ?_)
    refine lv_aload_n hx hb dX6_cut_22 rfl (lv_at hl 1 rfl) ?_
    obtain ⟨r5, e, h⟩ := bd h
    refine fx_gR hx hb hts hown hK hR fl_X6_11 e dX6_cut_23 ?_
    refine lv_iload_n hx hb dX6_cut_26 rfl (lv_at hl 2 rfl) ?_
    obtain ⟨r6, e, h⟩ := bd h
    refine fx_lR hx hb hK hR (kd := 0) rfl rfl e dX6_cut_27 ?_
    refine lv_iload_n hx hb dX6_cut_28 rfl (lv_at hl 3 rfl) ?_
    obtain ⟨_, eO, h⟩ := bd h
    obtain ⟨w7, e, h⟩ := bd h
    refine fx_vV (As := [.int x2]) (rest := []) hx hb hml hts hown hK hR hS eO (mX4_remove l D dA A e) my_X4_remove mv_X4_remove rfl ml_X6_74 rfl hl.1 rfl (Nat.le_of_ble_eq_true rfl) dX6_cut_29 ⟨Nat.le_of_ble_eq_true rfl, Nat.le_of_ble_eq_true rfl⟩ ⟨Nat.le_refl _, Nat.le_refl _⟩ (fun H locs hR hS => ?_)
    refine lv_aload_n hx hb dX6_cut_32 rfl (lv_at hl 1 rfl) ?_
    refine lv_iload_n hx hb dX6_cut_33 rfl (lv_at hl 2 rfl) ?_
    refine lv_iload_n hx hb dX6_cut_34 rfl (lv_at hl 0 rfl) ?_
    obtain ⟨_, eO, h⟩ := bd h
    obtain ⟨w8, e, h⟩ := bd h
    refine fx_vV (As := [.int x1, .int v4]) (rest := []) hx hb hml hts hown hK hR hS eO (mX6_settle l D dA A e) my_X6_settle mv_X6_settle rfl ml_X6_66 rfl hl.1 rfl (Nat.le_of_ble_eq_true rfl) dX6_cut_35 ⟨Nat.le_of_ble_eq_true rfl, Nat.le_of_ble_eq_true rfl⟩ ⟨Nat.le_refl _, Nat.le_refl _⟩ (fun H locs hR hS => ?_)
    refine lv_iconst (v := 1) hx hb dX6_cut_38 (by decide) ?_
    obtain ⟨z9, e, h⟩ := bd h
    exact fx_zret hx hb hr hlocks (e.trans (congrArg some (pr1 h))) (pr2 h) hR hS dX6_cut_39
  · have h := it c h
    refine lv_iconst (v := 0) hx hb dX6_cut_9 (by decide) ?_
    obtain ⟨z10, e, h⟩ := bd h
    exact fx_zret hx hb hr hlocks (e.trans (congrArg some (pr1 h))) (pr2 h) hR hS dX6_cut_10
def fX6_change_b30  (w : Fw)  : Option (Int32 × Fw) := (zb 0).bind fun z1 => some (z1, w)
set_option maxRecDepth 100000 in
set_option maxHeartbeats 4000000 in
theorem qX6_change_b30 {p : Program} {l : Launch} {e : Env} {s : State} {m : MethodId} {args : Array Value} {below : List Frame} {meth : Method} {c : Code} {D : va_G} {dA : Nat → ClassId} {A : Nat → Prop} (C : Cx p s m args meth c D dA RX6 cX6_change 5 (some .boolean)) {w : Fw} {res : Int32 × Fw}   {H : Heap} {locs : List Loc} {ls : Array Slot}  (hR : Rp D dA A w H) (hS : va_S A s.heap H locs) (hl : lv_has ls 5 []) (h : fX6_change_b30 w = some res) : W p l e (rz 6 140) s m args below meth c H locs 0 0 (MQ below (QzI D dA A res.1 res.2) args s 0 0 A) (F0 m 30 ls []) := by
  obtain ⟨hx, hb, hr, hml, hown, hts, hK, hlocks⟩ := id C
  unfold fX6_change_b30 at h
  refine lv_iconst (v := 0) hx hb dX6_change_30 (by decide) ?_
  obtain ⟨z1, e, h⟩ := bd h
  exact fx_zret hx hb hr hlocks (e.trans (congrArg some (pr1 h))) (pr2 h) hR hS dX6_change_31
def fX6_change (w : Fw) (a0 : Nat) (x1 : Int32) (x2 : Int32) (x3 : Int32) : Option (Int32 × Fw) := ((isO w a0 6).bind fun _ => ((fX6_isLine w a0 x1 x2).bind fun v2 => (if v2 = 0 then (fX6_change_b30 w) else ((fX6_isByte w x3).bind fun v3 => (if v3 = 0 then (fX6_change_b30 w) else ((gR w a0 6 0).bind fun r4 => ((lR w 0 r4 x1).bind fun r5 => ((isO w r5 4).bind fun _ => ((fX4_byteAt w r5 x2).bind fun v6 => (if v6 = x3 then (fX6_change_b30 w) else ((gR w a0 6 0).bind fun r7 => ((lR w 0 r7 x1).bind fun r8 => ((isO w r8 4).bind fun _ => ((fX4_numbersOf w r8 1).bind fun v9 => ((gR w a0 6 0).bind fun r10 => ((lR w 0 r10 x1).bind fun r11 => ((isO w r11 4).bind fun _ => ((fX4_replace w r11 x2 x3).bind fun w12 => ((isO w12 a0 6).bind fun _ => ((fX6_settle w12 a0 x1 v9).bind fun w13 => (zb 1).bind fun z14 => some (z14, w13)))))))))))))))))))))
set_option maxRecDepth 100000 in
set_option maxHeartbeats 4000000 in
theorem mX6_change (l : Launch) (D : va_G) (dA : Nat → ClassId) (A : Nat → Prop) {w : Fw} {a0 : Nat} {x1 : Int32} {x2 : Int32} {x3 : Int32} {res : Int32 × Fw} (h : fX6_change w a0 x1 x2 x3 = some res) : Met l yX6_change (wz yX6_change cX6_change 5 (some .boolean)) (rz 6 140) (Pz D dA A w [.ref a0, .int x1, .int x2, .int x3]) (QzI D dA A res.1 res.2) 0 0 A := by
  refine Met.ofW (cc := cX6_change) (maxL := 5) (ret := (some .boolean)) (by decide) rfl ?_
  intro p e s m args below meth c s₁ B hml hv
  obtain ⟨rfl, hR, hK⟩ := hv
  have hx := B.exec
  have hb := B.bytes
  have hr := B.returns
  have hts : ∀ w ∈ lw_g, w.before [.ref a0, .int x1, .int x2, .int x3].toArray s = true := fun w hw => atoms_spec (ws := wz yX6_change cX6_change 5 (some .boolean)) B.pre w (List.mem_cons_of_mem _ hw)
  have hown : s.vm.findClass RX6 = some m.cls := findClass_of_methodNamed B.named
  have hlocks := B.notSynchronized
  have C : Cx p s m [.ref a0, .int x1, .int x2, .int x3].toArray meth c D dA RX6 cX6_change 5 (some .boolean) := ⟨hx, hb, hr, hml, hown, hts, hK, hlocks⟩
  have hS : va_S A s.heap s.heap [] := va_S.rf
  have hl := lv_entry ([.ref a0, .int x1, .int x2, .int x3]) (n := 5) (Nat.le_of_ble_eq_true rfl)
  rw [lg_entry_eq]
  generalize (lg_sl ([.ref a0, .int x1, .int x2, .int x3]) ++ List.replicate (5 - (lg_sl ([.ref a0, .int x1, .int x2, .int x3])).length) Slot.unset).toArray = ls at hl ⊢
  have hl : lv_has ls 5 [(0, .ref a0), (1, .int x1), (2, .int x2), (3, .int x3)] := hl
  unfold fX6_change at h
  show W p l e (rz 6 140) s m _ below meth c s.heap [] 0 0 _ _
  refine lv_aload_n hx hb dX6_change_0 rfl (lv_at hl 0 rfl) ?_
  refine lv_iload_n hx hb dX6_change_1 rfl (lv_at hl 1 rfl) ?_
  refine lv_iload_n hx hb dX6_change_2 rfl (lv_at hl 2 rfl) ?_
  obtain ⟨_, eO, h⟩ := bd h
  obtain ⟨v2, e, h⟩ := bd h
  refine fx_vI (As := [.int x1, .int x2]) (rest := []) hx hb hml hts hown hK hR hS eO (mX6_isLine l D dA A e) my_X6_isLine mv_X6_isLine rfl ml_X6_70 rfl hl.1 rfl (Nat.le_of_ble_eq_true rfl) dX6_change_3 ⟨Nat.le_of_ble_eq_true rfl, Nat.le_of_ble_eq_true rfl⟩ ⟨Nat.le_refl _, Nat.le_refl _⟩ (fun H locs hR hS => ?_)
  refine lv_if_eq (tgt := 30) hx hb dX6_change_6 (by decide) (fun c => ?_) (fun c => ?_)
  · have h := it c h
    exact qX6_change_b30 C   hR hS (lv_sub hl [] rfl) h
  · have h := ie c h
    refine lv_iload_n hx hb dX6_change_9 rfl (lv_at hl 3 rfl) ?_
    obtain ⟨v3, e, h⟩ := bd h
    refine fx_sI' (As := [.int x3]) (rest := []) hx hb hml hts hown hK hR hS (mX6_isByte l D dA A e) my_X6_isByte ms_X6_isByte ml_X6_48 rfl hl.1 rfl (Nat.le_of_ble_eq_true rfl) dX6_change_10 ⟨Nat.le_of_ble_eq_true rfl, Nat.le_of_ble_eq_true rfl⟩ ⟨Nat.le_refl _, Nat.le_refl _⟩ (fun H locs hR hS => ?_)
    refine lv_if_eq (tgt := 30) hx hb dX6_change_13 (by decide) (fun c => ?_) (fun c => ?_)
    · have h := it c h
      exact qX6_change_b30 C   hR hS (lv_sub hl [] rfl) h
    · have h := ie c h
      refine lv_aload_n hx hb dX6_change_16 rfl (lv_at hl 0 rfl) ?_
      obtain ⟨r4, e, h⟩ := bd h
      refine fx_gR hx hb hts hown hK hR fl_X6_11 e dX6_change_17 ?_
      refine lv_iload_n hx hb dX6_change_20 rfl (lv_at hl 1 rfl) ?_
      obtain ⟨r5, e, h⟩ := bd h
      refine fx_lR hx hb hK hR (kd := 0) rfl rfl e dX6_change_21 ?_
      refine lv_iload_n hx hb dX6_change_22 rfl (lv_at hl 2 rfl) ?_
      obtain ⟨_, eO, h⟩ := bd h
      obtain ⟨v6, e, h⟩ := bd h
      refine fx_vI (As := [.int x2]) (rest := []) hx hb hml hts hown hK hR hS eO (mX4_byteAt l D dA A e) my_X4_byteAt mv_X4_byteAt rfl ml_X6_78 rfl hl.1 rfl (Nat.le_of_ble_eq_true rfl) dX6_change_23 ⟨Nat.le_of_ble_eq_true rfl, Nat.le_of_ble_eq_true rfl⟩ ⟨Nat.le_refl _, Nat.le_refl _⟩ (fun H locs hR hS => ?_)
      refine lv_iload_n hx hb dX6_change_26 rfl (lv_at hl 3 rfl) ?_
      refine lv_icmp_ne (tgt := 32) hx hb dX6_change_27 (by decide) (fun c => ?_) (fun c => ?_)
      · have h := ie c h
        refine lv_aload_n hx hb dX6_change_32 rfl (lv_at hl 0 rfl) ?_
        obtain ⟨r7, e, h⟩ := bd h
        refine fx_gR hx hb hts hown hK hR fl_X6_11 e dX6_change_33 ?_
        refine lv_iload_n hx hb dX6_change_36 rfl (lv_at hl 1 rfl) ?_
        obtain ⟨r8, e, h⟩ := bd h
        refine fx_lR hx hb hK hR (kd := 0) rfl rfl e dX6_change_37 ?_
        refine lv_iconst (v := 1) hx hb dX6_change_38 (by decide) ?_
        obtain ⟨_, eO, h⟩ := bd h
        obtain ⟨v9, e, h⟩ := bd h
        refine fx_vI (As := [.int 1]) (rest := []) hx hb hml hts hown hK hR hS eO (mX4_numbersOf l D dA A e) my_X4_numbersOf mv_X4_numbersOf rfl ml_X6_54 rfl hl.1 rfl (Nat.le_of_ble_eq_true rfl) dX6_change_39 ⟨Nat.le_of_ble_eq_true rfl, Nat.le_of_ble_eq_true rfl⟩ ⟨Nat.le_refl _, Nat.le_refl _⟩ (fun H locs hR hS => ?_)
        refine lv_istore (lv' := [(4, .int v9), (0, .ref a0), (1, .int x1), (2, .int x2), (3, .int x3)]) hx hb dX6_change_42 hl (by decide) rfl (fun ls hl => ?_)
        refine lv_aload_n hx hb dX6_change_44 rfl (lv_at hl 1 rfl) ?_
        obtain ⟨r10, e, h⟩ := bd h
        refine fx_gR hx hb hts hown hK hR fl_X6_11 e dX6_change_45 ?_
        refine lv_iload_n hx hb dX6_change_48 rfl (lv_at hl 2 rfl) ?_
        obtain ⟨r11, e, h⟩ := bd h
        refine fx_lR hx hb hK hR (kd := 0) rfl rfl e dX6_change_49 ?_
        refine lv_iload_n hx hb dX6_change_50 rfl (lv_at hl 3 rfl) ?_
        refine lv_iload_n hx hb dX6_change_51 rfl (lv_at hl 4 rfl) ?_
        obtain ⟨_, eO, h⟩ := bd h
        obtain ⟨w12, e, h⟩ := bd h
        refine fx_vV (As := [.int x2, .int x3]) (rest := []) hx hb hml hts hown hK hR hS eO (mX4_replace l D dA A e) my_X4_replace mv_X4_replace rfl ml_X6_81 rfl hl.1 rfl (Nat.le_of_ble_eq_true rfl) dX6_change_52 ⟨Nat.le_of_ble_eq_true rfl, Nat.le_of_ble_eq_true rfl⟩ ⟨Nat.le_refl _, Nat.le_refl _⟩ (fun H locs hR hS => ?_)
        refine lv_aload_n hx hb dX6_change_55 rfl (lv_at hl 1 rfl) ?_
        refine lv_iload_n hx hb dX6_change_56 rfl (lv_at hl 2 rfl) ?_
        refine lv_iload hx hb dX6_change_57 (lv_at hl 0 rfl) ?_
        obtain ⟨_, eO, h⟩ := bd h
        obtain ⟨w13, e, h⟩ := bd h
        refine fx_vV (As := [.int x1, .int v9]) (rest := []) hx hb hml hts hown hK hR hS eO (mX6_settle l D dA A e) my_X6_settle mv_X6_settle rfl ml_X6_66 rfl hl.1 rfl (Nat.le_of_ble_eq_true rfl) dX6_change_59 ⟨Nat.le_of_ble_eq_true rfl, Nat.le_of_ble_eq_true rfl⟩ ⟨Nat.le_refl _, Nat.le_refl _⟩ (fun H locs hR hS => ?_)
        refine lv_iconst (v := 1) hx hb dX6_change_62 (by decide) ?_
        obtain ⟨z14, e, h⟩ := bd h
        exact fx_zret hx hb hr hlocks (e.trans (congrArg some (pr1 h))) (pr2 h) hR hS dX6_change_63
      · have h := it c h
        exact qX6_change_b30 C   hR hS (lv_sub hl [] rfl) h
