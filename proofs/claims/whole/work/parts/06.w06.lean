def fX7_isThere_b62 (w : Fw) (K22 : Nat → Int32 → Int32 → Int32 → Int32 → Option (Int32)) (a0 : Nat) (x1 : Int32) (x2 : Int32) (x4 : Int32) (s0 : Int32) : Option (Int32) := (K22 a0 x1 x2 s0 (x4 + 1))
set_option maxRecDepth 100000 in
set_option maxHeartbeats 4000000 in
theorem qX7_isThere_b62 {p : Program} {l : Launch} {e : Env} {s : State} {m : MethodId} {args : Array Value} {below : List Frame} {meth : Method} {c : Code} {D : va_G} {dA : Nat → ClassId} {A : Nat → Prop} (C : Cx p s m args meth c D dA RX7 cX7_isThere 5 (some .boolean)) {w : Fw} {res : Int32} {K22 : Nat → Int32 → Int32 → Int32 → Int32 → Option (Int32)} (hK22 : ∀ {H : Heap} {locs : List Loc} {ls : Array Slot} {a0 : Nat} {x1 : Int32} {x2 : Int32} {x3 : Int32} {x4 : Int32}, Rp D dA A w H → va_S A s.heap H locs → lv_has ls 5 [(0, .ref a0), (1, .int x1), (2, .int x2), (3, .int x3), (4, .int x4)] → K22 a0 x1 x2 x3 x4 = some res → W p l e (rz 2 46) s m args below meth c H locs 0 0 (MQ below (QzI D dA A res w) args s 0 0 A) (F0 m 22 ls [])) {H : Heap} {locs : List Loc} {ls : Array Slot} {a0 : Nat} {x1 : Int32} {x2 : Int32} {x4 : Int32} {s0 : Int32} (hR : Rp D dA A w H) (hS : va_S A s.heap H locs) (hl : lv_has ls 5 [(0, .ref a0), (1, .int x1), (2, .int x2), (4, .int x4)]) (h : fX7_isThere_b62 w K22 a0 x1 x2 x4 s0 = some res) : W p l e (rz 2 46) s m args below meth c H locs 0 0 (MQ below (QzI D dA A res w) args s 0 0 A) (F0 m 62 ls [.int s0]) := by
  obtain ⟨hx, hb, hr, hml, hown, hts, hK, hlocks⟩ := id C
  unfold fX7_isThere_b62 at h
  refine lv_istore_n (lv' := [(3, .int s0), (0, .ref a0), (1, .int x1), (2, .int x2), (4, .int x4)]) hx hb dX7_isThere_62 rfl hl (by decide) rfl (fun ls hl => ?_)
  refine lv_iinc (v := (x4 + 1)) (lv' := [(4, .int (x4 + 1)), (3, .int s0), (0, .ref a0), (1, .int x1), (2, .int x2)]) hx hb dX7_isThere_63 hl (k := 4) rfl rfl (by decide) rfl (fun ls hl => ?_)
  refine lv_goto (tgt := 22) hx hb dX7_isThere_66 (by decide) ?_
  exact hK22 hR hS (lv_sub hl [2, 3, 4, 1, 0] rfl) h
def fX7_isThere_b61 (w : Fw) (K22 : Nat → Int32 → Int32 → Int32 → Int32 → Option (Int32)) (a0 : Nat) (x1 : Int32) (x2 : Int32) (x4 : Int32) : Option (Int32) := (fX7_isThere_b62 w K22 a0 x1 x2 x4 0)
set_option maxRecDepth 100000 in
set_option maxHeartbeats 4000000 in
theorem qX7_isThere_b61 {p : Program} {l : Launch} {e : Env} {s : State} {m : MethodId} {args : Array Value} {below : List Frame} {meth : Method} {c : Code} {D : va_G} {dA : Nat → ClassId} {A : Nat → Prop} (C : Cx p s m args meth c D dA RX7 cX7_isThere 5 (some .boolean)) {w : Fw} {res : Int32} {K22 : Nat → Int32 → Int32 → Int32 → Int32 → Option (Int32)} (hK22 : ∀ {H : Heap} {locs : List Loc} {ls : Array Slot} {a0 : Nat} {x1 : Int32} {x2 : Int32} {x3 : Int32} {x4 : Int32}, Rp D dA A w H → va_S A s.heap H locs → lv_has ls 5 [(0, .ref a0), (1, .int x1), (2, .int x2), (3, .int x3), (4, .int x4)] → K22 a0 x1 x2 x3 x4 = some res → W p l e (rz 2 46) s m args below meth c H locs 0 0 (MQ below (QzI D dA A res w) args s 0 0 A) (F0 m 22 ls [])) {H : Heap} {locs : List Loc} {ls : Array Slot} {a0 : Nat} {x1 : Int32} {x2 : Int32} {x4 : Int32} (hR : Rp D dA A w H) (hS : va_S A s.heap H locs) (hl : lv_has ls 5 [(0, .ref a0), (1, .int x1), (2, .int x2), (4, .int x4)]) (h : fX7_isThere_b61 w K22 a0 x1 x2 x4 = some res) : W p l e (rz 2 46) s m args below meth c H locs 0 0 (MQ below (QzI D dA A res w) args s 0 0 A) (F0 m 61 ls []) := by
  obtain ⟨hx, hb, hr, hml, hown, hts, hK, hlocks⟩ := id C
  unfold fX7_isThere_b61 at h
  refine lv_iconst (v := 0) hx hb dX7_isThere_61 (by decide) ?_
  exact qX7_isThere_b62 C (K22 := K22) (hK22 := @hK22) hR hS (lv_sub hl [0, 1, 2, 3] rfl) h
def fX7_isThere_b57 (w : Fw) (K22 : Nat → Int32 → Int32 → Int32 → Int32 → Option (Int32)) (a0 : Nat) (x1 : Int32) (x2 : Int32) (x4 : Int32) : Option (Int32) := (fX7_isThere_b62 w K22 a0 x1 x2 x4 1)
set_option maxRecDepth 100000 in
set_option maxHeartbeats 4000000 in
theorem qX7_isThere_b57 {p : Program} {l : Launch} {e : Env} {s : State} {m : MethodId} {args : Array Value} {below : List Frame} {meth : Method} {c : Code} {D : va_G} {dA : Nat → ClassId} {A : Nat → Prop} (C : Cx p s m args meth c D dA RX7 cX7_isThere 5 (some .boolean)) {w : Fw} {res : Int32} {K22 : Nat → Int32 → Int32 → Int32 → Int32 → Option (Int32)} (hK22 : ∀ {H : Heap} {locs : List Loc} {ls : Array Slot} {a0 : Nat} {x1 : Int32} {x2 : Int32} {x3 : Int32} {x4 : Int32}, Rp D dA A w H → va_S A s.heap H locs → lv_has ls 5 [(0, .ref a0), (1, .int x1), (2, .int x2), (3, .int x3), (4, .int x4)] → K22 a0 x1 x2 x3 x4 = some res → W p l e (rz 2 46) s m args below meth c H locs 0 0 (MQ below (QzI D dA A res w) args s 0 0 A) (F0 m 22 ls [])) {H : Heap} {locs : List Loc} {ls : Array Slot} {a0 : Nat} {x1 : Int32} {x2 : Int32} {x4 : Int32} (hR : Rp D dA A w H) (hS : va_S A s.heap H locs) (hl : lv_has ls 5 [(0, .ref a0), (1, .int x1), (2, .int x2), (4, .int x4)]) (h : fX7_isThere_b57 w K22 a0 x1 x2 x4 = some res) : W p l e (rz 2 46) s m args below meth c H locs 0 0 (MQ below (QzI D dA A res w) args s 0 0 A) (F0 m 57 ls []) := by
  obtain ⟨hx, hb, hr, hml, hown, hts, hK, hlocks⟩ := id C
  unfold fX7_isThere_b57 at h
  refine lv_iconst (v := 1) hx hb dX7_isThere_57 (by decide) ?_
  refine lv_goto (tgt := 62) hx hb dX7_isThere_58 (by decide) ?_
  exact qX7_isThere_b62 C (K22 := K22) (hK22 := @hK22) hR hS (lv_sub hl [0, 1, 2, 3] rfl) h
def fX7_isThere_L22 (w : Fw)  : Nat → Nat → Int32 → Int32 → Int32 → Int32 → Option (Int32)
  | 0, _, _, _, _, _ => none
  | n + 1, a0, x1, x2, x3, x4 => if 6 ≤ x4 then zb x3 else if x3 = 0 then ((isO w a0 7).bind fun _ => ((fX7_imports w a0 x1 x4).bind fun v1 => (if v1 = 0 then (fX7_isThere_b61 w (fX7_isThere_L22 w n) a0 x1 x2 x4) else ((isO w a0 7).bind fun _ => ((fX7_defs w a0 x4).bind fun v2 => (if ((v2 >>> (x2 &&& 31)) &&& 1) = 1 then (fX7_isThere_b57 w (fX7_isThere_L22 w n) a0 x1 x2 x4) else (fX7_isThere_b61 w (fX7_isThere_L22 w n) a0 x1 x2 x4))))))) else (fX7_isThere_b57 w (fX7_isThere_L22 w n) a0 x1 x2 x4)
set_option maxRecDepth 100000 in
set_option maxHeartbeats 4000000 in
theorem qX7_isThere_L22 {p : Program} {l : Launch} {e : Env} {s : State} {m : MethodId} {args : Array Value} {below : List Frame} {meth : Method} {c : Code} {D : va_G} {dA : Nat → ClassId} {A : Nat → Prop} (C : Cx p s m args meth c D dA RX7 cX7_isThere 5 (some .boolean)) {w : Fw} {res : Int32}   : ∀ (n : Nat) {H : Heap} {locs : List Loc} {ls : Array Slot} {a0 : Nat} {x1 : Int32} {x2 : Int32} {x3 : Int32} {x4 : Int32}, Rp D dA A w H → va_S A s.heap H locs → lv_has ls 5 [(0, .ref a0), (1, .int x1), (2, .int x2), (3, .int x3), (4, .int x4)] → fX7_isThere_L22 w n a0 x1 x2 x3 x4 = some res → W p l e (rz 2 46) s m args below meth c H locs 0 0 (MQ below (QzI D dA A res w) args s 0 0 A) (F0 m 22 ls []) := by
  obtain ⟨hx, hb, hr, hml, hown, hts, hK, hlocks⟩ := id C
  intro n
  induction n with
  | zero =>
    intro H locs ls a0 x1 x2 x3 x4 hR hS hl h
    rw [fX7_isThere_L22.eq_1] at h
    cases h
  | succ n ih =>
    intro H locs ls a0 x1 x2 x3 x4 hR hS hl h
    rw [fX7_isThere_L22.eq_2] at h
    refine lv_iload hx hb dX7_isThere_22 (lv_at hl 4 rfl) ?_
    refine lv_bipush (v := 6) hx hb dX7_isThere_24 (by decide) ?_
    refine lv_icmp_ge (tgt := 69) hx hb dX7_isThere_26 (by decide) (fun c => ?_) (fun c => ?_)
    · have h := it c h
      refine lv_iload_n hx hb dX7_isThere_69 rfl (lv_at hl 3 rfl) ?_
      exact fx_zret hx hb hr hlocks h rfl hR hS dX7_isThere_70
    · have h := ie c h
      refine lv_iload_n hx hb dX7_isThere_29 rfl (lv_at hl 3 rfl) ?_
      refine lv_if_ne (tgt := 57) hx hb dX7_isThere_30 (by decide) (fun c => ?_) (fun c => ?_)
      · have h := ie c h
        exact qX7_isThere_b57 C (K22 := fX7_isThere_L22 w n) (hK22 := @ih) hR hS (lv_sub hl [0, 1, 2, 4] rfl) h
      · have h := it c h
        refine lv_aload_n hx hb dX7_isThere_33 rfl (lv_at hl 0 rfl) ?_
        refine lv_iload_n hx hb dX7_isThere_34 rfl (lv_at hl 1 rfl) ?_
        refine lv_iload hx hb dX7_isThere_35 (lv_at hl 4 rfl) ?_
        obtain ⟨_, eO, h⟩ := bd h
        obtain ⟨v1, e, h⟩ := bd h
        refine fx_vI (As := [.int x1, .int x4]) (rest := []) hx hb hml hts hown hK hR hS eO (mX7_imports l D dA A e) my_X7_imports mv_X7_imports rfl ml_X7_95 rfl hl.1 rfl (Nat.le_of_ble_eq_true rfl) dX7_isThere_37 ⟨Nat.le_of_ble_eq_true rfl, Nat.le_of_ble_eq_true rfl⟩ ⟨Nat.le_refl _, Nat.le_refl _⟩ (fun H locs hR hS => ?_)
        refine lv_if_eq (tgt := 61) hx hb dX7_isThere_40 (by decide) (fun c => ?_) (fun c => ?_)
        · have h := it c h
          exact qX7_isThere_b61 C (K22 := fX7_isThere_L22 w n) (hK22 := @ih) hR hS (lv_sub hl [0, 1, 2, 4] rfl) h
        · have h := ie c h
          refine lv_aload_n hx hb dX7_isThere_43 rfl (lv_at hl 0 rfl) ?_
          refine lv_iload hx hb dX7_isThere_44 (lv_at hl 4 rfl) ?_
          obtain ⟨_, eO, h⟩ := bd h
          obtain ⟨v2, e, h⟩ := bd h
          refine fx_vI (As := [.int x4]) (rest := []) hx hb hml hts hown hK hR hS eO (mX7_defs l D dA A e) my_X7_defs mv_X7_defs rfl ml_X7_91 rfl hl.1 rfl (Nat.le_of_ble_eq_true rfl) dX7_isThere_46 ⟨Nat.le_of_ble_eq_true rfl, Nat.le_of_ble_eq_true rfl⟩ ⟨Nat.le_refl _, Nat.le_refl _⟩ (fun H locs hR hS => ?_)
          refine lv_iload_n hx hb dX7_isThere_49 rfl (lv_at hl 2 rfl) ?_
          refine lv_ishr hx hb dX7_isThere_50 ?_
          refine lv_iconst (v := 1) hx hb dX7_isThere_51 (by decide) ?_
          refine lv_iand hx hb dX7_isThere_52 ?_
          refine lv_iconst (v := 1) hx hb dX7_isThere_53 (by decide) ?_
          refine lv_icmp_ne (tgt := 61) hx hb dX7_isThere_54 (by decide) (fun c => ?_) (fun c => ?_)
          · have h := ie c h
            exact qX7_isThere_b61 C (K22 := fX7_isThere_L22 w n) (hK22 := @ih) hR hS (lv_sub hl [0, 1, 2, 4] rfl) h
          · have h := it c h
            exact qX7_isThere_b57 C (K22 := fX7_isThere_L22 w n) (hK22 := @ih) hR hS (lv_sub hl [0, 1, 2, 4] rfl) h
def fX7_isThere_b18 (w : Fw)  (a0 : Nat) (x1 : Int32) (x2 : Int32) (s0 : Int32) : Option (Int32) := (fX7_isThere_L22 w 1000 a0 x1 x2 s0 0)
set_option maxRecDepth 100000 in
set_option maxHeartbeats 4000000 in
theorem qX7_isThere_b18 {p : Program} {l : Launch} {e : Env} {s : State} {m : MethodId} {args : Array Value} {below : List Frame} {meth : Method} {c : Code} {D : va_G} {dA : Nat → ClassId} {A : Nat → Prop} (C : Cx p s m args meth c D dA RX7 cX7_isThere 5 (some .boolean)) {w : Fw} {res : Int32}   {H : Heap} {locs : List Loc} {ls : Array Slot} {a0 : Nat} {x1 : Int32} {x2 : Int32} {s0 : Int32} (hR : Rp D dA A w H) (hS : va_S A s.heap H locs) (hl : lv_has ls 5 [(0, .ref a0), (1, .int x1), (2, .int x2)]) (h : fX7_isThere_b18 w a0 x1 x2 s0 = some res) : W p l e (rz 2 46) s m args below meth c H locs 0 0 (MQ below (QzI D dA A res w) args s 0 0 A) (F0 m 18 ls [.int s0]) := by
  obtain ⟨hx, hb, hr, hml, hown, hts, hK, hlocks⟩ := id C
  unfold fX7_isThere_b18 at h
  refine lv_istore_n (lv' := [(3, .int s0), (0, .ref a0), (1, .int x1), (2, .int x2)]) hx hb dX7_isThere_18 rfl hl (by decide) rfl (fun ls hl => ?_)
  refine lv_iconst (v := 0) hx hb dX7_isThere_19 (by decide) ?_
  refine lv_istore (lv' := [(4, .int 0), (3, .int s0), (0, .ref a0), (1, .int x1), (2, .int x2)]) hx hb dX7_isThere_20 hl (by decide) rfl (fun ls hl => ?_)
  exact qX7_isThere_L22 C   1000 hR hS (lv_sub hl [2, 3, 4, 1, 0] rfl) h
def fX7_isThere (w : Fw) (a0 : Nat) (x1 : Int32) (x2 : Int32) : Option (Int32) := ((isO w a0 7).bind fun _ => ((fX7_defs w a0 x1).bind fun v3 => (if ((v3 >>> (x2 &&& 31)) &&& 1) = 1 then (fX7_isThere_b18 w a0 x1 x2 1) else (fX7_isThere_b18 w a0 x1 x2 0))))
set_option maxRecDepth 100000 in
set_option maxHeartbeats 4000000 in
theorem mX7_isThere (l : Launch) (D : va_G) (dA : Nat → ClassId) (A : Nat → Prop) {w : Fw} {a0 : Nat} {x1 : Int32} {x2 : Int32} {res : Int32} (h : fX7_isThere w a0 x1 x2 = some res) : Met l yX7_isThere (wz yX7_isThere cX7_isThere 5 (some .boolean)) (rz 2 46) (Pz D dA A w [.ref a0, .int x1, .int x2]) (QzI D dA A res w) 0 0 A := by
  refine Met.ofW (cc := cX7_isThere) (maxL := 5) (ret := (some .boolean)) (by decide) rfl ?_
  intro p e s m args below meth c s₁ B hml hv
  obtain ⟨rfl, hR, hK⟩ := hv
  have hx := B.exec
  have hb := B.bytes
  have hr := B.returns
  have hts : ∀ w ∈ lw_g, w.before [.ref a0, .int x1, .int x2].toArray s = true := fun w hw => atoms_spec (ws := wz yX7_isThere cX7_isThere 5 (some .boolean)) B.pre w (List.mem_cons_of_mem _ hw)
  have hown : s.vm.findClass RX7 = some m.cls := findClass_of_methodNamed B.named
  have hlocks := B.notSynchronized
  have C : Cx p s m [.ref a0, .int x1, .int x2].toArray meth c D dA RX7 cX7_isThere 5 (some .boolean) := ⟨hx, hb, hr, hml, hown, hts, hK, hlocks⟩
  have hS : va_S A s.heap s.heap [] := va_S.rf
  have hl := lv_entry ([.ref a0, .int x1, .int x2]) (n := 5) (Nat.le_of_ble_eq_true rfl)
  rw [lg_entry_eq]
  generalize (lg_sl ([.ref a0, .int x1, .int x2]) ++ List.replicate (5 - (lg_sl ([.ref a0, .int x1, .int x2])).length) Slot.unset).toArray = ls at hl ⊢
  have hl : lv_has ls 5 [(0, .ref a0), (1, .int x1), (2, .int x2)] := hl
  unfold fX7_isThere at h
  show W p l e (rz 2 46) s m _ below meth c s.heap [] 0 0 _ _
  refine lv_aload_n hx hb dX7_isThere_0 rfl (lv_at hl 0 rfl) ?_
  refine lv_iload_n hx hb dX7_isThere_1 rfl (lv_at hl 1 rfl) ?_
  obtain ⟨_, eO, h⟩ := bd h
  obtain ⟨v3, e, h⟩ := bd h
  refine fx_vI (As := [.int x1]) (rest := []) hx hb hml hts hown hK hR hS eO (mX7_defs l D dA A e) my_X7_defs mv_X7_defs rfl ml_X7_91 rfl hl.1 rfl (Nat.le_of_ble_eq_true rfl) dX7_isThere_2 ⟨Nat.le_of_ble_eq_true rfl, Nat.le_of_ble_eq_true rfl⟩ ⟨Nat.le_refl _, Nat.le_refl _⟩ (fun H locs hR hS => ?_)
  refine lv_iload_n hx hb dX7_isThere_5 rfl (lv_at hl 2 rfl) ?_
  refine lv_ishr hx hb dX7_isThere_6 ?_
  refine lv_iconst (v := 1) hx hb dX7_isThere_7 (by decide) ?_
  refine lv_iand hx hb dX7_isThere_8 ?_
  refine lv_iconst (v := 1) hx hb dX7_isThere_9 (by decide) ?_
  refine lv_icmp_ne (tgt := 17) hx hb dX7_isThere_10 (by decide) (fun c => ?_) (fun c => ?_)
  · have h := ie c h
    refine lv_iconst (v := 0) hx hb dX7_isThere_17 (by decide) ?_
    exact qX7_isThere_b18 C   hR hS (lv_sub hl [0, 1, 2] rfl) h
  · have h := it c h
    refine lv_iconst (v := 1) hx hb dX7_isThere_13 (by decide) ?_
    refine lv_goto (tgt := 18) hx hb dX7_isThere_14 (by decide) ?_
    exact qX7_isThere_b18 C   hR hS (lv_sub hl [0, 1, 2] rfl) h
def fX7_isSecond_b46 (w : Fw) (K5 : Nat → Int32 → Int32 → Int32 → Int32 → Option (Int32)) (a0 : Nat) (x1 : Int32) (x2 : Int32) (x4 : Int32) (s0 : Int32) : Option (Int32) := (K5 a0 x1 x2 s0 (x4 + 1))
set_option maxRecDepth 100000 in
set_option maxHeartbeats 4000000 in
theorem qX7_isSecond_b46 {p : Program} {l : Launch} {e : Env} {s : State} {m : MethodId} {args : Array Value} {below : List Frame} {meth : Method} {c : Code} {D : va_G} {dA : Nat → ClassId} {A : Nat → Prop} (C : Cx p s m args meth c D dA RX7 cX7_isSecond 5 (some .boolean)) {w : Fw} {res : Int32} {K5 : Nat → Int32 → Int32 → Int32 → Int32 → Option (Int32)} (hK5 : ∀ {H : Heap} {locs : List Loc} {ls : Array Slot} {a0 : Nat} {x1 : Int32} {x2 : Int32} {x3 : Int32} {x4 : Int32}, Rp D dA A w H → va_S A s.heap H locs → lv_has ls 5 [(0, .ref a0), (1, .int x1), (2, .int x2), (3, .int x3), (4, .int x4)] → K5 a0 x1 x2 x3 x4 = some res → W p l e (rz 0 0) s m args below meth c H locs 0 0 (MQ below (QzI D dA A res w) args s 0 0 A) (F0 m 5 ls [])) {H : Heap} {locs : List Loc} {ls : Array Slot} {a0 : Nat} {x1 : Int32} {x2 : Int32} {x4 : Int32} {s0 : Int32} (hR : Rp D dA A w H) (hS : va_S A s.heap H locs) (hl : lv_has ls 5 [(0, .ref a0), (1, .int x1), (2, .int x2), (4, .int x4)]) (h : fX7_isSecond_b46 w K5 a0 x1 x2 x4 s0 = some res) : W p l e (rz 0 0) s m args below meth c H locs 0 0 (MQ below (QzI D dA A res w) args s 0 0 A) (F0 m 46 ls [.int s0]) := by
  obtain ⟨hx, hb, hr, hml, hown, hts, hK, hlocks⟩ := id C
  unfold fX7_isSecond_b46 at h
  refine lv_istore_n (lv' := [(3, .int s0), (0, .ref a0), (1, .int x1), (2, .int x2), (4, .int x4)]) hx hb dX7_isSecond_46 rfl hl (by decide) rfl (fun ls hl => ?_)
  refine lv_iinc (v := (x4 + 1)) (lv' := [(4, .int (x4 + 1)), (3, .int s0), (0, .ref a0), (1, .int x1), (2, .int x2)]) hx hb dX7_isSecond_47 hl (k := 4) rfl rfl (by decide) rfl (fun ls hl => ?_)
  refine lv_goto (tgt := 5) hx hb dX7_isSecond_50 (by decide) ?_
  exact hK5 hR hS (lv_sub hl [2, 3, 4, 1, 0] rfl) h
def fX7_isSecond_b41 (w : Fw) (K5 : Nat → Int32 → Int32 → Int32 → Int32 → Option (Int32)) (a0 : Nat) (x1 : Int32) (x2 : Int32) (x4 : Int32) : Option (Int32) := (fX7_isSecond_b46 w K5 a0 x1 x2 x4 1)
set_option maxRecDepth 100000 in
set_option maxHeartbeats 4000000 in
theorem qX7_isSecond_b41 {p : Program} {l : Launch} {e : Env} {s : State} {m : MethodId} {args : Array Value} {below : List Frame} {meth : Method} {c : Code} {D : va_G} {dA : Nat → ClassId} {A : Nat → Prop} (C : Cx p s m args meth c D dA RX7 cX7_isSecond 5 (some .boolean)) {w : Fw} {res : Int32} {K5 : Nat → Int32 → Int32 → Int32 → Int32 → Option (Int32)} (hK5 : ∀ {H : Heap} {locs : List Loc} {ls : Array Slot} {a0 : Nat} {x1 : Int32} {x2 : Int32} {x3 : Int32} {x4 : Int32}, Rp D dA A w H → va_S A s.heap H locs → lv_has ls 5 [(0, .ref a0), (1, .int x1), (2, .int x2), (3, .int x3), (4, .int x4)] → K5 a0 x1 x2 x3 x4 = some res → W p l e (rz 0 0) s m args below meth c H locs 0 0 (MQ below (QzI D dA A res w) args s 0 0 A) (F0 m 5 ls [])) {H : Heap} {locs : List Loc} {ls : Array Slot} {a0 : Nat} {x1 : Int32} {x2 : Int32} {x4 : Int32} (hR : Rp D dA A w H) (hS : va_S A s.heap H locs) (hl : lv_has ls 5 [(0, .ref a0), (1, .int x1), (2, .int x2), (4, .int x4)]) (h : fX7_isSecond_b41 w K5 a0 x1 x2 x4 = some res) : W p l e (rz 0 0) s m args below meth c H locs 0 0 (MQ below (QzI D dA A res w) args s 0 0 A) (F0 m 41 ls []) := by
  obtain ⟨hx, hb, hr, hml, hown, hts, hK, hlocks⟩ := id C
  unfold fX7_isSecond_b41 at h
  refine lv_iconst (v := 1) hx hb dX7_isSecond_41 (by decide) ?_
  refine lv_goto (tgt := 46) hx hb dX7_isSecond_42 (by decide) ?_
  exact qX7_isSecond_b46 C (K5 := K5) (hK5 := @hK5) hR hS (lv_sub hl [0, 1, 2, 3] rfl) h
def fX7_isSecond_L5 (w : Fw)  : Nat → Nat → Int32 → Int32 → Int32 → Int32 → Option (Int32)
  | 0, _, _, _, _, _ => none
  | n + 1, a0, x1, x2, x3, x4 => if x2 ≤ x4 then zb x3 else if x3 = 0 then ((gR w a0 7 1).bind fun r1 => ((lI w r1 ((32 * x1) + x4)).bind fun v2 => ((gR w a0 7 1).bind fun r3 => ((lI w r3 ((32 * x1) + x2)).bind fun v4 => (if v2 = v4 then (fX7_isSecond_b41 w (fX7_isSecond_L5 w n) a0 x1 x2 x4) else (fX7_isSecond_b46 w (fX7_isSecond_L5 w n) a0 x1 x2 x4 0)))))) else (fX7_isSecond_b41 w (fX7_isSecond_L5 w n) a0 x1 x2 x4)
set_option maxRecDepth 100000 in
set_option maxHeartbeats 4000000 in
theorem qX7_isSecond_L5 {p : Program} {l : Launch} {e : Env} {s : State} {m : MethodId} {args : Array Value} {below : List Frame} {meth : Method} {c : Code} {D : va_G} {dA : Nat → ClassId} {A : Nat → Prop} (C : Cx p s m args meth c D dA RX7 cX7_isSecond 5 (some .boolean)) {w : Fw} {res : Int32}   : ∀ (n : Nat) {H : Heap} {locs : List Loc} {ls : Array Slot} {a0 : Nat} {x1 : Int32} {x2 : Int32} {x3 : Int32} {x4 : Int32}, Rp D dA A w H → va_S A s.heap H locs → lv_has ls 5 [(0, .ref a0), (1, .int x1), (2, .int x2), (3, .int x3), (4, .int x4)] → fX7_isSecond_L5 w n a0 x1 x2 x3 x4 = some res → W p l e (rz 0 0) s m args below meth c H locs 0 0 (MQ below (QzI D dA A res w) args s 0 0 A) (F0 m 5 ls []) := by
  obtain ⟨hx, hb, hr, hml, hown, hts, hK, hlocks⟩ := id C
  intro n
  induction n with
  | zero =>
    intro H locs ls a0 x1 x2 x3 x4 hR hS hl h
    rw [fX7_isSecond_L5.eq_1] at h
    cases h
  | succ n ih =>
    intro H locs ls a0 x1 x2 x3 x4 hR hS hl h
    rw [fX7_isSecond_L5.eq_2] at h
    refine lv_iload hx hb dX7_isSecond_5 (lv_at hl 4 rfl) ?_
    refine lv_iload_n hx hb dX7_isSecond_7 rfl (lv_at hl 2 rfl) ?_
    refine lv_icmp_ge (tgt := 53) hx hb dX7_isSecond_8 (by decide) (fun c => ?_) (fun c => ?_)
    · have h := it c h
      refine lv_iload_n hx hb dX7_isSecond_53 rfl (lv_at hl 3 rfl) ?_
      exact fx_zret hx hb hr hlocks h rfl hR hS dX7_isSecond_54
    · have h := ie c h
      refine lv_iload_n hx hb dX7_isSecond_11 rfl (lv_at hl 3 rfl) ?_
      refine lv_if_ne (tgt := 41) hx hb dX7_isSecond_12 (by decide) (fun c => ?_) (fun c => ?_)
      · have h := ie c h
        exact qX7_isSecond_b41 C (K5 := fX7_isSecond_L5 w n) (hK5 := @ih) hR hS (lv_sub hl [0, 1, 2, 4] rfl) h
      · have h := it c h
        refine lv_aload_n hx hb dX7_isSecond_15 rfl (lv_at hl 0 rfl) ?_
        obtain ⟨r1, e, h⟩ := bd h
        refine fx_gR hx hb hts hown hK hR fl_X7_13 e dX7_isSecond_16 ?_
        refine lv_bipush (v := 32) hx hb dX7_isSecond_19 (by decide) ?_
        refine lv_iload_n hx hb dX7_isSecond_21 rfl (lv_at hl 1 rfl) ?_
        refine lv_imul hx hb dX7_isSecond_22 ?_
        refine lv_iload hx hb dX7_isSecond_23 (lv_at hl 4 rfl) ?_
        refine lv_iadd hx hb dX7_isSecond_25 ?_
        obtain ⟨v2, e, h⟩ := bd h
        refine fx_lI hx hb hK hR e dX7_isSecond_26 ?_
        refine lv_aload_n hx hb dX7_isSecond_27 rfl (lv_at hl 0 rfl) ?_
        obtain ⟨r3, e, h⟩ := bd h
        refine fx_gR hx hb hts hown hK hR fl_X7_13 e dX7_isSecond_28 ?_
        refine lv_bipush (v := 32) hx hb dX7_isSecond_31 (by decide) ?_
        refine lv_iload_n hx hb dX7_isSecond_33 rfl (lv_at hl 1 rfl) ?_
        refine lv_imul hx hb dX7_isSecond_34 ?_
        refine lv_iload_n hx hb dX7_isSecond_35 rfl (lv_at hl 2 rfl) ?_
        refine lv_iadd hx hb dX7_isSecond_36 ?_
        obtain ⟨v4, e, h⟩ := bd h
        refine fx_lI hx hb hK hR e dX7_isSecond_37 ?_
        refine lv_icmp_ne (tgt := 45) hx hb dX7_isSecond_38 (by decide) (fun c => ?_) (fun c => ?_)
        · have h := ie c h
          refine lv_iconst (v := 0) hx hb dX7_isSecond_45 (by decide) ?_
          exact qX7_isSecond_b46 C (K5 := fX7_isSecond_L5 w n) (hK5 := @ih) hR hS (lv_sub hl [0, 1, 2, 4] rfl) h
        · have h := it c h
          exact qX7_isSecond_b41 C (K5 := fX7_isSecond_L5 w n) (hK5 := @ih) hR hS (lv_sub hl [0, 1, 2, 4] rfl) h
def fX7_isSecond (w : Fw) (a0 : Nat) (x1 : Int32) (x2 : Int32) : Option (Int32) := (fX7_isSecond_L5 w 1000 a0 x1 x2 0 0)
set_option maxRecDepth 100000 in
set_option maxHeartbeats 4000000 in
theorem mX7_isSecond (l : Launch) (D : va_G) (dA : Nat → ClassId) (A : Nat → Prop) {w : Fw} {a0 : Nat} {x1 : Int32} {x2 : Int32} {res : Int32} (h : fX7_isSecond w a0 x1 x2 = some res) : Met l yX7_isSecond (wz yX7_isSecond cX7_isSecond 5 (some .boolean)) (rz 0 0) (Pz D dA A w [.ref a0, .int x1, .int x2]) (QzI D dA A res w) 0 0 A := by
  refine Met.ofW (cc := cX7_isSecond) (maxL := 5) (ret := (some .boolean)) (by decide) rfl ?_
  intro p e s m args below meth c s₁ B hml hv
  obtain ⟨rfl, hR, hK⟩ := hv
  have hx := B.exec
  have hb := B.bytes
  have hr := B.returns
  have hts : ∀ w ∈ lw_g, w.before [.ref a0, .int x1, .int x2].toArray s = true := fun w hw => atoms_spec (ws := wz yX7_isSecond cX7_isSecond 5 (some .boolean)) B.pre w (List.mem_cons_of_mem _ hw)
  have hown : s.vm.findClass RX7 = some m.cls := findClass_of_methodNamed B.named
  have hlocks := B.notSynchronized
  have C : Cx p s m [.ref a0, .int x1, .int x2].toArray meth c D dA RX7 cX7_isSecond 5 (some .boolean) := ⟨hx, hb, hr, hml, hown, hts, hK, hlocks⟩
  have hS : va_S A s.heap s.heap [] := va_S.rf
  have hl := lv_entry ([.ref a0, .int x1, .int x2]) (n := 5) (Nat.le_of_ble_eq_true rfl)
  rw [lg_entry_eq]
  generalize (lg_sl ([.ref a0, .int x1, .int x2]) ++ List.replicate (5 - (lg_sl ([.ref a0, .int x1, .int x2])).length) Slot.unset).toArray = ls at hl ⊢
  have hl : lv_has ls 5 [(0, .ref a0), (1, .int x1), (2, .int x2)] := hl
  unfold fX7_isSecond at h
  show W p l e (rz 0 0) s m _ below meth c s.heap [] 0 0 _ _
  refine lv_iconst (v := 0) hx hb dX7_isSecond_0 (by decide) ?_
  refine lv_istore_n (lv' := [(3, .int 0), (0, .ref a0), (1, .int x1), (2, .int x2)]) hx hb dX7_isSecond_1 rfl hl (by decide) rfl (fun ls hl => ?_)
  refine lv_iconst (v := 0) hx hb dX7_isSecond_2 (by decide) ?_
  refine lv_istore (lv' := [(4, .int 0), (3, .int 0), (0, .ref a0), (1, .int x1), (2, .int x2)]) hx hb dX7_isSecond_3 hl (by decide) rfl (fun ls hl => ?_)
  exact qX7_isSecond_L5 C   1000 hR hS (lv_sub hl [2, 3, 4, 1, 0] rfl) h
def fX7_isLone_b117 (w : Fw) (K75 : Nat → Int32 → Int32 → Int32 → Option (Int32)) (a0 : Nat) (x1 : Int32) (x3 : Int32) (x4 : Int32) : Option (Int32) := if x3 = 0 then zb 0 else (K75 a0 x1 x3 (x4 + 1))
set_option maxRecDepth 100000 in
set_option maxHeartbeats 4000000 in
theorem qX7_isLone_b117 {p : Program} {l : Launch} {e : Env} {s : State} {m : MethodId} {args : Array Value} {below : List Frame} {meth : Method} {c : Code} {D : va_G} {dA : Nat → ClassId} {A : Nat → Prop} (C : Cx p s m args meth c D dA RX7 cX7_isLone 5 (some .boolean)) {w : Fw} {res : Int32} {K75 : Nat → Int32 → Int32 → Int32 → Option (Int32)} (hK75 : ∀ {H : Heap} {locs : List Loc} {ls : Array Slot} {a0 : Nat} {x1 : Int32} {x3 : Int32} {x4 : Int32}, Rp D dA A w H → va_S A s.heap H locs → lv_has ls 5 [(0, .ref a0), (1, .int x1), (3, .int x3), (4, .int x4)] → K75 a0 x1 x3 x4 = some res → W p l e (rz 1 22) s m args below meth c H locs 0 0 (MQ below (QzI D dA A res w) args s 0 0 A) (F0 m 75 ls [])) {H : Heap} {locs : List Loc} {ls : Array Slot} {a0 : Nat} {x1 : Int32} {x3 : Int32} {x4 : Int32} (hR : Rp D dA A w H) (hS : va_S A s.heap H locs) (hl : lv_has ls 5 [(0, .ref a0), (1, .int x1), (3, .int x3), (4, .int x4)]) (h : fX7_isLone_b117 w K75 a0 x1 x3 x4 = some res) : W p l e (rz 1 22) s m args below meth c H locs 0 0 (MQ below (QzI D dA A res w) args s 0 0 A) (F0 m 117 ls []) := by
  obtain ⟨hx, hb, hr, hml, hown, hts, hK, hlocks⟩ := id C
  unfold fX7_isLone_b117 at h
  refine lv_iload_n hx hb dX7_isLone_117 rfl (lv_at hl 2 rfl) ?_
  refine lv_if_ne (tgt := 123) hx hb dX7_isLone_118 (by decide) (fun c => ?_) (fun c => ?_)
  · have h := ie c h
    refine lv_iinc (v := (x4 + 1)) (lv' := [(4, .int (x4 + 1)), (0, .ref a0), (1, .int x1), (3, .int x3)]) hx hb dX7_isLone_123 hl (k := 3) rfl rfl (by decide) rfl (fun ls hl => ?_)
    refine lv_goto (tgt := 75) hx hb dX7_isLone_126 (by decide) ?_
    exact hK75 hR hS (lv_sub hl [1, 2, 3, 0] rfl) h
  · have h := it c h
    refine lv_iconst (v := 0) hx hb dX7_isLone_121 (by decide) ?_
    exact fx_zret hx hb hr hlocks h rfl hR hS dX7_isLone_122
def fX7_isLone_L75 (w : Fw)  : Nat → Nat → Int32 → Int32 → Int32 → Option (Int32)
  | 0, _, _, _, _ => none
  | n + 1, a0, x1, x3, x4 => ((gR w a0 7 0).bind fun r1 => ((lI w r1 x1).bind fun v2 => (if v2 ≤ x4 then zb 1 else ((isO w a0 7).bind fun _ => ((fX7_kind w a0 x1 x4).bind fun v3 => (if v3 = 3 then (fX7_isLone_b117 w (fX7_isLone_L75 w n) a0 x1 (x3 + 1) x4) else ((isO w a0 7).bind fun _ => ((fX7_kind w a0 x1 x4).bind fun v4 => (if v4 = 4 then (fX7_isLone_b117 w (fX7_isLone_L75 w n) a0 x1 (x3 + (-1)) x4) else (fX7_isLone_b117 w (fX7_isLone_L75 w n) a0 x1 x3 x4))))))))))
set_option maxRecDepth 100000 in
set_option maxHeartbeats 4000000 in
theorem qX7_isLone_L75 {p : Program} {l : Launch} {e : Env} {s : State} {m : MethodId} {args : Array Value} {below : List Frame} {meth : Method} {c : Code} {D : va_G} {dA : Nat → ClassId} {A : Nat → Prop} (C : Cx p s m args meth c D dA RX7 cX7_isLone 5 (some .boolean)) {w : Fw} {res : Int32}   : ∀ (n : Nat) {H : Heap} {locs : List Loc} {ls : Array Slot} {a0 : Nat} {x1 : Int32} {x3 : Int32} {x4 : Int32}, Rp D dA A w H → va_S A s.heap H locs → lv_has ls 5 [(0, .ref a0), (1, .int x1), (3, .int x3), (4, .int x4)] → fX7_isLone_L75 w n a0 x1 x3 x4 = some res → W p l e (rz 1 22) s m args below meth c H locs 0 0 (MQ below (QzI D dA A res w) args s 0 0 A) (F0 m 75 ls []) := by
  obtain ⟨hx, hb, hr, hml, hown, hts, hK, hlocks⟩ := id C
  intro n
  induction n with
  | zero =>
    intro H locs ls a0 x1 x3 x4 hR hS hl h
    rw [fX7_isLone_L75.eq_1] at h
    cases h
  | succ n ih =>
    intro H locs ls a0 x1 x3 x4 hR hS hl h
    rw [fX7_isLone_L75.eq_2] at h
    refine lv_iload hx hb dX7_isLone_75 (lv_at hl 3 rfl) ?_
    refine lv_aload_n hx hb dX7_isLone_77 rfl (lv_at hl 0 rfl) ?_
    obtain ⟨r1, e, h⟩ := bd h
    refine fx_gR hx hb hts hown hK hR fl_X7_7 e dX7_isLone_78 ?_
    refine lv_iload_n hx hb dX7_isLone_81 rfl (lv_at hl 1 rfl) ?_
    obtain ⟨v2, e, h⟩ := bd h
    refine fx_lI hx hb hK hR e dX7_isLone_82 ?_
    refine lv_icmp_ge (tgt := 129) hx hb dX7_isLone_83 (by decide) (fun c => ?_) (fun c => ?_)
    · have h := it c h
      refine lv_iconst (v := 1) hx hb dX7_isLone_129 (by decide) ?_
      exact fx_zret hx hb hr hlocks h rfl hR hS dX7_isLone_130
    · have h := ie c h
      refine lv_aload_n hx hb dX7_isLone_86 rfl (lv_at hl 0 rfl) ?_
      refine lv_iload_n hx hb dX7_isLone_87 rfl (lv_at hl 1 rfl) ?_
      refine lv_iload hx hb dX7_isLone_88 (lv_at hl 3 rfl) ?_
      obtain ⟨_, eO, h⟩ := bd h
      obtain ⟨v3, e, h⟩ := bd h
      refine fx_vI (As := [.int x1, .int x4]) (rest := []) hx hb hml hts hown hK hR hS eO (mX7_kind l D dA A e) my_X7_kind mv_X7_kind rfl ml_X7_84 rfl hl.1 rfl (Nat.le_of_ble_eq_true rfl) dX7_isLone_90 ⟨Nat.le_of_ble_eq_true rfl, Nat.le_of_ble_eq_true rfl⟩ ⟨Nat.le_refl _, Nat.le_refl _⟩ (fun H locs hR hS => ?_)
      refine lv_iconst (v := 3) hx hb dX7_isLone_93 (by decide) ?_
      refine lv_icmp_ne (tgt := 103) hx hb dX7_isLone_94 (by decide) (fun c => ?_) (fun c => ?_)
      · have h := ie c h
        refine lv_aload_n hx hb dX7_isLone_103 rfl (lv_at hl 0 rfl) ?_
        refine lv_iload_n hx hb dX7_isLone_104 rfl (lv_at hl 1 rfl) ?_
        refine lv_iload hx hb dX7_isLone_105 (lv_at hl 3 rfl) ?_
        obtain ⟨_, eO, h⟩ := bd h
        obtain ⟨v4, e, h⟩ := bd h
        refine fx_vI (As := [.int x1, .int x4]) (rest := []) hx hb hml hts hown hK hR hS eO (mX7_kind l D dA A e) my_X7_kind mv_X7_kind rfl ml_X7_84 rfl hl.1 rfl (Nat.le_of_ble_eq_true rfl) dX7_isLone_107 ⟨Nat.le_of_ble_eq_true rfl, Nat.le_of_ble_eq_true rfl⟩ ⟨Nat.le_refl _, Nat.le_refl _⟩ (fun H locs hR hS => ?_)
        refine lv_iconst (v := 4) hx hb dX7_isLone_110 (by decide) ?_
        refine lv_icmp_ne (tgt := 117) hx hb dX7_isLone_111 (by decide) (fun c => ?_) (fun c => ?_)
        · have h := ie c h
          exact qX7_isLone_b117 C (K75 := fX7_isLone_L75 w n) (hK75 := @ih) hR hS (lv_sub hl [0, 1, 2, 3] rfl) h
        · have h := it c h
          refine lv_iinc (v := (x3 + (-1))) (lv' := [(3, .int (x3 + (-1))), (0, .ref a0), (1, .int x1), (4, .int x4)]) hx hb dX7_isLone_114 hl (k := 2) rfl rfl (by decide) rfl (fun ls hl => ?_)
          exact qX7_isLone_b117 C (K75 := fX7_isLone_L75 w n) (hK75 := @ih) hR hS (lv_sub hl [1, 2, 0, 3] rfl) h
      · have h := it c h
        refine lv_iinc (v := (x3 + 1)) (lv' := [(3, .int (x3 + 1)), (0, .ref a0), (1, .int x1), (4, .int x4)]) hx hb dX7_isLone_97 hl (k := 2) rfl rfl (by decide) rfl (fun ls hl => ?_)
        refine lv_goto (tgt := 117) hx hb dX7_isLone_100 (by decide) ?_
        exact qX7_isLone_b117 C (K75 := fX7_isLone_L75 w n) (hK75 := @ih) hR hS (lv_sub hl [1, 2, 0, 3] rfl) h
def fX7_isLone_b71 (w : Fw)  (s0 : Int32) : Option (Int32) := zb s0
set_option maxRecDepth 100000 in
set_option maxHeartbeats 4000000 in
theorem qX7_isLone_b71 {p : Program} {l : Launch} {e : Env} {s : State} {m : MethodId} {args : Array Value} {below : List Frame} {meth : Method} {c : Code} {D : va_G} {dA : Nat → ClassId} {A : Nat → Prop} (C : Cx p s m args meth c D dA RX7 cX7_isLone 5 (some .boolean)) {w : Fw} {res : Int32}   {H : Heap} {locs : List Loc} {ls : Array Slot} {s0 : Int32} (hR : Rp D dA A w H) (hS : va_S A s.heap H locs) (hl : lv_has ls 5 []) (h : fX7_isLone_b71 w s0 = some res) : W p l e (rz 1 22) s m args below meth c H locs 0 0 (MQ below (QzI D dA A res w) args s 0 0 A) (F0 m 71 ls [.int s0]) := by
  obtain ⟨hx, hb, hr, hml, hown, hts, hK, hlocks⟩ := id C
  unfold fX7_isLone_b71 at h
  exact fx_zret hx hb hr hlocks h rfl hR hS dX7_isLone_71
def fX7_isLone_b56 (w : Fw) (K15 : Nat → Int32 → Int32 → Int32 → Int32 → Option (Int32)) (a0 : Nat) (x1 : Int32) (x2 : Int32) (x3 : Int32) (x4 : Int32) : Option (Int32) := (K15 a0 x1 x2 x3 (x4 + 1))
set_option maxRecDepth 100000 in
set_option maxHeartbeats 4000000 in
theorem qX7_isLone_b56 {p : Program} {l : Launch} {e : Env} {s : State} {m : MethodId} {args : Array Value} {below : List Frame} {meth : Method} {c : Code} {D : va_G} {dA : Nat → ClassId} {A : Nat → Prop} (C : Cx p s m args meth c D dA RX7 cX7_isLone 5 (some .boolean)) {w : Fw} {res : Int32} {K15 : Nat → Int32 → Int32 → Int32 → Int32 → Option (Int32)} (hK15 : ∀ {H : Heap} {locs : List Loc} {ls : Array Slot} {a0 : Nat} {x1 : Int32} {x2 : Int32} {x3 : Int32} {x4 : Int32}, Rp D dA A w H → va_S A s.heap H locs → lv_has ls 5 [(0, .ref a0), (1, .int x1), (2, .int x2), (3, .int x3), (4, .int x4)] → K15 a0 x1 x2 x3 x4 = some res → W p l e (rz 1 22) s m args below meth c H locs 0 0 (MQ below (QzI D dA A res w) args s 0 0 A) (F0 m 15 ls [])) {H : Heap} {locs : List Loc} {ls : Array Slot} {a0 : Nat} {x1 : Int32} {x2 : Int32} {x3 : Int32} {x4 : Int32} (hR : Rp D dA A w H) (hS : va_S A s.heap H locs) (hl : lv_has ls 5 [(0, .ref a0), (1, .int x1), (2, .int x2), (3, .int x3), (4, .int x4)]) (h : fX7_isLone_b56 w K15 a0 x1 x2 x3 x4 = some res) : W p l e (rz 1 22) s m args below meth c H locs 0 0 (MQ below (QzI D dA A res w) args s 0 0 A) (F0 m 56 ls []) := by
  obtain ⟨hx, hb, hr, hml, hown, hts, hK, hlocks⟩ := id C
  unfold fX7_isLone_b56 at h
  refine lv_iinc (v := (x4 + 1)) (lv' := [(4, .int (x4 + 1)), (0, .ref a0), (1, .int x1), (2, .int x2), (3, .int x3)]) hx hb dX7_isLone_56 hl (k := 4) rfl rfl (by decide) rfl (fun ls hl => ?_)
  refine lv_goto (tgt := 15) hx hb dX7_isLone_59 (by decide) ?_
  exact hK15 hR hS (lv_sub hl [1, 2, 3, 4, 0] rfl) h
def fX7_isLone_L15 (w : Fw)  : Nat → Nat → Int32 → Int32 → Int32 → Int32 → Option (Int32)
  | 0, _, _, _, _, _ => none
  | n + 1, a0, x1, x2, x3, x4 => if x2 ≤ x4 then if x3 = 0 then (fX7_isLone_b71 w 1) else (fX7_isLone_b71 w 0) else ((isO w a0 7).bind fun _ => ((fX7_kind w a0 x1 x4).bind fun v5 => (if v5 = 3 then (fX7_isLone_b56 w (fX7_isLone_L15 w n) a0 x1 x2 (x3 + 1) x4) else ((isO w a0 7).bind fun _ => ((fX7_kind w a0 x1 x4).bind fun v6 => (if v6 = 4 then if x3 ≤ 0 then (fX7_isLone_b56 w (fX7_isLone_L15 w n) a0 x1 x2 x3 x4) else (fX7_isLone_b56 w (fX7_isLone_L15 w n) a0 x1 x2 (x3 + (-1)) x4) else (fX7_isLone_b56 w (fX7_isLone_L15 w n) a0 x1 x2 x3 x4)))))))
set_option maxRecDepth 100000 in
set_option maxHeartbeats 4000000 in
theorem qX7_isLone_L15 {p : Program} {l : Launch} {e : Env} {s : State} {m : MethodId} {args : Array Value} {below : List Frame} {meth : Method} {c : Code} {D : va_G} {dA : Nat → ClassId} {A : Nat → Prop} (C : Cx p s m args meth c D dA RX7 cX7_isLone 5 (some .boolean)) {w : Fw} {res : Int32}   : ∀ (n : Nat) {H : Heap} {locs : List Loc} {ls : Array Slot} {a0 : Nat} {x1 : Int32} {x2 : Int32} {x3 : Int32} {x4 : Int32}, Rp D dA A w H → va_S A s.heap H locs → lv_has ls 5 [(0, .ref a0), (1, .int x1), (2, .int x2), (3, .int x3), (4, .int x4)] → fX7_isLone_L15 w n a0 x1 x2 x3 x4 = some res → W p l e (rz 1 22) s m args below meth c H locs 0 0 (MQ below (QzI D dA A res w) args s 0 0 A) (F0 m 15 ls []) := by
  obtain ⟨hx, hb, hr, hml, hown, hts, hK, hlocks⟩ := id C
  intro n
  induction n with
  | zero =>
    intro H locs ls a0 x1 x2 x3 x4 hR hS hl h
    rw [fX7_isLone_L15.eq_1] at h
    cases h
  | succ n ih =>
    intro H locs ls a0 x1 x2 x3 x4 hR hS hl h
    rw [fX7_isLone_L15.eq_2] at h
    refine lv_iload hx hb dX7_isLone_15 (lv_at hl 4 rfl) ?_
    refine lv_iload_n hx hb dX7_isLone_17 rfl (lv_at hl 2 rfl) ?_
    refine lv_icmp_ge (tgt := 62) hx hb dX7_isLone_18 (by decide) (fun c => ?_) (fun c => ?_)
    · have h := it c h
      refine lv_iload_n hx hb dX7_isLone_62 rfl (lv_at hl 3 rfl) ?_
      refine lv_if_ne (tgt := 70) hx hb dX7_isLone_63 (by decide) (fun c => ?_) (fun c => ?_)
      · have h := ie c h
        refine lv_iconst (v := 0) hx hb dX7_isLone_70 (by decide) ?_
        exact qX7_isLone_b71 C   hR hS (lv_sub hl [] rfl) h
      · have h := it c h
        refine lv_iconst (v := 1) hx hb dX7_isLone_66 (by decide) ?_
        refine lv_goto (tgt := 71) hx hb dX7_isLone_67 (by decide) ?_
        exact qX7_isLone_b71 C   hR hS (lv_sub hl [] rfl) h
    · have h := ie c h
      refine lv_aload_n hx hb dX7_isLone_21 rfl (lv_at hl 0 rfl) ?_
      refine lv_iload_n hx hb dX7_isLone_22 rfl (lv_at hl 1 rfl) ?_
      refine lv_iload hx hb dX7_isLone_23 (lv_at hl 4 rfl) ?_
      obtain ⟨_, eO, h⟩ := bd h
      obtain ⟨v5, e, h⟩ := bd h
      refine fx_vI (As := [.int x1, .int x4]) (rest := []) hx hb hml hts hown hK hR hS eO (mX7_kind l D dA A e) my_X7_kind mv_X7_kind rfl ml_X7_84 rfl hl.1 rfl (Nat.le_of_ble_eq_true rfl) dX7_isLone_25 ⟨Nat.le_of_ble_eq_true rfl, Nat.le_of_ble_eq_true rfl⟩ ⟨Nat.le_refl _, Nat.le_refl _⟩ (fun H locs hR hS => ?_)
      refine lv_iconst (v := 3) hx hb dX7_isLone_28 (by decide) ?_
      refine lv_icmp_ne (tgt := 38) hx hb dX7_isLone_29 (by decide) (fun c => ?_) (fun c => ?_)
      · have h := ie c h
        refine lv_aload_n hx hb dX7_isLone_38 rfl (lv_at hl 0 rfl) ?_
        refine lv_iload_n hx hb dX7_isLone_39 rfl (lv_at hl 1 rfl) ?_
        refine lv_iload hx hb dX7_isLone_40 (lv_at hl 4 rfl) ?_
        obtain ⟨_, eO, h⟩ := bd h
        obtain ⟨v6, e, h⟩ := bd h
        refine fx_vI (As := [.int x1, .int x4]) (rest := []) hx hb hml hts hown hK hR hS eO (mX7_kind l D dA A e) my_X7_kind mv_X7_kind rfl ml_X7_84 rfl hl.1 rfl (Nat.le_of_ble_eq_true rfl) dX7_isLone_42 ⟨Nat.le_of_ble_eq_true rfl, Nat.le_of_ble_eq_true rfl⟩ ⟨Nat.le_refl _, Nat.le_refl _⟩ (fun H locs hR hS => ?_)
        refine lv_iconst (v := 4) hx hb dX7_isLone_45 (by decide) ?_
        refine lv_icmp_ne (tgt := 56) hx hb dX7_isLone_46 (by decide) (fun c => ?_) (fun c => ?_)
        · have h := ie c h
          exact qX7_isLone_b56 C (K15 := fX7_isLone_L15 w n) (hK15 := @ih) hR hS (lv_sub hl [0, 1, 2, 3, 4] rfl) h
        · have h := it c h
          refine lv_iload_n hx hb dX7_isLone_49 rfl (lv_at hl 3 rfl) ?_
          refine lv_if_le (tgt := 56) hx hb dX7_isLone_50 (by decide) (fun c => ?_) (fun c => ?_)
          · have h := it c h
            exact qX7_isLone_b56 C (K15 := fX7_isLone_L15 w n) (hK15 := @ih) hR hS (lv_sub hl [0, 1, 2, 3, 4] rfl) h
          · have h := ie c h
            refine lv_iinc (v := (x3 + (-1))) (lv' := [(3, .int (x3 + (-1))), (0, .ref a0), (1, .int x1), (2, .int x2), (4, .int x4)]) hx hb dX7_isLone_53 hl (k := 3) rfl rfl (by decide) rfl (fun ls hl => ?_)
            exact qX7_isLone_b56 C (K15 := fX7_isLone_L15 w n) (hK15 := @ih) hR hS (lv_sub hl [1, 2, 3, 0, 4] rfl) h
      · have h := it c h
        refine lv_iinc (v := (x3 + 1)) (lv' := [(3, .int (x3 + 1)), (0, .ref a0), (1, .int x1), (2, .int x2), (4, .int x4)]) hx hb dX7_isLone_32 hl (k := 3) rfl rfl (by decide) rfl (fun ls hl => ?_)
        refine lv_goto (tgt := 56) hx hb dX7_isLone_35 (by decide) ?_
        exact qX7_isLone_b56 C (K15 := fX7_isLone_L15 w n) (hK15 := @ih) hR hS (lv_sub hl [1, 2, 3, 0, 4] rfl) h
def fX7_isLone (w : Fw) (a0 : Nat) (x1 : Int32) (x2 : Int32) : Option (Int32) := ((isO w a0 7).bind fun _ => ((fX7_kind w a0 x1 x2).bind fun v7 => (if v7 = 4 then (fX7_isLone_L15 w 1000 a0 x1 x2 0 0) else (fX7_isLone_L75 w 1000 a0 x1 0 x2))))
set_option maxRecDepth 100000 in
set_option maxHeartbeats 4000000 in
theorem mX7_isLone (l : Launch) (D : va_G) (dA : Nat → ClassId) (A : Nat → Prop) {w : Fw} {a0 : Nat} {x1 : Int32} {x2 : Int32} {res : Int32} (h : fX7_isLone w a0 x1 x2 = some res) : Met l yX7_isLone (wz yX7_isLone cX7_isLone 5 (some .boolean)) (rz 1 22) (Pz D dA A w [.ref a0, .int x1, .int x2]) (QzI D dA A res w) 0 0 A := by
  refine Met.ofW (cc := cX7_isLone) (maxL := 5) (ret := (some .boolean)) (by decide) rfl ?_
  intro p e s m args below meth c s₁ B hml hv
  obtain ⟨rfl, hR, hK⟩ := hv
  have hx := B.exec
  have hb := B.bytes
  have hr := B.returns
  have hts : ∀ w ∈ lw_g, w.before [.ref a0, .int x1, .int x2].toArray s = true := fun w hw => atoms_spec (ws := wz yX7_isLone cX7_isLone 5 (some .boolean)) B.pre w (List.mem_cons_of_mem _ hw)
  have hown : s.vm.findClass RX7 = some m.cls := findClass_of_methodNamed B.named
  have hlocks := B.notSynchronized
  have C : Cx p s m [.ref a0, .int x1, .int x2].toArray meth c D dA RX7 cX7_isLone 5 (some .boolean) := ⟨hx, hb, hr, hml, hown, hts, hK, hlocks⟩
  have hS : va_S A s.heap s.heap [] := va_S.rf
  have hl := lv_entry ([.ref a0, .int x1, .int x2]) (n := 5) (Nat.le_of_ble_eq_true rfl)
  rw [lg_entry_eq]
  generalize (lg_sl ([.ref a0, .int x1, .int x2]) ++ List.replicate (5 - (lg_sl ([.ref a0, .int x1, .int x2])).length) Slot.unset).toArray = ls at hl ⊢
  have hl : lv_has ls 5 [(0, .ref a0), (1, .int x1), (2, .int x2)] := hl
  unfold fX7_isLone at h
  show W p l e (rz 1 22) s m _ below meth c s.heap [] 0 0 _ _
  refine lv_iconst (v := 0) hx hb dX7_isLone_0 (by decide) ?_
  refine lv_istore_n (lv' := [(3, .int 0), (0, .ref a0), (1, .int x1), (2, .int x2)]) hx hb dX7_isLone_1 rfl hl (by decide) rfl (fun ls hl => ?_)
  refine lv_aload_n hx hb dX7_isLone_2 rfl (lv_at hl 1 rfl) ?_
  refine lv_iload_n hx hb dX7_isLone_3 rfl (lv_at hl 2 rfl) ?_
  refine lv_iload_n hx hb dX7_isLone_4 rfl (lv_at hl 3 rfl) ?_
  obtain ⟨_, eO, h⟩ := bd h
  obtain ⟨v7, e, h⟩ := bd h
  refine fx_vI (As := [.int x1, .int x2]) (rest := []) hx hb hml hts hown hK hR hS eO (mX7_kind l D dA A e) my_X7_kind mv_X7_kind rfl ml_X7_84 rfl hl.1 rfl (Nat.le_of_ble_eq_true rfl) dX7_isLone_5 ⟨Nat.le_of_ble_eq_true rfl, Nat.le_of_ble_eq_true rfl⟩ ⟨Nat.le_refl _, Nat.le_refl _⟩ (fun H locs hR hS => ?_)
  refine lv_iconst (v := 4) hx hb dX7_isLone_8 (by decide) ?_
  refine lv_icmp_ne (tgt := 72) hx hb dX7_isLone_9 (by decide) (fun c => ?_) (fun c => ?_)
  · have h := ie c h
    refine lv_iload_n hx hb dX7_isLone_72 rfl (lv_at hl 3 rfl) ?_
    refine lv_istore (lv' := [(4, .int x2), (3, .int 0), (0, .ref a0), (1, .int x1), (2, .int x2)]) hx hb dX7_isLone_73 hl (by decide) rfl (fun ls hl => ?_)
    exact qX7_isLone_L75 C   1000 hR hS (lv_sub hl [2, 3, 1, 0] rfl) h
  · have h := it c h
    refine lv_iconst (v := 0) hx hb dX7_isLone_12 (by decide) ?_
    refine lv_istore (lv' := [(4, .int 0), (3, .int 0), (0, .ref a0), (1, .int x1), (2, .int x2)]) hx hb dX7_isLone_13 hl (by decide) rfl (fun ls hl => ?_)
    exact qX7_isLone_L15 C   1000 hR hS (lv_sub hl [2, 3, 4, 1, 0] rfl) h
def fX7_breaks_b145 (w : Fw)  (s0 : Int32) : Option (Int32) := some s0
set_option maxRecDepth 100000 in
set_option maxHeartbeats 4000000 in
theorem qX7_breaks_b145 {p : Program} {l : Launch} {e : Env} {s : State} {m : MethodId} {args : Array Value} {below : List Frame} {meth : Method} {c : Code} {D : va_G} {dA : Nat → ClassId} {A : Nat → Prop} (C : Cx p s m args meth c D dA RX7 cX7_breaks 4 (some .int)) {w : Fw} {res : Int32}   {H : Heap} {locs : List Loc} {ls : Array Slot} {s0 : Int32} (hR : Rp D dA A w H) (hS : va_S A s.heap H locs) (hl : lv_has ls 4 []) (h : fX7_breaks_b145 w s0 = some res) : W p l e (rz 3 70) s m args below meth c H locs 0 0 (MQ below (QzI D dA A res w) args s 0 0 A) (F0 m 145 ls [.int s0]) := by
  obtain ⟨hx, hb, hr, hml, hown, hts, hK, hlocks⟩ := id C
  unfold fX7_breaks_b145 at h
  exact fx_iret hx hb hr hlocks (Option.some.inj h) rfl hR hS dX7_breaks_145
def fX7_breaks_b140 (w : Fw)   : Option (Int32) := (fX7_breaks_b145 w 4)
set_option maxRecDepth 100000 in
set_option maxHeartbeats 4000000 in
theorem qX7_breaks_b140 {p : Program} {l : Launch} {e : Env} {s : State} {m : MethodId} {args : Array Value} {below : List Frame} {meth : Method} {c : Code} {D : va_G} {dA : Nat → ClassId} {A : Nat → Prop} (C : Cx p s m args meth c D dA RX7 cX7_breaks 4 (some .int)) {w : Fw} {res : Int32}   {H : Heap} {locs : List Loc} {ls : Array Slot}  (hR : Rp D dA A w H) (hS : va_S A s.heap H locs) (hl : lv_has ls 4 []) (h : fX7_breaks_b140 w = some res) : W p l e (rz 3 70) s m args below meth c H locs 0 0 (MQ below (QzI D dA A res w) args s 0 0 A) (F0 m 140 ls []) := by
  obtain ⟨hx, hb, hr, hml, hown, hts, hK, hlocks⟩ := id C
  unfold fX7_breaks_b140 at h
  refine lv_iconst (v := 4) hx hb dX7_breaks_140 (by decide) ?_
  refine lv_goto (tgt := 145) hx hb dX7_breaks_141 (by decide) ?_
  exact qX7_breaks_b145 C   hR hS (lv_sub hl [] rfl) h
def fX7_breaks_b114 (w : Fw)  (s0 : Int32) : Option (Int32) := some s0
set_option maxRecDepth 100000 in
set_option maxHeartbeats 4000000 in
theorem qX7_breaks_b114 {p : Program} {l : Launch} {e : Env} {s : State} {m : MethodId} {args : Array Value} {below : List Frame} {meth : Method} {c : Code} {D : va_G} {dA : Nat → ClassId} {A : Nat → Prop} (C : Cx p s m args meth c D dA RX7 cX7_breaks 4 (some .int)) {w : Fw} {res : Int32}   {H : Heap} {locs : List Loc} {ls : Array Slot} {s0 : Int32} (hR : Rp D dA A w H) (hS : va_S A s.heap H locs) (hl : lv_has ls 4 []) (h : fX7_breaks_b114 w s0 = some res) : W p l e (rz 3 70) s m args below meth c H locs 0 0 (MQ below (QzI D dA A res w) args s 0 0 A) (F0 m 114 ls [.int s0]) := by
  obtain ⟨hx, hb, hr, hml, hown, hts, hK, hlocks⟩ := id C
  unfold fX7_breaks_b114 at h
  exact fx_iret hx hb hr hlocks (Option.some.inj h) rfl hR hS dX7_breaks_114
def fX7_breaks_b99 (w : Fw)  (s0 : Int32) : Option (Int32) := some s0
set_option maxRecDepth 100000 in
set_option maxHeartbeats 4000000 in
theorem qX7_breaks_b99 {p : Program} {l : Launch} {e : Env} {s : State} {m : MethodId} {args : Array Value} {below : List Frame} {meth : Method} {c : Code} {D : va_G} {dA : Nat → ClassId} {A : Nat → Prop} (C : Cx p s m args meth c D dA RX7 cX7_breaks 4 (some .int)) {w : Fw} {res : Int32}   {H : Heap} {locs : List Loc} {ls : Array Slot} {s0 : Int32} (hR : Rp D dA A w H) (hS : va_S A s.heap H locs) (hl : lv_has ls 4 []) (h : fX7_breaks_b99 w s0 = some res) : W p l e (rz 3 70) s m args below meth c H locs 0 0 (MQ below (QzI D dA A res w) args s 0 0 A) (F0 m 99 ls [.int s0]) := by
  obtain ⟨hx, hb, hr, hml, hown, hts, hK, hlocks⟩ := id C
  unfold fX7_breaks_b99 at h
  exact fx_iret hx hb hr hlocks (Option.some.inj h) rfl hR hS dX7_breaks_99
def fX7_breaks_b84 (w : Fw)  (s0 : Int32) : Option (Int32) := some s0
set_option maxRecDepth 100000 in
set_option maxHeartbeats 4000000 in
theorem qX7_breaks_b84 {p : Program} {l : Launch} {e : Env} {s : State} {m : MethodId} {args : Array Value} {below : List Frame} {meth : Method} {c : Code} {D : va_G} {dA : Nat → ClassId} {A : Nat → Prop} (C : Cx p s m args meth c D dA RX7 cX7_breaks 4 (some .int)) {w : Fw} {res : Int32}   {H : Heap} {locs : List Loc} {ls : Array Slot} {s0 : Int32} (hR : Rp D dA A w H) (hS : va_S A s.heap H locs) (hl : lv_has ls 4 []) (h : fX7_breaks_b84 w s0 = some res) : W p l e (rz 3 70) s m args below meth c H locs 0 0 (MQ below (QzI D dA A res w) args s 0 0 A) (F0 m 84 ls [.int s0]) := by
  obtain ⟨hx, hb, hr, hml, hown, hts, hK, hlocks⟩ := id C
  unfold fX7_breaks_b84 at h
  exact fx_iret hx hb hr hlocks (Option.some.inj h) rfl hR hS dX7_breaks_84
def fX7_breaks_b69 (w : Fw)  (s0 : Int32) : Option (Int32) := some s0
set_option maxRecDepth 100000 in
set_option maxHeartbeats 4000000 in
theorem qX7_breaks_b69 {p : Program} {l : Launch} {e : Env} {s : State} {m : MethodId} {args : Array Value} {below : List Frame} {meth : Method} {c : Code} {D : va_G} {dA : Nat → ClassId} {A : Nat → Prop} (C : Cx p s m args meth c D dA RX7 cX7_breaks 4 (some .int)) {w : Fw} {res : Int32}   {H : Heap} {locs : List Loc} {ls : Array Slot} {s0 : Int32} (hR : Rp D dA A w H) (hS : va_S A s.heap H locs) (hl : lv_has ls 4 []) (h : fX7_breaks_b69 w s0 = some res) : W p l e (rz 3 70) s m args below meth c H locs 0 0 (MQ below (QzI D dA A res w) args s 0 0 A) (F0 m 69 ls [.int s0]) := by
  obtain ⟨hx, hb, hr, hml, hown, hts, hK, hlocks⟩ := id C
  unfold fX7_breaks_b69 at h
  exact fx_iret hx hb hr hlocks (Option.some.inj h) rfl hR hS dX7_breaks_69
def fX7_breaks (w : Fw) (a0 : Nat) (x1 : Int32) (x2 : Int32) : Option (Int32) := ((isO w a0 7).bind fun _ => ((fX7_number w a0 x1 x2).bind fun v1 => ((isO w a0 7).bind fun _ => ((fX7_kind w a0 x1 x2).bind fun v2 => (if v2 = 0 then ((gI w a0 7 6).bind fun v3 => (if ((v3 >>> (v1 &&& 31)) &&& 1) = 1 then (fX7_breaks_b69 w 3) else (fX7_breaks_b69 w (-1)))) else (if v2 = 1 then ((isO w a0 7).bind fun _ => ((fX7_isSecond w a0 x1 x2).bind fun v4 => (if v4 = 0 then (fX7_breaks_b84 w (-1)) else (fX7_breaks_b84 w 1)))) else (if v2 = 2 then ((isO w a0 7).bind fun _ => ((fX7_isThere w a0 x1 v1).bind fun v5 => (if v5 = 0 then (fX7_breaks_b99 w 0) else (fX7_breaks_b99 w (-1))))) else (if v2 = 3 then ((isO w a0 7).bind fun _ => ((fX7_isLone w a0 x1 x2).bind fun v6 => (if v6 = 0 then (fX7_breaks_b114 w (-1)) else (fX7_breaks_b114 w 2)))) else (if v2 = 4 then ((isO w a0 7).bind fun _ => ((fX7_isLone w a0 x1 x2).bind fun v7 => (if v7 = 0 then (fX7_breaks_b114 w (-1)) else (fX7_breaks_b114 w 2)))) else (if v2 = 5 then if (v1 - v1 / 6 * 6) = x1 then (fX7_breaks_b140 w) else ((isO w a0 7).bind fun _ => ((fX7_defs w a0 (v1 - v1 / 6 * 6)).bind fun v8 => ((isO w a0 7).bind fun _ => ((fX7_uses w a0 x1).bind fun v9 => (if (v8 &&& v9) = 0 then (fX7_breaks_b140 w) else (fX7_breaks_b145 w (-1))))))) else some ((-1) : Int32)))))))))))
set_option maxRecDepth 100000 in
set_option maxHeartbeats 4000000 in
theorem mX7_breaks (l : Launch) (D : va_G) (dA : Nat → ClassId) (A : Nat → Prop) {w : Fw} {a0 : Nat} {x1 : Int32} {x2 : Int32} {res : Int32} (h : fX7_breaks w a0 x1 x2 = some res) : Met l yX7_breaks (wz yX7_breaks cX7_breaks 4 (some .int)) (rz 3 70) (Pz D dA A w [.ref a0, .int x1, .int x2]) (QzI D dA A res w) 0 0 A := by
  refine Met.ofW (cc := cX7_breaks) (maxL := 4) (ret := (some .int)) (by decide) rfl ?_
  intro p e s m args below meth c s₁ B hml hv
  obtain ⟨rfl, hR, hK⟩ := hv
  have hx := B.exec
  have hb := B.bytes
  have hr := B.returns
  have hts : ∀ w ∈ lw_g, w.before [.ref a0, .int x1, .int x2].toArray s = true := fun w hw => atoms_spec (ws := wz yX7_breaks cX7_breaks 4 (some .int)) B.pre w (List.mem_cons_of_mem _ hw)
  have hown : s.vm.findClass RX7 = some m.cls := findClass_of_methodNamed B.named
  have hlocks := B.notSynchronized
  have C : Cx p s m [.ref a0, .int x1, .int x2].toArray meth c D dA RX7 cX7_breaks 4 (some .int) := ⟨hx, hb, hr, hml, hown, hts, hK, hlocks⟩
  have hS : va_S A s.heap s.heap [] := va_S.rf
  have hl := lv_entry ([.ref a0, .int x1, .int x2]) (n := 4) (Nat.le_of_ble_eq_true rfl)
  rw [lg_entry_eq]
  generalize (lg_sl ([.ref a0, .int x1, .int x2]) ++ List.replicate (4 - (lg_sl ([.ref a0, .int x1, .int x2])).length) Slot.unset).toArray = ls at hl ⊢
  have hl : lv_has ls 4 [(0, .ref a0), (1, .int x1), (2, .int x2)] := hl
  unfold fX7_breaks at h
  show W p l e (rz 3 70) s m _ below meth c s.heap [] 0 0 _ _
  refine lv_aload_n hx hb dX7_breaks_0 rfl (lv_at hl 0 rfl) ?_
  refine lv_iload_n hx hb dX7_breaks_1 rfl (lv_at hl 1 rfl) ?_
  refine lv_iload_n hx hb dX7_breaks_2 rfl (lv_at hl 2 rfl) ?_
  obtain ⟨_, eO, h⟩ := bd h
  obtain ⟨v1, e, h⟩ := bd h
  refine fx_vI (As := [.int x1, .int x2]) (rest := []) hx hb hml hts hown hK hR hS eO (mX7_number l D dA A e) my_X7_number mv_X7_number rfl ml_X7_88 rfl hl.1 rfl (Nat.le_of_ble_eq_true rfl) dX7_breaks_3 ⟨Nat.le_of_ble_eq_true rfl, Nat.le_of_ble_eq_true rfl⟩ ⟨Nat.le_refl _, Nat.le_refl _⟩ (fun H locs hR hS => ?_)
  refine lv_istore_n (lv' := [(3, .int v1), (0, .ref a0), (1, .int x1), (2, .int x2)]) hx hb dX7_breaks_6 rfl hl (by decide) rfl (fun ls hl => ?_)
  refine lv_aload_n hx hb dX7_breaks_7 rfl (lv_at hl 1 rfl) ?_
  refine lv_iload_n hx hb dX7_breaks_8 rfl (lv_at hl 2 rfl) ?_
  refine lv_iload_n hx hb dX7_breaks_9 rfl (lv_at hl 3 rfl) ?_
  obtain ⟨_, eO, h⟩ := bd h
  obtain ⟨v2, e, h⟩ := bd h
  refine fx_vI (As := [.int x1, .int x2]) (rest := []) hx hb hml hts hown hK hR hS eO (mX7_kind l D dA A e) my_X7_kind mv_X7_kind rfl ml_X7_84 rfl hl.1 rfl (Nat.le_of_ble_eq_true rfl) dX7_breaks_10 ⟨Nat.le_of_ble_eq_true rfl, Nat.le_of_ble_eq_true rfl⟩ ⟨Nat.le_refl _, Nat.le_refl _⟩ (fun H locs hR hS => ?_)
  by_cases c0 : v2 = 0
  · have h := it c0 h
    refine lv_tableIn (off := 39) (tgt := 52) hx hb dX7_breaks_13 (by rw [c0]; decide) (by rw [c0]; decide) (by rw [c0]; decide) (by decide) ?_
    refine lv_aload_n hx hb dX7_breaks_52 rfl (lv_at hl 1 rfl) ?_
    obtain ⟨v3, e, h⟩ := bd h
    refine fx_gI hx hb hts hown hK hR fl_X7_99 e dX7_breaks_53 ?_
    refine lv_iload_n hx hb dX7_breaks_56 rfl (lv_at hl 0 rfl) ?_
    refine lv_ishr hx hb dX7_breaks_57 ?_
    refine lv_iconst (v := 1) hx hb dX7_breaks_58 (by decide) ?_
    refine lv_iand hx hb dX7_breaks_59 ?_
    refine lv_iconst (v := 1) hx hb dX7_breaks_60 (by decide) ?_
    refine lv_icmp_ne (tgt := 68) hx hb dX7_breaks_61 (by decide) (fun c => ?_) (fun c => ?_)
    · have h := ie c h
      refine lv_iconst (v := (-1)) hx hb dX7_breaks_68 (by decide) ?_
      exact qX7_breaks_b69 C   hR hS (lv_sub hl [] rfl) h
    · have h := it c h
      refine lv_iconst (v := 3) hx hb dX7_breaks_64 (by decide) ?_
      refine lv_goto (tgt := 69) hx hb dX7_breaks_65 (by decide) ?_
      exact qX7_breaks_b69 C   hR hS (lv_sub hl [] rfl) h
  have h := ie c0 h
  by_cases c1 : v2 = 1
  · have h := it c1 h
    refine lv_tableIn (off := 57) (tgt := 70) hx hb dX7_breaks_13 (by rw [c1]; decide) (by rw [c1]; decide) (by rw [c1]; decide) (by decide) ?_
    refine lv_aload_n hx hb dX7_breaks_70 rfl (lv_at hl 1 rfl) ?_
    refine lv_iload_n hx hb dX7_breaks_71 rfl (lv_at hl 2 rfl) ?_
    refine lv_iload_n hx hb dX7_breaks_72 rfl (lv_at hl 3 rfl) ?_
    obtain ⟨_, eO, h⟩ := bd h
    obtain ⟨v4, e, h⟩ := bd h
    refine fx_vI (As := [.int x1, .int x2]) (rest := []) hx hb hml hts hown hK hR hS eO (mX7_isSecond l D dA A e) my_X7_isSecond mv_X7_isSecond rfl ml_X7_103 rfl hl.1 rfl (Nat.le_of_ble_eq_true rfl) dX7_breaks_73 ⟨Nat.le_of_ble_eq_true rfl, Nat.le_of_ble_eq_true rfl⟩ ⟨Nat.le_refl _, Nat.le_refl _⟩ (fun H locs hR hS => ?_)
    refine lv_if_eq (tgt := 83) hx hb dX7_breaks_76 (by decide) (fun c => ?_) (fun c => ?_)
    · have h := it c h
      refine lv_iconst (v := (-1)) hx hb dX7_breaks_83 (by decide) ?_
      exact qX7_breaks_b84 C   hR hS (lv_sub hl [] rfl) h
    · have h := ie c h
      refine lv_iconst (v := 1) hx hb dX7_breaks_79 (by decide) ?_
      refine lv_goto (tgt := 84) hx hb dX7_breaks_80 (by decide) ?_
      exact qX7_breaks_b84 C   hR hS (lv_sub hl [] rfl) h
  have h := ie c1 h
  by_cases c2 : v2 = 2
  · have h := it c2 h
    refine lv_tableIn (off := 72) (tgt := 85) hx hb dX7_breaks_13 (by rw [c2]; decide) (by rw [c2]; decide) (by rw [c2]; decide) (by decide) ?_
    refine lv_aload_n hx hb dX7_breaks_85 rfl (lv_at hl 1 rfl) ?_
    refine lv_iload_n hx hb dX7_breaks_86 rfl (lv_at hl 2 rfl) ?_
    refine lv_iload_n hx hb dX7_breaks_87 rfl (lv_at hl 0 rfl) ?_
    obtain ⟨_, eO, h⟩ := bd h
    obtain ⟨v5, e, h⟩ := bd h
    refine fx_vI (As := [.int x1, .int v1]) (rest := []) hx hb hml hts hown hK hR hS eO (mX7_isThere l D dA A e) my_X7_isThere mv_X7_isThere rfl ml_X7_106 rfl hl.1 rfl (Nat.le_of_ble_eq_true rfl) dX7_breaks_88 ⟨Nat.le_of_ble_eq_true rfl, Nat.le_of_ble_eq_true rfl⟩ ⟨Nat.le_refl _, Nat.le_refl _⟩ (fun H locs hR hS => ?_)
    refine lv_if_eq (tgt := 98) hx hb dX7_breaks_91 (by decide) (fun c => ?_) (fun c => ?_)
    · have h := it c h
      refine lv_iconst (v := 0) hx hb dX7_breaks_98 (by decide) ?_
      exact qX7_breaks_b99 C   hR hS (lv_sub hl [] rfl) h
    · have h := ie c h
      refine lv_iconst (v := (-1)) hx hb dX7_breaks_94 (by decide) ?_
      refine lv_goto (tgt := 99) hx hb dX7_breaks_95 (by decide) ?_
      exact qX7_breaks_b99 C   hR hS (lv_sub hl [] rfl) h
  have h := ie c2 h
  by_cases c3 : v2 = 3
  · have h := it c3 h
    refine lv_tableIn (off := 87) (tgt := 100) hx hb dX7_breaks_13 (by rw [c3]; decide) (by rw [c3]; decide) (by rw [c3]; decide) (by decide) ?_
    refine lv_aload_n hx hb dX7_breaks_100 rfl (lv_at hl 1 rfl) ?_
    refine lv_iload_n hx hb dX7_breaks_101 rfl (lv_at hl 2 rfl) ?_
    refine lv_iload_n hx hb dX7_breaks_102 rfl (lv_at hl 3 rfl) ?_
    obtain ⟨_, eO, h⟩ := bd h
    obtain ⟨v6, e, h⟩ := bd h
    refine fx_vI (As := [.int x1, .int x2]) (rest := []) hx hb hml hts hown hK hR hS eO (mX7_isLone l D dA A e) my_X7_isLone mv_X7_isLone rfl ml_X7_109 rfl hl.1 rfl (Nat.le_of_ble_eq_true rfl) dX7_breaks_103 ⟨Nat.le_of_ble_eq_true rfl, Nat.le_of_ble_eq_true rfl⟩ ⟨Nat.le_refl _, Nat.le_refl _⟩ (fun H locs hR hS => ?_)
    refine lv_if_eq (tgt := 113) hx hb dX7_breaks_106 (by decide) (fun c => ?_) (fun c => ?_)
    · have h := it c h
      refine lv_iconst (v := (-1)) hx hb dX7_breaks_113 (by decide) ?_
      exact qX7_breaks_b114 C   hR hS (lv_sub hl [] rfl) h
    · have h := ie c h
      refine lv_iconst (v := 2) hx hb dX7_breaks_109 (by decide) ?_
      refine lv_goto (tgt := 114) hx hb dX7_breaks_110 (by decide) ?_
      exact qX7_breaks_b114 C   hR hS (lv_sub hl [] rfl) h
  have h := ie c3 h
  by_cases c4 : v2 = 4
  · have h := it c4 h
    refine lv_tableIn (off := 87) (tgt := 100) hx hb dX7_breaks_13 (by rw [c4]; decide) (by rw [c4]; decide) (by rw [c4]; decide) (by decide) ?_
    refine lv_aload_n hx hb dX7_breaks_100 rfl (lv_at hl 1 rfl) ?_
    refine lv_iload_n hx hb dX7_breaks_101 rfl (lv_at hl 2 rfl) ?_
    refine lv_iload_n hx hb dX7_breaks_102 rfl (lv_at hl 3 rfl) ?_
    obtain ⟨_, eO, h⟩ := bd h
    obtain ⟨v7, e, h⟩ := bd h
    refine fx_vI (As := [.int x1, .int x2]) (rest := []) hx hb hml hts hown hK hR hS eO (mX7_isLone l D dA A e) my_X7_isLone mv_X7_isLone rfl ml_X7_109 rfl hl.1 rfl (Nat.le_of_ble_eq_true rfl) dX7_breaks_103 ⟨Nat.le_of_ble_eq_true rfl, Nat.le_of_ble_eq_true rfl⟩ ⟨Nat.le_refl _, Nat.le_refl _⟩ (fun H locs hR hS => ?_)
    refine lv_if_eq (tgt := 113) hx hb dX7_breaks_106 (by decide) (fun c => ?_) (fun c => ?_)
    · have h := it c h
      refine lv_iconst (v := (-1)) hx hb dX7_breaks_113 (by decide) ?_
      exact qX7_breaks_b114 C   hR hS (lv_sub hl [] rfl) h
    · have h := ie c h
      refine lv_iconst (v := 2) hx hb dX7_breaks_109 (by decide) ?_
      refine lv_goto (tgt := 114) hx hb dX7_breaks_110 (by decide) ?_
      exact qX7_breaks_b114 C   hR hS (lv_sub hl [] rfl) h
  have h := ie c4 h
  by_cases c5 : v2 = 5
  · have h := it c5 h
    refine lv_tableIn (off := 102) (tgt := 115) hx hb dX7_breaks_13 (by rw [c5]; decide) (by rw [c5]; decide) (by rw [c5]; decide) (by decide) ?_
    refine lv_iload_n hx hb dX7_breaks_115 rfl (lv_at hl 0 rfl) ?_
    refine lv_bipush (v := 6) hx hb dX7_breaks_116 (by decide) ?_
    refine lv_irem hx hb dX7_breaks_118 (by decide) ?_
    refine lv_iload_n hx hb dX7_breaks_119 rfl (lv_at hl 2 rfl) ?_
    refine lv_icmp_eq (tgt := 140) hx hb dX7_breaks_120 (by decide) (fun c => ?_) (fun c => ?_)
    · have h := it c h
      exact qX7_breaks_b140 C   hR hS (lv_sub hl [] rfl) h
    · have h := ie c h
      refine lv_aload_n hx hb dX7_breaks_123 rfl (lv_at hl 1 rfl) ?_
      refine lv_iload_n hx hb dX7_breaks_124 rfl (lv_at hl 0 rfl) ?_
      refine lv_bipush (v := 6) hx hb dX7_breaks_125 (by decide) ?_
      refine lv_irem hx hb dX7_breaks_127 (by decide) ?_
      obtain ⟨_, eO, h⟩ := bd h
      obtain ⟨v8, e, h⟩ := bd h
      refine fx_vI (As := [.int (v1 - v1 / 6 * 6)]) (rest := []) hx hb hml hts hown hK hR hS eO (mX7_defs l D dA A e) my_X7_defs mv_X7_defs rfl ml_X7_91 rfl hl.1 rfl (Nat.le_of_ble_eq_true rfl) dX7_breaks_128 ⟨Nat.le_of_ble_eq_true rfl, Nat.le_of_ble_eq_true rfl⟩ ⟨Nat.le_refl _, Nat.le_refl _⟩ (fun H locs hR hS => ?_)
      refine lv_aload_n hx hb dX7_breaks_131 rfl (lv_at hl 1 rfl) ?_
      refine lv_iload_n hx hb dX7_breaks_132 rfl (lv_at hl 2 rfl) ?_
      obtain ⟨_, eO, h⟩ := bd h
      obtain ⟨v9, e, h⟩ := bd h
      refine fx_vI (As := [.int x1]) (rest := [.int v8]) hx hb hml hts hown hK hR hS eO (mX7_uses l D dA A e) my_X7_uses mv_X7_uses rfl ml_X7_112 rfl hl.1 rfl (Nat.le_of_ble_eq_true rfl) dX7_breaks_133 ⟨Nat.le_of_ble_eq_true rfl, Nat.le_of_ble_eq_true rfl⟩ ⟨Nat.le_refl _, Nat.le_refl _⟩ (fun H locs hR hS => ?_)
      refine lv_iand hx hb dX7_breaks_136 ?_
      refine lv_if_ne (tgt := 144) hx hb dX7_breaks_137 (by decide) (fun c => ?_) (fun c => ?_)
      · have h := ie c h
        refine lv_iconst (v := (-1)) hx hb dX7_breaks_144 (by decide) ?_
        exact qX7_breaks_b145 C   hR hS (lv_sub hl [] rfl) h
      · have h := it c h
        exact qX7_breaks_b140 C   hR hS (lv_sub hl [] rfl) h
  have h := ie c5 h
  have nc0 := fz_ne 0 0 (by decide) c0
  have nc1 := fz_ne 1 1 (by decide) c1
  have nc2 := fz_ne 2 2 (by decide) c2
  have nc3 := fz_ne 3 3 (by decide) c3
  have nc4 := fz_ne 4 4 (by decide) c4
  have nc5 := fz_ne 5 5 (by decide) c5
  refine lv_tableOut (tgt := 146) hx hb dX7_breaks_13 (by omega) (by decide) ?_
  refine lv_iconst (v := (-1)) hx hb dX7_breaks_146 (by decide) ?_
  exact fx_iret hx hb hr hlocks (Option.some.inj h) rfl hR hS dX7_breaks_147
def fX7_begins_L20  : Nat → Fw → Nat → Int32 → Option (Fw)
  | 0, _, _, _ => none
  | n + 1, w, a0, x1 => ((gI w a0 7 8).bind fun v1 => (if v1 ≤ x1 then some w else ((gR w a0 7 17).bind fun r2 => ((gR w a0 7 10).bind fun r3 => ((lI w r3 x1).bind fun v4 => ((sI w r2 x1 v4).bind fun w5 => ((gR w5 a0 7 18).bind fun r6 => ((gR w5 a0 7 13).bind fun r7 => ((lI w5 r7 x1).bind fun v8 => ((sI w5 r6 x1 v8).bind fun w9 => ((gR w9 a0 7 19).bind fun r10 => ((gR w9 a0 7 14).bind fun r11 => ((lI w9 r11 x1).bind fun v12 => ((sI w9 r10 x1 v12).bind fun w13 => ((gR w13 a0 7 20).bind fun r14 => ((gR w13 a0 7 15).bind fun r15 => ((lI w13 r15 x1).bind fun v16 => ((sI w13 r14 x1 v16).bind fun w17 => ((gR w17 a0 7 21).bind fun r18 => ((gR w17 a0 7 16).bind fun r19 => ((lI w17 r19 x1).bind fun v20 => ((sI w17 r18 x1 v20).bind fun w21 => (fX7_begins_L20  n w21 a0 (x1 + 1))))))))))))))))))))))))
set_option maxRecDepth 100000 in
set_option maxHeartbeats 4000000 in
theorem qX7_begins_L20 {p : Program} {l : Launch} {e : Env} {s : State} {m : MethodId} {args : Array Value} {below : List Frame} {meth : Method} {c : Code} {D : va_G} {dA : Nat → ClassId} {A : Nat → Prop} (C : Cx p s m args meth c D dA RX7 cX7_begins 2 none) {res : Fw}   : ∀ (n : Nat) {w : Fw} {H : Heap} {locs : List Loc} {ls : Array Slot} {a0 : Nat} {x1 : Int32}, Rp D dA A w H → va_S A s.heap H locs → lv_has ls 2 [(0, .ref a0), (1, .int x1)] → fX7_begins_L20 n w a0 x1 = some res → W p l e (rz 0 0) s m args below meth c H locs 0 0 (MQ below (QzV D dA A res) args s 0 0 A) (F0 m 20 ls []) := by
  obtain ⟨hx, hb, hr, hml, hown, hts, hK, hlocks⟩ := id C
  intro n
  induction n with
  | zero =>
    intro w H locs ls a0 x1 hR hS hl h
    rw [fX7_begins_L20.eq_1] at h
    cases h
  | succ n ih =>
    intro w H locs ls a0 x1 hR hS hl h
    rw [fX7_begins_L20.eq_2] at h
    refine lv_iload_n hx hb dX7_begins_20 rfl (lv_at hl 1 rfl) ?_
    refine lv_aload_n hx hb dX7_begins_21 rfl (lv_at hl 0 rfl) ?_
    obtain ⟨v1, e, h⟩ := bd h
    refine fx_gI hx hb hts hown hK hR fl_X7_118 e dX7_begins_22 ?_
    refine lv_icmp_ge (tgt := 94) hx hb dX7_begins_25 (by decide) (fun c => ?_) (fun c => ?_)
    · have h := it c h
      exact fx_vret hx hb hr hlocks (Option.some.inj h) hR hS dX7_begins_94
    · have h := ie c h
      refine lv_aload_n hx hb dX7_begins_28 rfl (lv_at hl 0 rfl) ?_
      obtain ⟨r2, e, h⟩ := bd h
      refine fx_gR hx hb hts hown hK hR fl_X7_40 e dX7_begins_29 ?_
      refine lv_iload_n hx hb dX7_begins_32 rfl (lv_at hl 1 rfl) ?_
      refine lv_aload_n hx hb dX7_begins_33 rfl (lv_at hl 0 rfl) ?_
      obtain ⟨r3, e, h⟩ := bd h
      refine fx_gR hx hb hts hown hK hR fl_X7_19 e dX7_begins_34 ?_
      refine lv_iload_n hx hb dX7_begins_37 rfl (lv_at hl 1 rfl) ?_
      obtain ⟨v4, e, h⟩ := bd h
      refine fx_lI hx hb hK hR e dX7_begins_38 ?_
      obtain ⟨w5, e, h⟩ := bd h
      refine fx_sI hx hb hK hR hS e dX7_begins_39 (fun H locs hR hS => ?_)
      refine lv_aload_n hx hb dX7_begins_40 rfl (lv_at hl 0 rfl) ?_
      obtain ⟨r6, e, h⟩ := bd h
      refine fx_gR hx hb hts hown hK hR fl_X7_43 e dX7_begins_41 ?_
      refine lv_iload_n hx hb dX7_begins_44 rfl (lv_at hl 1 rfl) ?_
      refine lv_aload_n hx hb dX7_begins_45 rfl (lv_at hl 0 rfl) ?_
      obtain ⟨r7, e, h⟩ := bd h
      refine fx_gR hx hb hts hown hK hR fl_X7_28 e dX7_begins_46 ?_
      refine lv_iload_n hx hb dX7_begins_49 rfl (lv_at hl 1 rfl) ?_
      obtain ⟨v8, e, h⟩ := bd h
      refine fx_lI hx hb hK hR e dX7_begins_50 ?_
      obtain ⟨w9, e, h⟩ := bd h
      refine fx_sI hx hb hK hR hS e dX7_begins_51 (fun H locs hR hS => ?_)
      refine lv_aload_n hx hb dX7_begins_52 rfl (lv_at hl 0 rfl) ?_
      obtain ⟨r10, e, h⟩ := bd h
      refine fx_gR hx hb hts hown hK hR fl_X7_46 e dX7_begins_53 ?_
      refine lv_iload_n hx hb dX7_begins_56 rfl (lv_at hl 1 rfl) ?_
      refine lv_aload_n hx hb dX7_begins_57 rfl (lv_at hl 0 rfl) ?_
      obtain ⟨r11, e, h⟩ := bd h
      refine fx_gR hx hb hts hown hK hR fl_X7_31 e dX7_begins_58 ?_
      refine lv_iload_n hx hb dX7_begins_61 rfl (lv_at hl 1 rfl) ?_
      obtain ⟨v12, e, h⟩ := bd h
      refine fx_lI hx hb hK hR e dX7_begins_62 ?_
      obtain ⟨w13, e, h⟩ := bd h
      refine fx_sI hx hb hK hR hS e dX7_begins_63 (fun H locs hR hS => ?_)
      refine lv_aload_n hx hb dX7_begins_64 rfl (lv_at hl 0 rfl) ?_
      obtain ⟨r14, e, h⟩ := bd h
      refine fx_gR hx hb hts hown hK hR fl_X7_49 e dX7_begins_65 ?_
      refine lv_iload_n hx hb dX7_begins_68 rfl (lv_at hl 1 rfl) ?_
      refine lv_aload_n hx hb dX7_begins_69 rfl (lv_at hl 0 rfl) ?_
      obtain ⟨r15, e, h⟩ := bd h
      refine fx_gR hx hb hts hown hK hR fl_X7_34 e dX7_begins_70 ?_
      refine lv_iload_n hx hb dX7_begins_73 rfl (lv_at hl 1 rfl) ?_
      obtain ⟨v16, e, h⟩ := bd h
      refine fx_lI hx hb hK hR e dX7_begins_74 ?_
      obtain ⟨w17, e, h⟩ := bd h
      refine fx_sI hx hb hK hR hS e dX7_begins_75 (fun H locs hR hS => ?_)
      refine lv_aload_n hx hb dX7_begins_76 rfl (lv_at hl 0 rfl) ?_
      obtain ⟨r18, e, h⟩ := bd h
      refine fx_gR hx hb hts hown hK hR fl_X7_52 e dX7_begins_77 ?_
      refine lv_iload_n hx hb dX7_begins_80 rfl (lv_at hl 1 rfl) ?_
      refine lv_aload_n hx hb dX7_begins_81 rfl (lv_at hl 0 rfl) ?_
      obtain ⟨r19, e, h⟩ := bd h
      refine fx_gR hx hb hts hown hK hR fl_X7_37 e dX7_begins_82 ?_
      refine lv_iload_n hx hb dX7_begins_85 rfl (lv_at hl 1 rfl) ?_
      obtain ⟨v20, e, h⟩ := bd h
      refine fx_lI hx hb hK hR e dX7_begins_86 ?_
      obtain ⟨w21, e, h⟩ := bd h
      refine fx_sI hx hb hK hR hS e dX7_begins_87 (fun H locs hR hS => ?_)
      refine lv_iinc (v := (x1 + 1)) (lv' := [(1, .int (x1 + 1)), (0, .ref a0)]) hx hb dX7_begins_88 hl (k := 1) rfl rfl (by decide) rfl (fun ls hl => ?_)
      refine lv_goto (tgt := 20) hx hb dX7_begins_91 (by decide) ?_
      exact ih hR hS (lv_sub hl [1, 0] rfl) h
def fX7_begins (w : Fw) (a0 : Nat) : Option (Fw) := ((gI w a0 7 3).bind fun v22 => ((pF w a0 7 3 (.int (v22 + 1))).bind fun w23 => ((gI w23 a0 7 8).bind fun v24 => ((pF w23 a0 7 9 (.int v24)).bind fun w25 => (fX7_begins_L20 1000 w25 a0 0)))))
set_option maxRecDepth 100000 in
set_option maxHeartbeats 4000000 in
theorem mX7_begins (l : Launch) (D : va_G) (dA : Nat → ClassId) (A : Nat → Prop) {w : Fw} {a0 : Nat} {res : Fw} (h : fX7_begins w a0 = some res) : Met l yX7_begins (wz yX7_begins cX7_begins 2 none) (rz 0 0) (Pz D dA A w [.ref a0]) (QzV D dA A res) 0 0 A := by
  refine Met.ofW (cc := cX7_begins) (maxL := 2) (ret := none) (by decide) rfl ?_
  intro p e s m args below meth c s₁ B hml hv
  obtain ⟨rfl, hR, hK⟩ := hv
  have hx := B.exec
  have hb := B.bytes
  have hr := B.returns
  have hts : ∀ w ∈ lw_g, w.before [.ref a0].toArray s = true := fun w hw => atoms_spec (ws := wz yX7_begins cX7_begins 2 none) B.pre w (List.mem_cons_of_mem _ hw)
  have hown : s.vm.findClass RX7 = some m.cls := findClass_of_methodNamed B.named
  have hlocks := B.notSynchronized
  have C : Cx p s m [.ref a0].toArray meth c D dA RX7 cX7_begins 2 none := ⟨hx, hb, hr, hml, hown, hts, hK, hlocks⟩
  have hS : va_S A s.heap s.heap [] := va_S.rf
  have hl := lv_entry ([.ref a0]) (n := 2) (Nat.le_of_ble_eq_true rfl)
  rw [lg_entry_eq]
  generalize (lg_sl ([.ref a0]) ++ List.replicate (2 - (lg_sl ([.ref a0])).length) Slot.unset).toArray = ls at hl ⊢
  have hl : lv_has ls 2 [(0, .ref a0)] := hl
  unfold fX7_begins at h
  show W p l e (rz 0 0) s m _ below meth c s.heap [] 0 0 _ _
  refine lv_aload_n hx hb dX7_begins_0 rfl (lv_at hl 0 rfl) ?_
  refine lv_dup hx hb dX7_begins_1 rfl ?_
  obtain ⟨v22, e, h⟩ := bd h
  refine fx_gI hx hb hts hown hK hR fl_X7_115 e dX7_begins_2 ?_
  refine lv_iconst (v := 1) hx hb dX7_begins_5 (by decide) ?_
  refine lv_iadd hx hb dX7_begins_6 ?_
  obtain ⟨w23, e, h⟩ := bd h
  refine fx_p hx hb hts hown hK hR hS fp_X7_115 e rfl rfl dX7_begins_7 (fun H locs hR hS => ?_)
  refine lv_aload_n hx hb dX7_begins_10 rfl (lv_at hl 0 rfl) ?_
  refine lv_aload_n hx hb dX7_begins_11 rfl (lv_at hl 0 rfl) ?_
  obtain ⟨v24, e, h⟩ := bd h
  refine fx_gI hx hb hts hown hK hR fl_X7_118 e dX7_begins_12 ?_
  obtain ⟨w25, e, h⟩ := bd h
  refine fx_p hx hb hts hown hK hR hS fp_X7_121 e rfl rfl dX7_begins_15 (fun H locs hR hS => ?_)
  refine lv_iconst (v := 0) hx hb dX7_begins_18 (by decide) ?_
  refine lv_istore_n (lv' := [(1, .int 0), (0, .ref a0)]) hx hb dX7_begins_19 rfl hl (by decide) rfl (fun ls hl => ?_)
  exact qX7_begins_L20 C   1000 hR hS (lv_sub hl [1, 0] rfl) h
def fX7_had_b32 (w : Fw) (K2 : Nat → Int32 → Int32 → Int32 → Option (Int32)) (a0 : Nat) (x1 : Int32) (x2 : Int32) (x3 : Int32) : Option (Int32) := (K2 a0 x1 x2 (x3 + 1))
set_option maxRecDepth 100000 in
set_option maxHeartbeats 4000000 in
theorem qX7_had_b32 {p : Program} {l : Launch} {e : Env} {s : State} {m : MethodId} {args : Array Value} {below : List Frame} {meth : Method} {c : Code} {D : va_G} {dA : Nat → ClassId} {A : Nat → Prop} (C : Cx p s m args meth c D dA RX7 cX7_had 4 (some .int)) {w : Fw} {res : Int32} {K2 : Nat → Int32 → Int32 → Int32 → Option (Int32)} (hK2 : ∀ {H : Heap} {locs : List Loc} {ls : Array Slot} {a0 : Nat} {x1 : Int32} {x2 : Int32} {x3 : Int32}, Rp D dA A w H → va_S A s.heap H locs → lv_has ls 4 [(0, .ref a0), (1, .int x1), (2, .int x2), (3, .int x3)] → K2 a0 x1 x2 x3 = some res → W p l e (rz 0 0) s m args below meth c H locs 0 0 (MQ below (QzI D dA A res w) args s 0 0 A) (F0 m 2 ls [])) {H : Heap} {locs : List Loc} {ls : Array Slot} {a0 : Nat} {x1 : Int32} {x2 : Int32} {x3 : Int32} (hR : Rp D dA A w H) (hS : va_S A s.heap H locs) (hl : lv_has ls 4 [(0, .ref a0), (1, .int x1), (2, .int x2), (3, .int x3)]) (h : fX7_had_b32 w K2 a0 x1 x2 x3 = some res) : W p l e (rz 0 0) s m args below meth c H locs 0 0 (MQ below (QzI D dA A res w) args s 0 0 A) (F0 m 32 ls []) := by
  obtain ⟨hx, hb, hr, hml, hown, hts, hK, hlocks⟩ := id C
  unfold fX7_had_b32 at h
  refine lv_iinc (v := (x3 + 1)) (lv' := [(3, .int (x3 + 1)), (0, .ref a0), (1, .int x1), (2, .int x2)]) hx hb dX7_had_32 hl (k := 3) rfl rfl (by decide) rfl (fun ls hl => ?_)
  refine lv_goto (tgt := 2) hx hb dX7_had_35 (by decide) ?_
  exact hK2 hR hS (lv_sub hl [1, 2, 3, 0] rfl) h
def fX7_had_L2 (w : Fw)  : Nat → Nat → Int32 → Int32 → Int32 → Option (Int32)
  | 0, _, _, _, _ => none
  | n + 1, a0, x1, x2, x3 => ((gI w a0 7 9).bind fun v1 => (if v1 ≤ x3 then some ((-1) : Int32) else ((gR w a0 7 17).bind fun r2 => ((lI w r2 x3).bind fun v3 => (if v3 = x1 then ((gR w a0 7 18).bind fun r4 => ((lI w r4 x3).bind fun v5 => (if v5 = x2 then some x3 else (fX7_had_b32 w (fX7_had_L2 w n) a0 x1 x2 x3)))) else (fX7_had_b32 w (fX7_had_L2 w n) a0 x1 x2 x3))))))
set_option maxRecDepth 100000 in
set_option maxHeartbeats 4000000 in
theorem qX7_had_L2 {p : Program} {l : Launch} {e : Env} {s : State} {m : MethodId} {args : Array Value} {below : List Frame} {meth : Method} {c : Code} {D : va_G} {dA : Nat → ClassId} {A : Nat → Prop} (C : Cx p s m args meth c D dA RX7 cX7_had 4 (some .int)) {w : Fw} {res : Int32}   : ∀ (n : Nat) {H : Heap} {locs : List Loc} {ls : Array Slot} {a0 : Nat} {x1 : Int32} {x2 : Int32} {x3 : Int32}, Rp D dA A w H → va_S A s.heap H locs → lv_has ls 4 [(0, .ref a0), (1, .int x1), (2, .int x2), (3, .int x3)] → fX7_had_L2 w n a0 x1 x2 x3 = some res → W p l e (rz 0 0) s m args below meth c H locs 0 0 (MQ below (QzI D dA A res w) args s 0 0 A) (F0 m 2 ls []) := by
  obtain ⟨hx, hb, hr, hml, hown, hts, hK, hlocks⟩ := id C
  intro n
  induction n with
  | zero =>
    intro H locs ls a0 x1 x2 x3 hR hS hl h
    rw [fX7_had_L2.eq_1] at h
    cases h
  | succ n ih =>
    intro H locs ls a0 x1 x2 x3 hR hS hl h
    rw [fX7_had_L2.eq_2] at h
    refine lv_iload_n hx hb dX7_had_2 rfl (lv_at hl 3 rfl) ?_
    refine lv_aload_n hx hb dX7_had_3 rfl (lv_at hl 0 rfl) ?_
    obtain ⟨v1, e, h⟩ := bd h
    refine fx_gI hx hb hts hown hK hR fl_X7_121 e dX7_had_4 ?_
    refine lv_icmp_ge (tgt := 38) hx hb dX7_had_7 (by decide) (fun c => ?_) (fun c => ?_)
    · have h := it c h
      refine lv_iconst (v := (-1)) hx hb dX7_had_38 (by decide) ?_
      exact fx_iret hx hb hr hlocks (Option.some.inj h) rfl hR hS dX7_had_39
    · have h := ie c h
      refine lv_aload_n hx hb dX7_had_10 rfl (lv_at hl 0 rfl) ?_
      obtain ⟨r2, e, h⟩ := bd h
      refine fx_gR hx hb hts hown hK hR fl_X7_40 e dX7_had_11 ?_
      refine lv_iload_n hx hb dX7_had_14 rfl (lv_at hl 3 rfl) ?_
      obtain ⟨v3, e, h⟩ := bd h
      refine fx_lI hx hb hK hR e dX7_had_15 ?_
      refine lv_iload_n hx hb dX7_had_16 rfl (lv_at hl 1 rfl) ?_
      refine lv_icmp_ne (tgt := 32) hx hb dX7_had_17 (by decide) (fun c => ?_) (fun c => ?_)
      · have h := ie c h
        exact qX7_had_b32 C (K2 := fX7_had_L2 w n) (hK2 := @ih) hR hS (lv_sub hl [0, 1, 2, 3] rfl) h
      · have h := it c h
        refine lv_aload_n hx hb dX7_had_20 rfl (lv_at hl 0 rfl) ?_
        obtain ⟨r4, e, h⟩ := bd h
        refine fx_gR hx hb hts hown hK hR fl_X7_43 e dX7_had_21 ?_
        refine lv_iload_n hx hb dX7_had_24 rfl (lv_at hl 3 rfl) ?_
        obtain ⟨v5, e, h⟩ := bd h
        refine fx_lI hx hb hK hR e dX7_had_25 ?_
        refine lv_iload_n hx hb dX7_had_26 rfl (lv_at hl 2 rfl) ?_
        refine lv_icmp_ne (tgt := 32) hx hb dX7_had_27 (by decide) (fun c => ?_) (fun c => ?_)
        · have h := ie c h
          exact qX7_had_b32 C (K2 := fX7_had_L2 w n) (hK2 := @ih) hR hS (lv_sub hl [0, 1, 2, 3] rfl) h
        · have h := it c h
          refine lv_iload_n hx hb dX7_had_30 rfl (lv_at hl 3 rfl) ?_
          exact fx_iret hx hb hr hlocks (Option.some.inj h) rfl hR hS dX7_had_31
def fX7_had (w : Fw) (a0 : Nat) (x1 : Int32) (x2 : Int32) : Option (Int32) := (fX7_had_L2 w 1000 a0 x1 x2 0)
set_option maxRecDepth 100000 in
set_option maxHeartbeats 4000000 in
theorem mX7_had (l : Launch) (D : va_G) (dA : Nat → ClassId) (A : Nat → Prop) {w : Fw} {a0 : Nat} {x1 : Int32} {x2 : Int32} {res : Int32} (h : fX7_had w a0 x1 x2 = some res) : Met l yX7_had (wz yX7_had cX7_had 4 (some .int)) (rz 0 0) (Pz D dA A w [.ref a0, .int x1, .int x2]) (QzI D dA A res w) 0 0 A := by
  refine Met.ofW (cc := cX7_had) (maxL := 4) (ret := (some .int)) (by decide) rfl ?_
  intro p e s m args below meth c s₁ B hml hv
  obtain ⟨rfl, hR, hK⟩ := hv
  have hx := B.exec
  have hb := B.bytes
  have hr := B.returns
  have hts : ∀ w ∈ lw_g, w.before [.ref a0, .int x1, .int x2].toArray s = true := fun w hw => atoms_spec (ws := wz yX7_had cX7_had 4 (some .int)) B.pre w (List.mem_cons_of_mem _ hw)
  have hown : s.vm.findClass RX7 = some m.cls := findClass_of_methodNamed B.named
  have hlocks := B.notSynchronized
  have C : Cx p s m [.ref a0, .int x1, .int x2].toArray meth c D dA RX7 cX7_had 4 (some .int) := ⟨hx, hb, hr, hml, hown, hts, hK, hlocks⟩
  have hS : va_S A s.heap s.heap [] := va_S.rf
  have hl := lv_entry ([.ref a0, .int x1, .int x2]) (n := 4) (Nat.le_of_ble_eq_true rfl)
  rw [lg_entry_eq]
  generalize (lg_sl ([.ref a0, .int x1, .int x2]) ++ List.replicate (4 - (lg_sl ([.ref a0, .int x1, .int x2])).length) Slot.unset).toArray = ls at hl ⊢
  have hl : lv_has ls 4 [(0, .ref a0), (1, .int x1), (2, .int x2)] := hl
  unfold fX7_had at h
  show W p l e (rz 0 0) s m _ below meth c s.heap [] 0 0 _ _
  refine lv_iconst (v := 0) hx hb dX7_had_0 (by decide) ?_
  refine lv_istore_n (lv' := [(3, .int 0), (0, .ref a0), (1, .int x1), (2, .int x2)]) hx hb dX7_had_1 rfl hl (by decide) rfl (fun ls hl => ?_)
  exact qX7_had_L2 C   1000 hR hS (lv_sub hl [1, 2, 3, 0] rfl) h
def fX7_find_b32 (w : Fw) (K2 : Nat → Int32 → Int32 → Int32 → Option (Int32)) (a0 : Nat) (x1 : Int32) (x2 : Int32) (x3 : Int32) : Option (Int32) := (K2 a0 x1 x2 (x3 + 1))
set_option maxRecDepth 100000 in
set_option maxHeartbeats 4000000 in
theorem qX7_find_b32 {p : Program} {l : Launch} {e : Env} {s : State} {m : MethodId} {args : Array Value} {below : List Frame} {meth : Method} {c : Code} {D : va_G} {dA : Nat → ClassId} {A : Nat → Prop} (C : Cx p s m args meth c D dA RX7 cX7_find 4 (some .int)) {w : Fw} {res : Int32} {K2 : Nat → Int32 → Int32 → Int32 → Option (Int32)} (hK2 : ∀ {H : Heap} {locs : List Loc} {ls : Array Slot} {a0 : Nat} {x1 : Int32} {x2 : Int32} {x3 : Int32}, Rp D dA A w H → va_S A s.heap H locs → lv_has ls 4 [(0, .ref a0), (1, .int x1), (2, .int x2), (3, .int x3)] → K2 a0 x1 x2 x3 = some res → W p l e (rz 0 0) s m args below meth c H locs 0 0 (MQ below (QzI D dA A res w) args s 0 0 A) (F0 m 2 ls [])) {H : Heap} {locs : List Loc} {ls : Array Slot} {a0 : Nat} {x1 : Int32} {x2 : Int32} {x3 : Int32} (hR : Rp D dA A w H) (hS : va_S A s.heap H locs) (hl : lv_has ls 4 [(0, .ref a0), (1, .int x1), (2, .int x2), (3, .int x3)]) (h : fX7_find_b32 w K2 a0 x1 x2 x3 = some res) : W p l e (rz 0 0) s m args below meth c H locs 0 0 (MQ below (QzI D dA A res w) args s 0 0 A) (F0 m 32 ls []) := by
  obtain ⟨hx, hb, hr, hml, hown, hts, hK, hlocks⟩ := id C
  unfold fX7_find_b32 at h
  refine lv_iinc (v := (x3 + 1)) (lv' := [(3, .int (x3 + 1)), (0, .ref a0), (1, .int x1), (2, .int x2)]) hx hb dX7_find_32 hl (k := 3) rfl rfl (by decide) rfl (fun ls hl => ?_)
  refine lv_goto (tgt := 2) hx hb dX7_find_35 (by decide) ?_
  exact hK2 hR hS (lv_sub hl [1, 2, 3, 0] rfl) h
def fX7_find_L2 (w : Fw)  : Nat → Nat → Int32 → Int32 → Int32 → Option (Int32)
  | 0, _, _, _, _ => none
  | n + 1, a0, x1, x2, x3 => ((gI w a0 7 8).bind fun v1 => (if v1 ≤ x3 then some ((-1) : Int32) else ((gR w a0 7 10).bind fun r2 => ((lI w r2 x3).bind fun v3 => (if v3 = x1 then ((gR w a0 7 13).bind fun r4 => ((lI w r4 x3).bind fun v5 => (if v5 = x2 then some x3 else (fX7_find_b32 w (fX7_find_L2 w n) a0 x1 x2 x3)))) else (fX7_find_b32 w (fX7_find_L2 w n) a0 x1 x2 x3))))))
set_option maxRecDepth 100000 in
set_option maxHeartbeats 4000000 in
theorem qX7_find_L2 {p : Program} {l : Launch} {e : Env} {s : State} {m : MethodId} {args : Array Value} {below : List Frame} {meth : Method} {c : Code} {D : va_G} {dA : Nat → ClassId} {A : Nat → Prop} (C : Cx p s m args meth c D dA RX7 cX7_find 4 (some .int)) {w : Fw} {res : Int32}   : ∀ (n : Nat) {H : Heap} {locs : List Loc} {ls : Array Slot} {a0 : Nat} {x1 : Int32} {x2 : Int32} {x3 : Int32}, Rp D dA A w H → va_S A s.heap H locs → lv_has ls 4 [(0, .ref a0), (1, .int x1), (2, .int x2), (3, .int x3)] → fX7_find_L2 w n a0 x1 x2 x3 = some res → W p l e (rz 0 0) s m args below meth c H locs 0 0 (MQ below (QzI D dA A res w) args s 0 0 A) (F0 m 2 ls []) := by
  obtain ⟨hx, hb, hr, hml, hown, hts, hK, hlocks⟩ := id C
  intro n
  induction n with
  | zero =>
    intro H locs ls a0 x1 x2 x3 hR hS hl h
    rw [fX7_find_L2.eq_1] at h
    cases h
  | succ n ih =>
    intro H locs ls a0 x1 x2 x3 hR hS hl h
    rw [fX7_find_L2.eq_2] at h
    refine lv_iload_n hx hb dX7_find_2 rfl (lv_at hl 3 rfl) ?_
    refine lv_aload_n hx hb dX7_find_3 rfl (lv_at hl 0 rfl) ?_
    obtain ⟨v1, e, h⟩ := bd h
    refine fx_gI hx hb hts hown hK hR fl_X7_118 e dX7_find_4 ?_
    refine lv_icmp_ge (tgt := 38) hx hb dX7_find_7 (by decide) (fun c => ?_) (fun c => ?_)
    · have h := it c h
      refine lv_iconst (v := (-1)) hx hb dX7_find_38 (by decide) ?_
      exact fx_iret hx hb hr hlocks (Option.some.inj h) rfl hR hS dX7_find_39
    · have h := ie c h
      refine lv_aload_n hx hb dX7_find_10 rfl (lv_at hl 0 rfl) ?_
      obtain ⟨r2, e, h⟩ := bd h
      refine fx_gR hx hb hts hown hK hR fl_X7_19 e dX7_find_11 ?_
      refine lv_iload_n hx hb dX7_find_14 rfl (lv_at hl 3 rfl) ?_
      obtain ⟨v3, e, h⟩ := bd h
      refine fx_lI hx hb hK hR e dX7_find_15 ?_
      refine lv_iload_n hx hb dX7_find_16 rfl (lv_at hl 1 rfl) ?_
      refine lv_icmp_ne (tgt := 32) hx hb dX7_find_17 (by decide) (fun c => ?_) (fun c => ?_)
      · have h := ie c h
        exact qX7_find_b32 C (K2 := fX7_find_L2 w n) (hK2 := @ih) hR hS (lv_sub hl [0, 1, 2, 3] rfl) h
      · have h := it c h
        refine lv_aload_n hx hb dX7_find_20 rfl (lv_at hl 0 rfl) ?_
        obtain ⟨r4, e, h⟩ := bd h
        refine fx_gR hx hb hts hown hK hR fl_X7_28 e dX7_find_21 ?_
        refine lv_iload_n hx hb dX7_find_24 rfl (lv_at hl 3 rfl) ?_
        obtain ⟨v5, e, h⟩ := bd h
        refine fx_lI hx hb hK hR e dX7_find_25 ?_
        refine lv_iload_n hx hb dX7_find_26 rfl (lv_at hl 2 rfl) ?_
        refine lv_icmp_ne (tgt := 32) hx hb dX7_find_27 (by decide) (fun c => ?_) (fun c => ?_)
        · have h := ie c h
          exact qX7_find_b32 C (K2 := fX7_find_L2 w n) (hK2 := @ih) hR hS (lv_sub hl [0, 1, 2, 3] rfl) h
        · have h := it c h
          refine lv_iload_n hx hb dX7_find_30 rfl (lv_at hl 3 rfl) ?_
          exact fx_iret hx hb hr hlocks (Option.some.inj h) rfl hR hS dX7_find_31
def fX7_find (w : Fw) (a0 : Nat) (x1 : Int32) (x2 : Int32) : Option (Int32) := (fX7_find_L2 w 1000 a0 x1 x2 0)
set_option maxRecDepth 100000 in
set_option maxHeartbeats 4000000 in
theorem mX7_find (l : Launch) (D : va_G) (dA : Nat → ClassId) (A : Nat → Prop) {w : Fw} {a0 : Nat} {x1 : Int32} {x2 : Int32} {res : Int32} (h : fX7_find w a0 x1 x2 = some res) : Met l yX7_find (wz yX7_find cX7_find 4 (some .int)) (rz 0 0) (Pz D dA A w [.ref a0, .int x1, .int x2]) (QzI D dA A res w) 0 0 A := by
  refine Met.ofW (cc := cX7_find) (maxL := 4) (ret := (some .int)) (by decide) rfl ?_
  intro p e s m args below meth c s₁ B hml hv
  obtain ⟨rfl, hR, hK⟩ := hv
  have hx := B.exec
  have hb := B.bytes
  have hr := B.returns
  have hts : ∀ w ∈ lw_g, w.before [.ref a0, .int x1, .int x2].toArray s = true := fun w hw => atoms_spec (ws := wz yX7_find cX7_find 4 (some .int)) B.pre w (List.mem_cons_of_mem _ hw)
  have hown : s.vm.findClass RX7 = some m.cls := findClass_of_methodNamed B.named
  have hlocks := B.notSynchronized
  have C : Cx p s m [.ref a0, .int x1, .int x2].toArray meth c D dA RX7 cX7_find 4 (some .int) := ⟨hx, hb, hr, hml, hown, hts, hK, hlocks⟩
  have hS : va_S A s.heap s.heap [] := va_S.rf
  have hl := lv_entry ([.ref a0, .int x1, .int x2]) (n := 4) (Nat.le_of_ble_eq_true rfl)
  rw [lg_entry_eq]
  generalize (lg_sl ([.ref a0, .int x1, .int x2]) ++ List.replicate (4 - (lg_sl ([.ref a0, .int x1, .int x2])).length) Slot.unset).toArray = ls at hl ⊢
  have hl : lv_has ls 4 [(0, .ref a0), (1, .int x1), (2, .int x2)] := hl
  unfold fX7_find at h
  show W p l e (rz 0 0) s m _ below meth c s.heap [] 0 0 _ _
  refine lv_iconst (v := 0) hx hb dX7_find_0 (by decide) ?_
  refine lv_istore_n (lv' := [(3, .int 0), (0, .ref a0), (1, .int x1), (2, .int x2)]) hx hb dX7_find_1 rfl hl (by decide) rfl (fun ls hl => ?_)
  exact qX7_find_L2 C   1000 hR hS (lv_sub hl [1, 2, 3, 0] rfl) h
def fX7_logs_b101  (w : Fw) (a0 : Nat) (x1 : Int32) (x2 : Int32) (x3 : Int32) : Option (Fw) := ((gR w a0 7 23).bind fun r1 => ((gI w a0 7 22).bind fun v2 => ((sI w r1 v2 x1).bind fun w3 => ((gR w3 a0 7 24).bind fun r4 => ((gI w3 a0 7 22).bind fun v5 => ((sI w3 r4 v5 x2).bind fun w6 => ((gR w6 a0 7 25).bind fun r7 => ((gI w6 a0 7 22).bind fun v8 => ((sI w6 r7 v8 x3).bind fun w9 => ((gR w9 a0 7 26).bind fun r10 => ((gI w9 a0 7 22).bind fun v11 => ((gI w9 a0 7 3).bind fun v12 => ((sI w9 r10 v11 v12).bind fun w13 => ((gI w13 a0 7 22).bind fun v14 => ((pF w13 a0 7 22 (.int (v14 + 1))).bind fun w15 => some w15)))))))))))))))
set_option maxRecDepth 100000 in
set_option maxHeartbeats 4000000 in
theorem qX7_logs_b101 {p : Program} {l : Launch} {e : Env} {s : State} {m : MethodId} {args : Array Value} {below : List Frame} {meth : Method} {c : Code} {D : va_G} {dA : Nat → ClassId} {A : Nat → Prop} (C : Cx p s m args meth c D dA RX7 cX7_logs 5 none) {w : Fw} {res : Fw}   {H : Heap} {locs : List Loc} {ls : Array Slot} {a0 : Nat} {x1 : Int32} {x2 : Int32} {x3 : Int32} (hR : Rp D dA A w H) (hS : va_S A s.heap H locs) (hl : lv_has ls 5 [(0, .ref a0), (1, .int x1), (2, .int x2), (3, .int x3)]) (h : fX7_logs_b101 w a0 x1 x2 x3 = some res) : W p l e (rz 0 0) s m args below meth c H locs 0 0 (MQ below (QzV D dA A res) args s 0 0 A) (F0 m 101 ls []) := by
  obtain ⟨hx, hb, hr, hml, hown, hts, hK, hlocks⟩ := id C
  unfold fX7_logs_b101 at h
  refine lv_aload_n hx hb dX7_logs_101 rfl (lv_at hl 0 rfl) ?_
  obtain ⟨r1, e, h⟩ := bd h
  refine fx_gR hx hb hts hown hK hR fl_X7_55 e dX7_logs_102 ?_
  refine lv_aload_n hx hb dX7_logs_105 rfl (lv_at hl 0 rfl) ?_
  obtain ⟨v2, e, h⟩ := bd h
  refine fx_gI hx hb hts hown hK hR fl_X7_137 e dX7_logs_106 ?_
  refine lv_iload_n hx hb dX7_logs_109 rfl (lv_at hl 1 rfl) ?_
  obtain ⟨w3, e, h⟩ := bd h
  refine fx_sI hx hb hK hR hS e dX7_logs_110 (fun H locs hR hS => ?_)
  refine lv_aload_n hx hb dX7_logs_111 rfl (lv_at hl 0 rfl) ?_
  obtain ⟨r4, e, h⟩ := bd h
  refine fx_gR hx hb hts hown hK hR fl_X7_58 e dX7_logs_112 ?_
  refine lv_aload_n hx hb dX7_logs_115 rfl (lv_at hl 0 rfl) ?_
  obtain ⟨v5, e, h⟩ := bd h
  refine fx_gI hx hb hts hown hK hR fl_X7_137 e dX7_logs_116 ?_
  refine lv_iload_n hx hb dX7_logs_119 rfl (lv_at hl 2 rfl) ?_
  obtain ⟨w6, e, h⟩ := bd h
  refine fx_sI hx hb hK hR hS e dX7_logs_120 (fun H locs hR hS => ?_)
  refine lv_aload_n hx hb dX7_logs_121 rfl (lv_at hl 0 rfl) ?_
  obtain ⟨r7, e, h⟩ := bd h
  refine fx_gR hx hb hts hown hK hR fl_X7_61 e dX7_logs_122 ?_
  refine lv_aload_n hx hb dX7_logs_125 rfl (lv_at hl 0 rfl) ?_
  obtain ⟨v8, e, h⟩ := bd h
  refine fx_gI hx hb hts hown hK hR fl_X7_137 e dX7_logs_126 ?_
  refine lv_iload_n hx hb dX7_logs_129 rfl (lv_at hl 3 rfl) ?_
  obtain ⟨w9, e, h⟩ := bd h
  refine fx_sI hx hb hK hR hS e dX7_logs_130 (fun H locs hR hS => ?_)
  refine lv_aload_n hx hb dX7_logs_131 rfl (lv_at hl 0 rfl) ?_
  obtain ⟨r10, e, h⟩ := bd h
  refine fx_gR hx hb hts hown hK hR fl_X7_64 e dX7_logs_132 ?_
  refine lv_aload_n hx hb dX7_logs_135 rfl (lv_at hl 0 rfl) ?_
  obtain ⟨v11, e, h⟩ := bd h
  refine fx_gI hx hb hts hown hK hR fl_X7_137 e dX7_logs_136 ?_
  refine lv_aload_n hx hb dX7_logs_139 rfl (lv_at hl 0 rfl) ?_
  obtain ⟨v12, e, h⟩ := bd h
  refine fx_gI hx hb hts hown hK hR fl_X7_115 e dX7_logs_140 ?_
  obtain ⟨w13, e, h⟩ := bd h
  refine fx_sI hx hb hK hR hS e dX7_logs_143 (fun H locs hR hS => ?_)
  refine lv_aload_n hx hb dX7_logs_144 rfl (lv_at hl 0 rfl) ?_
  refine lv_dup hx hb dX7_logs_145 rfl ?_
  obtain ⟨v14, e, h⟩ := bd h
  refine fx_gI hx hb hts hown hK hR fl_X7_137 e dX7_logs_146 ?_
  refine lv_iconst (v := 1) hx hb dX7_logs_149 (by decide) ?_
  refine lv_iadd hx hb dX7_logs_150 ?_
  obtain ⟨w15, e, h⟩ := bd h
  refine fx_p hx hb hts hown hK hR hS fp_X7_137 e rfl rfl dX7_logs_151 (fun H locs hR hS => ?_)
  exact fx_vret hx hb hr hlocks (Option.some.inj h) hR hS dX7_logs_154
def fX7_logs_L12  : Nat → Fw → Nat → Int32 → Int32 → Int32 → Int32 → Option (Fw)
  | 0, _, _, _, _, _, _ => none
  | n + 1, w, a0, x1, x2, x3, x4 => if 60 ≤ (x4 + 1) then ((gI w a0 7 22).bind fun v16 => ((pF w a0 7 22 (.int (v16 - 1))).bind fun w17 => (fX7_logs_b101 w17 a0 x1 x2 x3))) else ((gR w a0 7 23).bind fun r18 => ((gR w a0 7 23).bind fun r19 => ((lI w r19 (x4 + 1)).bind fun v20 => ((sI w r18 x4 v20).bind fun w21 => ((gR w21 a0 7 24).bind fun r22 => ((gR w21 a0 7 24).bind fun r23 => ((lI w21 r23 (x4 + 1)).bind fun v24 => ((sI w21 r22 x4 v24).bind fun w25 => ((gR w25 a0 7 25).bind fun r26 => ((gR w25 a0 7 25).bind fun r27 => ((lI w25 r27 (x4 + 1)).bind fun v28 => ((sI w25 r26 x4 v28).bind fun w29 => ((gR w29 a0 7 26).bind fun r30 => ((gR w29 a0 7 26).bind fun r31 => ((lI w29 r31 (x4 + 1)).bind fun v32 => ((sI w29 r30 x4 v32).bind fun w33 => (fX7_logs_L12  n w33 a0 x1 x2 x3 (x4 + 1))))))))))))))))))
set_option maxRecDepth 100000 in
set_option maxHeartbeats 4000000 in
theorem qX7_logs_L12 {p : Program} {l : Launch} {e : Env} {s : State} {m : MethodId} {args : Array Value} {below : List Frame} {meth : Method} {c : Code} {D : va_G} {dA : Nat → ClassId} {A : Nat → Prop} (C : Cx p s m args meth c D dA RX7 cX7_logs 5 none) {res : Fw}   : ∀ (n : Nat) {w : Fw} {H : Heap} {locs : List Loc} {ls : Array Slot} {a0 : Nat} {x1 : Int32} {x2 : Int32} {x3 : Int32} {x4 : Int32}, Rp D dA A w H → va_S A s.heap H locs → lv_has ls 5 [(0, .ref a0), (1, .int x1), (2, .int x2), (3, .int x3), (4, .int x4)] → fX7_logs_L12 n w a0 x1 x2 x3 x4 = some res → W p l e (rz 0 0) s m args below meth c H locs 0 0 (MQ below (QzV D dA A res) args s 0 0 A) (F0 m 12 ls []) := by
  obtain ⟨hx, hb, hr, hml, hown, hts, hK, hlocks⟩ := id C
  intro n
  induction n with
  | zero =>
    intro w H locs ls a0 x1 x2 x3 x4 hR hS hl h
    rw [fX7_logs_L12.eq_1] at h
    cases h
  | succ n ih =>
    intro w H locs ls a0 x1 x2 x3 x4 hR hS hl h
    rw [fX7_logs_L12.eq_2] at h
    refine lv_iload hx hb dX7_logs_12 (lv_at hl 4 rfl) ?_
    refine lv_iconst (v := 1) hx hb dX7_logs_14 (by decide) ?_
    refine lv_iadd hx hb dX7_logs_15 ?_
    refine lv_bipush (v := 60) hx hb dX7_logs_16 (by decide) ?_
    refine lv_icmp_ge (tgt := 91) hx hb dX7_logs_18 (by decide) (fun c => ?_) (fun c => ?_)
    · have h := it c h
      refine lv_aload_n hx hb dX7_logs_91 rfl (lv_at hl 0 rfl) ?_
      refine lv_dup hx hb dX7_logs_92 rfl ?_
      obtain ⟨v16, e, h⟩ := bd h
      refine fx_gI hx hb hts hown hK hR fl_X7_137 e dX7_logs_93 ?_
      refine lv_iconst (v := 1) hx hb dX7_logs_96 (by decide) ?_
      refine lv_isub hx hb dX7_logs_97 ?_
      obtain ⟨w17, e, h⟩ := bd h
      refine fx_p hx hb hts hown hK hR hS fp_X7_137 e rfl rfl dX7_logs_98 (fun H locs hR hS => ?_)
      exact qX7_logs_b101 C   hR hS (lv_sub hl [0, 1, 2, 3] rfl) h
    · have h := ie c h
      refine lv_aload_n hx hb dX7_logs_21 rfl (lv_at hl 0 rfl) ?_
      obtain ⟨r18, e, h⟩ := bd h
      refine fx_gR hx hb hts hown hK hR fl_X7_55 e dX7_logs_22 ?_
      refine lv_iload hx hb dX7_logs_25 (lv_at hl 4 rfl) ?_
      refine lv_aload_n hx hb dX7_logs_27 rfl (lv_at hl 0 rfl) ?_
      obtain ⟨r19, e, h⟩ := bd h
      refine fx_gR hx hb hts hown hK hR fl_X7_55 e dX7_logs_28 ?_
      refine lv_iload hx hb dX7_logs_31 (lv_at hl 4 rfl) ?_
      refine lv_iconst (v := 1) hx hb dX7_logs_33 (by decide) ?_
      refine lv_iadd hx hb dX7_logs_34 ?_
      obtain ⟨v20, e, h⟩ := bd h
      refine fx_lI hx hb hK hR e dX7_logs_35 ?_
      obtain ⟨w21, e, h⟩ := bd h
      refine fx_sI hx hb hK hR hS e dX7_logs_36 (fun H locs hR hS => ?_)
      refine lv_aload_n hx hb dX7_logs_37 rfl (lv_at hl 0 rfl) ?_
      obtain ⟨r22, e, h⟩ := bd h
      refine fx_gR hx hb hts hown hK hR fl_X7_58 e dX7_logs_38 ?_
      refine lv_iload hx hb dX7_logs_41 (lv_at hl 4 rfl) ?_
      refine lv_aload_n hx hb dX7_logs_43 rfl (lv_at hl 0 rfl) ?_
      obtain ⟨r23, e, h⟩ := bd h
      refine fx_gR hx hb hts hown hK hR fl_X7_58 e dX7_logs_44 ?_
      refine lv_iload hx hb dX7_logs_47 (lv_at hl 4 rfl) ?_
      refine lv_iconst (v := 1) hx hb dX7_logs_49 (by decide) ?_
      refine lv_iadd hx hb dX7_logs_50 ?_
      obtain ⟨v24, e, h⟩ := bd h
      refine fx_lI hx hb hK hR e dX7_logs_51 ?_
      obtain ⟨w25, e, h⟩ := bd h
      refine fx_sI hx hb hK hR hS e dX7_logs_52 (fun H locs hR hS => ?_)
      refine lv_aload_n hx hb dX7_logs_53 rfl (lv_at hl 0 rfl) ?_
      obtain ⟨r26, e, h⟩ := bd h
      refine fx_gR hx hb hts hown hK hR fl_X7_61 e dX7_logs_54 ?_
      refine lv_iload hx hb dX7_logs_57 (lv_at hl 4 rfl) ?_
      refine lv_aload_n hx hb dX7_logs_59 rfl (lv_at hl 0 rfl) ?_
      obtain ⟨r27, e, h⟩ := bd h
      refine fx_gR hx hb hts hown hK hR fl_X7_61 e dX7_logs_60 ?_
      refine lv_iload hx hb dX7_logs_63 (lv_at hl 4 rfl) ?_
      refine lv_iconst (v := 1) hx hb dX7_logs_65 (by decide) ?_
      refine lv_iadd hx hb dX7_logs_66 ?_
      obtain ⟨v28, e, h⟩ := bd h
      refine fx_lI hx hb hK hR e dX7_logs_67 ?_
      obtain ⟨w29, e, h⟩ := bd h
      refine fx_sI hx hb hK hR hS e dX7_logs_68 (fun H locs hR hS => ?_)
      refine lv_aload_n hx hb dX7_logs_69 rfl (lv_at hl 0 rfl) ?_
      obtain ⟨r30, e, h⟩ := bd h
      refine fx_gR hx hb hts hown hK hR fl_X7_64 e dX7_logs_70 ?_
      refine lv_iload hx hb dX7_logs_73 (lv_at hl 4 rfl) ?_
      refine lv_aload_n hx hb dX7_logs_75 rfl (lv_at hl 0 rfl) ?_
      obtain ⟨r31, e, h⟩ := bd h
      refine fx_gR hx hb hts hown hK hR fl_X7_64 e dX7_logs_76 ?_
      refine lv_iload hx hb dX7_logs_79 (lv_at hl 4 rfl) ?_
      refine lv_iconst (v := 1) hx hb dX7_logs_81 (by decide) ?_
      refine lv_iadd hx hb dX7_logs_82 ?_
      obtain ⟨v32, e, h⟩ := bd h
      refine fx_lI hx hb hK hR e dX7_logs_83 ?_
      obtain ⟨w33, e, h⟩ := bd h
      refine fx_sI hx hb hK hR hS e dX7_logs_84 (fun H locs hR hS => ?_)
      refine lv_iinc (v := (x4 + 1)) (lv' := [(4, .int (x4 + 1)), (0, .ref a0), (1, .int x1), (2, .int x2), (3, .int x3)]) hx hb dX7_logs_85 hl (k := 4) rfl rfl (by decide) rfl (fun ls hl => ?_)
      refine lv_goto (tgt := 12) hx hb dX7_logs_88 (by decide) ?_
      exact ih hR hS (lv_sub hl [1, 2, 3, 4, 0] rfl) h
def fX7_logs (w : Fw) (a0 : Nat) (x1 : Int32) (x2 : Int32) (x3 : Int32) : Option (Fw) := ((gI w a0 7 22).bind fun v34 => (if v34 = 60 then (fX7_logs_L12 1000 w a0 x1 x2 x3 0) else (fX7_logs_b101 w a0 x1 x2 x3)))
set_option maxRecDepth 100000 in
set_option maxHeartbeats 4000000 in
theorem mX7_logs (l : Launch) (D : va_G) (dA : Nat → ClassId) (A : Nat → Prop) {w : Fw} {a0 : Nat} {x1 : Int32} {x2 : Int32} {x3 : Int32} {res : Fw} (h : fX7_logs w a0 x1 x2 x3 = some res) : Met l yX7_logs (wz yX7_logs cX7_logs 5 none) (rz 0 0) (Pz D dA A w [.ref a0, .int x1, .int x2, .int x3]) (QzV D dA A res) 0 0 A := by
  refine Met.ofW (cc := cX7_logs) (maxL := 5) (ret := none) (by decide) rfl ?_
  intro p e s m args below meth c s₁ B hml hv
  obtain ⟨rfl, hR, hK⟩ := hv
  have hx := B.exec
  have hb := B.bytes
  have hr := B.returns
  have hts : ∀ w ∈ lw_g, w.before [.ref a0, .int x1, .int x2, .int x3].toArray s = true := fun w hw => atoms_spec (ws := wz yX7_logs cX7_logs 5 none) B.pre w (List.mem_cons_of_mem _ hw)
  have hown : s.vm.findClass RX7 = some m.cls := findClass_of_methodNamed B.named
  have hlocks := B.notSynchronized
  have C : Cx p s m [.ref a0, .int x1, .int x2, .int x3].toArray meth c D dA RX7 cX7_logs 5 none := ⟨hx, hb, hr, hml, hown, hts, hK, hlocks⟩
  have hS : va_S A s.heap s.heap [] := va_S.rf
  have hl := lv_entry ([.ref a0, .int x1, .int x2, .int x3]) (n := 5) (Nat.le_of_ble_eq_true rfl)
  rw [lg_entry_eq]
  generalize (lg_sl ([.ref a0, .int x1, .int x2, .int x3]) ++ List.replicate (5 - (lg_sl ([.ref a0, .int x1, .int x2, .int x3])).length) Slot.unset).toArray = ls at hl ⊢
  have hl : lv_has ls 5 [(0, .ref a0), (1, .int x1), (2, .int x2), (3, .int x3)] := hl
  unfold fX7_logs at h
  show W p l e (rz 0 0) s m _ below meth c s.heap [] 0 0 _ _
  refine lv_aload_n hx hb dX7_logs_0 rfl (lv_at hl 0 rfl) ?_
  obtain ⟨v34, e, h⟩ := bd h
  refine fx_gI hx hb hts hown hK hR fl_X7_137 e dX7_logs_1 ?_
  refine lv_bipush (v := 60) hx hb dX7_logs_4 (by decide) ?_
  refine lv_icmp_ne (tgt := 101) hx hb dX7_logs_6 (by decide) (fun c => ?_) (fun c => ?_)
  · have h := ie c h
    exact qX7_logs_b101 C   hR hS (lv_sub hl [0, 1, 2, 3] rfl) h
  · have h := it c h
    refine lv_iconst (v := 0) hx hb dX7_logs_9 (by decide) ?_
    refine lv_istore (lv' := [(4, .int 0), (0, .ref a0), (1, .int x1), (2, .int x2), (3, .int x3)]) hx hb dX7_logs_10 hl (by decide) rfl (fun ls hl => ?_)
    exact qX7_logs_L12 C   1000 hR hS (lv_sub hl [1, 2, 3, 4, 0] rfl) h
