def fX7_load_b255 (K217 : Fw → Nat → Int32 → Int32 → Int32 → Int32 → Int32 → Option (Int32 × Fw)) (w : Fw) (a0 : Nat) (x1 : Int32) (x2 : Int32) (x3 : Int32) (x6 : Int32) (x7 : Int32) : Option (Int32 × Fw) := ((gR w a0 7 1).bind fun r1 => ((gR w a0 7 27).bind fun r2 => ((lI w r2 x7).bind fun v3 => ((sI w r1 ((32 * x1) + x7) v3).bind fun w4 => ((gR w4 a0 7 2).bind fun r5 => ((gR w4 a0 7 29).bind fun r6 => ((lI w4 r6 x7).bind fun v7 => ((sI w4 r5 ((32 * x1) + x7) v7).bind fun w8 => (K217 w8 a0 x1 x2 x3 x6 (x7 + 1))))))))))
set_option maxRecDepth 100000 in
set_option maxHeartbeats 4000000 in
theorem qX7_load_b255 {p : Program} {l : Launch} {e : Env} {s : State} {m : MethodId} {args : Array Value} {below : List Frame} {meth : Method} {c : Code} {D : va_G} {dA : Nat → ClassId} {A : Nat → Prop} (C : Cx p s m args meth c D dA RX7 cX7_load 8 (some .int)) {w : Fw} {res : Int32 × Fw} {K217 : Fw → Nat → Int32 → Int32 → Int32 → Int32 → Int32 → Option (Int32 × Fw)} (hK217 : ∀ {w : Fw} {H : Heap} {locs : List Loc} {ls : Array Slot} {a0 : Nat} {x1 : Int32} {x2 : Int32} {x3 : Int32} {x6 : Int32} {x7 : Int32}, Rp D dA A w H → va_S A s.heap H locs → lv_has ls 8 [(0, .ref a0), (1, .int x1), (2, .int x2), (3, .int x3), (6, .int x6), (7, .int x7)] → K217 w a0 x1 x2 x3 x6 x7 = some res → W p l e (rz 6 140) s m args below meth c H locs 0 0 (MQ below (QzI D dA A res.1 res.2) args s 0 0 A) (F0 m 217 ls [])) {H : Heap} {locs : List Loc} {ls : Array Slot} {a0 : Nat} {x1 : Int32} {x2 : Int32} {x3 : Int32} {x6 : Int32} {x7 : Int32} (hR : Rp D dA A w H) (hS : va_S A s.heap H locs) (hl : lv_has ls 8 [(0, .ref a0), (1, .int x1), (2, .int x2), (3, .int x3), (6, .int x6), (7, .int x7)]) (h : fX7_load_b255 K217 w a0 x1 x2 x3 x6 x7 = some res) : W p l e (rz 6 140) s m args below meth c H locs 0 0 (MQ below (QzI D dA A res.1 res.2) args s 0 0 A) (F0 m 255 ls []) := by
  obtain ⟨hx, hb, hr, hml, hown, hts, hK, hlocks⟩ := id C
  unfold fX7_load_b255 at h
  refine lv_aload_n hx hb dX7_load_255 rfl (lv_at hl 0 rfl) ?_
  obtain ⟨r1, e, h⟩ := bd h
  refine fx_gR hx hb hts hown hK hR fl_X7_13 e dX7_load_256 ?_
  refine lv_bipush (v := 32) hx hb dX7_load_259 (by decide) ?_
  refine lv_iload_n hx hb dX7_load_261 rfl (lv_at hl 1 rfl) ?_
  refine lv_imul hx hb dX7_load_262 ?_
  refine lv_iload hx hb dX7_load_263 (lv_at hl 5 rfl) ?_
  refine lv_iadd hx hb dX7_load_265 ?_
  refine lv_aload_n hx hb dX7_load_266 rfl (lv_at hl 0 rfl) ?_
  obtain ⟨r2, e, h⟩ := bd h
  refine fx_gR hx hb hts hown hK hR fl_X7_67 e dX7_load_267 ?_
  refine lv_iload hx hb dX7_load_270 (lv_at hl 5 rfl) ?_
  obtain ⟨v3, e, h⟩ := bd h
  refine fx_lI hx hb hK hR e dX7_load_272 ?_
  obtain ⟨w4, e, h⟩ := bd h
  refine fx_sI hx hb hK hR hS e dX7_load_273 (fun H locs hR hS => ?_)
  refine lv_aload_n hx hb dX7_load_274 rfl (lv_at hl 0 rfl) ?_
  obtain ⟨r5, e, h⟩ := bd h
  refine fx_gR hx hb hts hown hK hR fl_X7_16 e dX7_load_275 ?_
  refine lv_bipush (v := 32) hx hb dX7_load_278 (by decide) ?_
  refine lv_iload_n hx hb dX7_load_280 rfl (lv_at hl 1 rfl) ?_
  refine lv_imul hx hb dX7_load_281 ?_
  refine lv_iload hx hb dX7_load_282 (lv_at hl 5 rfl) ?_
  refine lv_iadd hx hb dX7_load_284 ?_
  refine lv_aload_n hx hb dX7_load_285 rfl (lv_at hl 0 rfl) ?_
  obtain ⟨r6, e, h⟩ := bd h
  refine fx_gR hx hb hts hown hK hR fl_X7_73 e dX7_load_286 ?_
  refine lv_iload hx hb dX7_load_289 (lv_at hl 5 rfl) ?_
  obtain ⟨v7, e, h⟩ := bd h
  refine fx_lI hx hb hK hR e dX7_load_291 ?_
  obtain ⟨w8, e, h⟩ := bd h
  refine fx_sI hx hb hK hR hS e dX7_load_292 (fun H locs hR hS => ?_)
  refine lv_iinc (v := (x7 + 1)) (lv' := [(7, .int (x7 + 1)), (0, .ref a0), (1, .int x1), (2, .int x2), (3, .int x3), (6, .int x6)]) hx hb dX7_load_293 hl (k := 5) rfl rfl (by decide) rfl (fun ls hl => ?_)
  refine lv_goto (tgt := 217) hx hb dX7_load_296 (by decide) ?_
  exact hK217 hR hS (lv_sub hl [1, 2, 3, 4, 5, 0] rfl) h
def fX7_load_L217  : Nat → Fw → Nat → Int32 → Int32 → Int32 → Int32 → Int32 → Option (Int32 × Fw)
  | 0, _, _, _, _, _, _, _ => none
  | n + 1, w, a0, x1, x2, x3, x6, x7 => if x2 ≤ x7 then ((gR w a0 7 0).bind fun r9 => ((sI w r9 x1 x2).bind fun w10 => ((isO w10 a0 7).bind fun _ => ((fX7_ends w10 a0 x1 x3).bind fun w11 => some (x6, w11))))) else ((gR w a0 7 29).bind fun r12 => ((lI w r12 x7).bind fun v13 => (if v13 = (-1) then ((gR w a0 7 29).bind fun r14 => ((gI w a0 7 5).bind fun v15 => ((sI w r14 x7 v15).bind fun w16 => ((gI w16 a0 7 5).bind fun v17 => ((pF w16 a0 7 5 (.int (v17 + 1))).bind fun w18 => (fX7_load_b255 (fX7_load_L217  n) w18 a0 x1 x2 x3 x6 x7)))))) else (fX7_load_b255 (fX7_load_L217  n) w a0 x1 x2 x3 x6 x7))))
set_option maxRecDepth 100000 in
set_option maxHeartbeats 4000000 in
theorem qX7_load_L217 {p : Program} {l : Launch} {e : Env} {s : State} {m : MethodId} {args : Array Value} {below : List Frame} {meth : Method} {c : Code} {D : va_G} {dA : Nat → ClassId} {A : Nat → Prop} (C : Cx p s m args meth c D dA RX7 cX7_load 8 (some .int)) {res : Int32 × Fw}   : ∀ (n : Nat) {w : Fw} {H : Heap} {locs : List Loc} {ls : Array Slot} {a0 : Nat} {x1 : Int32} {x2 : Int32} {x3 : Int32} {x6 : Int32} {x7 : Int32}, Rp D dA A w H → va_S A s.heap H locs → lv_has ls 8 [(0, .ref a0), (1, .int x1), (2, .int x2), (3, .int x3), (6, .int x6), (7, .int x7)] → fX7_load_L217 n w a0 x1 x2 x3 x6 x7 = some res → W p l e (rz 6 140) s m args below meth c H locs 0 0 (MQ below (QzI D dA A res.1 res.2) args s 0 0 A) (F0 m 217 ls []) := by
  obtain ⟨hx, hb, hr, hml, hown, hts, hK, hlocks⟩ := id C
  intro n
  induction n with
  | zero =>
    intro w H locs ls a0 x1 x2 x3 x6 x7 hR hS hl h
    rw [fX7_load_L217.eq_1] at h
    cases h
  | succ n ih =>
    intro w H locs ls a0 x1 x2 x3 x6 x7 hR hS hl h
    rw [fX7_load_L217.eq_2] at h
    refine lv_iload hx hb dX7_load_217 (lv_at hl 5 rfl) ?_
    refine lv_iload_n hx hb dX7_load_219 rfl (lv_at hl 2 rfl) ?_
    refine lv_icmp_ge (tgt := 299) hx hb dX7_load_220 (by decide) (fun c => ?_) (fun c => ?_)
    · have h := it c h
      refine lv_aload_n hx hb dX7_load_299 rfl (lv_at hl 0 rfl) ?_
      obtain ⟨r9, e, h⟩ := bd h
      refine fx_gR hx hb hts hown hK hR fl_X7_7 e dX7_load_300 ?_
      refine lv_iload_n hx hb dX7_load_303 rfl (lv_at hl 1 rfl) ?_
      refine lv_iload_n hx hb dX7_load_304 rfl (lv_at hl 2 rfl) ?_
      obtain ⟨w10, e, h⟩ := bd h
      refine fx_sI hx hb hK hR hS e dX7_load_305 (fun H locs hR hS => ?_)
      refine lv_aload_n hx hb dX7_load_306 rfl (lv_at hl 0 rfl) ?_
      refine lv_iload_n hx hb dX7_load_307 rfl (lv_at hl 1 rfl) ?_
      refine lv_iload_n hx hb dX7_load_308 rfl (lv_at hl 3 rfl) ?_
      obtain ⟨_, eO, h⟩ := bd h
      obtain ⟨w11, e, h⟩ := bd h
      refine fx_vV (As := [.int x1, .int x3]) (rest := []) hx hb hml hts hown hK hR hS eO (mX7_ends l D dA A e) my_X7_ends mv_X7_ends rfl ml_X7_155 rfl hl.1 rfl (Nat.le_of_ble_eq_true rfl) dX7_load_309 ⟨Nat.le_of_ble_eq_true rfl, Nat.le_of_ble_eq_true rfl⟩ ⟨Nat.le_refl _, Nat.le_refl _⟩ (fun H locs hR hS => ?_)
      refine lv_iload hx hb dX7_load_312 (lv_at hl 4 rfl) ?_
      exact fx_iret hx hb hr hlocks (pr1 h) (pr2 h) hR hS dX7_load_314
    · have h := ie c h
      refine lv_aload_n hx hb dX7_load_223 rfl (lv_at hl 0 rfl) ?_
      obtain ⟨r12, e, h⟩ := bd h
      refine fx_gR hx hb hts hown hK hR fl_X7_73 e dX7_load_224 ?_
      refine lv_iload hx hb dX7_load_227 (lv_at hl 5 rfl) ?_
      obtain ⟨v13, e, h⟩ := bd h
      refine fx_lI hx hb hK hR e dX7_load_229 ?_
      refine lv_iconst (v := (-1)) hx hb dX7_load_230 (by decide) ?_
      refine lv_icmp_ne (tgt := 255) hx hb dX7_load_231 (by decide) (fun c => ?_) (fun c => ?_)
      · have h := ie c h
        exact qX7_load_b255 C (K217 := fX7_load_L217  n) (hK217 := @ih) hR hS (lv_sub hl [0, 1, 2, 3, 4, 5] rfl) h
      · have h := it c h
        refine lv_aload_n hx hb dX7_load_234 rfl (lv_at hl 0 rfl) ?_
        obtain ⟨r14, e, h⟩ := bd h
        refine fx_gR hx hb hts hown hK hR fl_X7_73 e dX7_load_235 ?_
        refine lv_iload hx hb dX7_load_238 (lv_at hl 5 rfl) ?_
        refine lv_aload_n hx hb dX7_load_240 rfl (lv_at hl 0 rfl) ?_
        obtain ⟨v15, e, h⟩ := bd h
        refine fx_gI hx hb hts hown hK hR fl_X7_152 e dX7_load_241 ?_
        obtain ⟨w16, e, h⟩ := bd h
        refine fx_sI hx hb hK hR hS e dX7_load_244 (fun H locs hR hS => ?_)
        refine lv_aload_n hx hb dX7_load_245 rfl (lv_at hl 0 rfl) ?_
        refine lv_dup hx hb dX7_load_246 rfl ?_
        obtain ⟨v17, e, h⟩ := bd h
        refine fx_gI hx hb hts hown hK hR fl_X7_152 e dX7_load_247 ?_
        refine lv_iconst (v := 1) hx hb dX7_load_250 (by decide) ?_
        refine lv_iadd hx hb dX7_load_251 ?_
        obtain ⟨w18, e, h⟩ := bd h
        refine fx_p hx hb hts hown hK hR hS fp_X7_152 e rfl rfl dX7_load_252 (fun H locs hR hS => ?_)
        exact qX7_load_b255 C (K217 := fX7_load_L217  n) (hK217 := @ih) hR hS (lv_sub hl [0, 1, 2, 3, 4, 5] rfl) h
def fX7_load_b214  (w : Fw) (a0 : Nat) (x1 : Int32) (x2 : Int32) (x3 : Int32) (x6 : Int32) : Option (Int32 × Fw) := (fX7_load_L217 1000 w a0 x1 x2 x3 x6 0)
set_option maxRecDepth 100000 in
set_option maxHeartbeats 4000000 in
theorem qX7_load_b214 {p : Program} {l : Launch} {e : Env} {s : State} {m : MethodId} {args : Array Value} {below : List Frame} {meth : Method} {c : Code} {D : va_G} {dA : Nat → ClassId} {A : Nat → Prop} (C : Cx p s m args meth c D dA RX7 cX7_load 8 (some .int)) {w : Fw} {res : Int32 × Fw}   {H : Heap} {locs : List Loc} {ls : Array Slot} {a0 : Nat} {x1 : Int32} {x2 : Int32} {x3 : Int32} {x6 : Int32} (hR : Rp D dA A w H) (hS : va_S A s.heap H locs) (hl : lv_has ls 8 [(0, .ref a0), (1, .int x1), (2, .int x2), (3, .int x3), (6, .int x6)]) (h : fX7_load_b214 w a0 x1 x2 x3 x6 = some res) : W p l e (rz 6 140) s m args below meth c H locs 0 0 (MQ below (QzI D dA A res.1 res.2) args s 0 0 A) (F0 m 214 ls []) := by
  obtain ⟨hx, hb, hr, hml, hown, hts, hK, hlocks⟩ := id C
  unfold fX7_load_b214 at h
  refine lv_iconst (v := 0) hx hb dX7_load_214 (by decide) ?_
  refine lv_istore (lv' := [(7, .int 0), (0, .ref a0), (1, .int x1), (2, .int x2), (3, .int x3), (6, .int x6)]) hx hb dX7_load_215 hl (by decide) rfl (fun ls hl => ?_)
  exact qX7_load_L217 C   1000 hR hS (lv_sub hl [1, 2, 3, 4, 5, 0] rfl) h
def fX7_load_b211 (K73 : Fw → Nat → Int32 → Int32 → Int32 → Int32 → Int32 → Int32 → Option (Int32 × Fw)) (w : Fw) (a0 : Nat) (x1 : Int32) (x2 : Int32) (x3 : Int32) (x4 : Int32) (x5 : Int32) (x6 : Int32) : Option (Int32 × Fw) := (K73 w a0 x1 x2 x3 x4 x5 x6)
set_option maxRecDepth 100000 in
set_option maxHeartbeats 4000000 in
theorem qX7_load_b211 {p : Program} {l : Launch} {e : Env} {s : State} {m : MethodId} {args : Array Value} {below : List Frame} {meth : Method} {c : Code} {D : va_G} {dA : Nat → ClassId} {A : Nat → Prop} (C : Cx p s m args meth c D dA RX7 cX7_load 8 (some .int)) {w : Fw} {res : Int32 × Fw} {K73 : Fw → Nat → Int32 → Int32 → Int32 → Int32 → Int32 → Int32 → Option (Int32 × Fw)} (hK73 : ∀ {w : Fw} {H : Heap} {locs : List Loc} {ls : Array Slot} {a0 : Nat} {x1 : Int32} {x2 : Int32} {x3 : Int32} {x4 : Int32} {x5 : Int32} {x6 : Int32}, Rp D dA A w H → va_S A s.heap H locs → lv_has ls 8 [(0, .ref a0), (1, .int x1), (2, .int x2), (3, .int x3), (4, .int x4), (5, .int x5), (6, .int x6)] → K73 w a0 x1 x2 x3 x4 x5 x6 = some res → W p l e (rz 6 140) s m args below meth c H locs 0 0 (MQ below (QzI D dA A res.1 res.2) args s 0 0 A) (F0 m 73 ls [])) {H : Heap} {locs : List Loc} {ls : Array Slot} {a0 : Nat} {x1 : Int32} {x2 : Int32} {x3 : Int32} {x4 : Int32} {x5 : Int32} {x6 : Int32} (hR : Rp D dA A w H) (hS : va_S A s.heap H locs) (hl : lv_has ls 8 [(0, .ref a0), (1, .int x1), (2, .int x2), (3, .int x3), (4, .int x4), (5, .int x5), (6, .int x6)]) (h : fX7_load_b211 K73 w a0 x1 x2 x3 x4 x5 x6 = some res) : W p l e (rz 6 140) s m args below meth c H locs 0 0 (MQ below (QzI D dA A res.1 res.2) args s 0 0 A) (F0 m 211 ls []) := by
  obtain ⟨hx, hb, hr, hml, hown, hts, hK, hlocks⟩ := id C
  unfold fX7_load_b211 at h
  refine lv_goto (tgt := 73) hx hb dX7_load_211 (by decide) ?_
  exact hK73 hR hS (lv_sub hl [0, 1, 2, 3, 4, 5, 6] rfl) h
def fX7_load_b182 (K73 : Fw → Nat → Int32 → Int32 → Int32 → Int32 → Int32 → Int32 → Option (Int32 × Fw)) (w : Fw) (a0 : Nat) (x1 : Int32) (x2 : Int32) (x3 : Int32) (x4 : Int32) (x5 : Int32) (x6 : Int32) (x7 : Int32) : Option (Int32 × Fw) := ((gR w a0 7 28).bind fun r19 => ((lI w r19 ((33 * (x4 + 1)) + x5)).bind fun v20 => (if v20 = x7 then (fX7_load_b211 K73 w a0 x1 x2 x3 (x4 + 1) x5 x6) else (fX7_load_b211 K73 w a0 x1 x2 x3 x4 (x5 + 1) x6))))
set_option maxRecDepth 100000 in
set_option maxHeartbeats 4000000 in
theorem qX7_load_b182 {p : Program} {l : Launch} {e : Env} {s : State} {m : MethodId} {args : Array Value} {below : List Frame} {meth : Method} {c : Code} {D : va_G} {dA : Nat → ClassId} {A : Nat → Prop} (C : Cx p s m args meth c D dA RX7 cX7_load 8 (some .int)) {w : Fw} {res : Int32 × Fw} {K73 : Fw → Nat → Int32 → Int32 → Int32 → Int32 → Int32 → Int32 → Option (Int32 × Fw)} (hK73 : ∀ {w : Fw} {H : Heap} {locs : List Loc} {ls : Array Slot} {a0 : Nat} {x1 : Int32} {x2 : Int32} {x3 : Int32} {x4 : Int32} {x5 : Int32} {x6 : Int32}, Rp D dA A w H → va_S A s.heap H locs → lv_has ls 8 [(0, .ref a0), (1, .int x1), (2, .int x2), (3, .int x3), (4, .int x4), (5, .int x5), (6, .int x6)] → K73 w a0 x1 x2 x3 x4 x5 x6 = some res → W p l e (rz 6 140) s m args below meth c H locs 0 0 (MQ below (QzI D dA A res.1 res.2) args s 0 0 A) (F0 m 73 ls [])) {H : Heap} {locs : List Loc} {ls : Array Slot} {a0 : Nat} {x1 : Int32} {x2 : Int32} {x3 : Int32} {x4 : Int32} {x5 : Int32} {x6 : Int32} {x7 : Int32} (hR : Rp D dA A w H) (hS : va_S A s.heap H locs) (hl : lv_has ls 8 [(0, .ref a0), (1, .int x1), (2, .int x2), (3, .int x3), (4, .int x4), (5, .int x5), (6, .int x6), (7, .int x7)]) (h : fX7_load_b182 K73 w a0 x1 x2 x3 x4 x5 x6 x7 = some res) : W p l e (rz 6 140) s m args below meth c H locs 0 0 (MQ below (QzI D dA A res.1 res.2) args s 0 0 A) (F0 m 182 ls []) := by
  obtain ⟨hx, hb, hr, hml, hown, hts, hK, hlocks⟩ := id C
  unfold fX7_load_b182 at h
  refine lv_aload_n hx hb dX7_load_182 rfl (lv_at hl 0 rfl) ?_
  obtain ⟨r19, e, h⟩ := bd h
  refine fx_gR hx hb hts hown hK hR fl_X7_70 e dX7_load_183 ?_
  refine lv_bipush (v := 33) hx hb dX7_load_186 (by decide) ?_
  refine lv_iload hx hb dX7_load_188 (lv_at hl 4 rfl) ?_
  refine lv_iconst (v := 1) hx hb dX7_load_190 (by decide) ?_
  refine lv_iadd hx hb dX7_load_191 ?_
  refine lv_imul hx hb dX7_load_192 ?_
  refine lv_iload hx hb dX7_load_193 (lv_at hl 5 rfl) ?_
  refine lv_iadd hx hb dX7_load_195 ?_
  obtain ⟨v20, e, h⟩ := bd h
  refine fx_lI hx hb hK hR e dX7_load_196 ?_
  refine lv_iload hx hb dX7_load_197 (lv_at hl 7 rfl) ?_
  refine lv_icmp_ne (tgt := 208) hx hb dX7_load_199 (by decide) (fun c => ?_) (fun c => ?_)
  · have h := ie c h
    refine lv_iinc (v := (x5 + 1)) (lv' := [(5, .int (x5 + 1)), (0, .ref a0), (1, .int x1), (2, .int x2), (3, .int x3), (4, .int x4), (6, .int x6), (7, .int x7)]) hx hb dX7_load_208 hl (k := 5) rfl rfl (by decide) rfl (fun ls hl => ?_)
    exact qX7_load_b211 C (K73 := K73) (hK73 := @hK73) hR hS (lv_sub hl [1, 2, 3, 4, 5, 0, 6] rfl) h
  · have h := it c h
    refine lv_iinc (v := (x4 + 1)) (lv' := [(4, .int (x4 + 1)), (0, .ref a0), (1, .int x1), (2, .int x2), (3, .int x3), (5, .int x5), (6, .int x6), (7, .int x7)]) hx hb dX7_load_202 hl (k := 4) rfl rfl (by decide) rfl (fun ls hl => ?_)
    refine lv_goto (tgt := 211) hx hb dX7_load_205 (by decide) ?_
    exact qX7_load_b211 C (K73 := K73) (hK73 := @hK73) hR hS (lv_sub hl [1, 2, 3, 4, 0, 5, 6] rfl) h
def fX7_load_L73  : Nat → Fw → Nat → Int32 → Int32 → Int32 → Int32 → Int32 → Int32 → Option (Int32 × Fw)
  | 0, _, _, _, _, _, _, _, _ => none
  | n + 1, w, a0, x1, x2, x3, x4, x5, x6 => ((gR w a0 7 0).bind fun r21 => ((lI w r21 x1).bind fun v22 => (if v22 ≤ x4 then (fX7_load_b214 w a0 x1 x2 x3 x6) else if x2 ≤ x5 then (fX7_load_b214 w a0 x1 x2 x3 x6) else ((gR w a0 7 28).bind fun r23 => ((lI w r23 ((33 * x4) + x5)).bind fun v24 => ((gR w a0 7 1).bind fun r25 => ((lI w r25 ((32 * x1) + x4)).bind fun v26 => ((gR w a0 7 27).bind fun r27 => ((lI w r27 x5).bind fun v28 => (if v26 = v28 then ((gR w a0 7 28).bind fun r29 => ((lI w r29 (((33 * (x4 + 1)) + x5) + 1)).bind fun v30 => (if v24 = (1 + v30) then ((gR w a0 7 29).bind fun r31 => ((gR w a0 7 2).bind fun r32 => ((lI w r32 ((32 * x1) + x4)).bind fun v33 => ((sI w r31 x5 v33).bind fun w34 => (fX7_load_b211 (fX7_load_L73  n) w34 a0 x1 x2 x3 (x4 + 1) (x5 + 1) (x6 + 1)))))) else (fX7_load_b182 (fX7_load_L73  n) w a0 x1 x2 x3 x4 x5 x6 v24)))) else (fX7_load_b182 (fX7_load_L73  n) w a0 x1 x2 x3 x4 x5 x6 v24)))))))))))
set_option maxRecDepth 100000 in
set_option maxHeartbeats 4000000 in
theorem qX7_load_L73 {p : Program} {l : Launch} {e : Env} {s : State} {m : MethodId} {args : Array Value} {below : List Frame} {meth : Method} {c : Code} {D : va_G} {dA : Nat → ClassId} {A : Nat → Prop} (C : Cx p s m args meth c D dA RX7 cX7_load 8 (some .int)) {res : Int32 × Fw}   : ∀ (n : Nat) {w : Fw} {H : Heap} {locs : List Loc} {ls : Array Slot} {a0 : Nat} {x1 : Int32} {x2 : Int32} {x3 : Int32} {x4 : Int32} {x5 : Int32} {x6 : Int32}, Rp D dA A w H → va_S A s.heap H locs → lv_has ls 8 [(0, .ref a0), (1, .int x1), (2, .int x2), (3, .int x3), (4, .int x4), (5, .int x5), (6, .int x6)] → fX7_load_L73 n w a0 x1 x2 x3 x4 x5 x6 = some res → W p l e (rz 6 140) s m args below meth c H locs 0 0 (MQ below (QzI D dA A res.1 res.2) args s 0 0 A) (F0 m 73 ls []) := by
  obtain ⟨hx, hb, hr, hml, hown, hts, hK, hlocks⟩ := id C
  intro n
  induction n with
  | zero =>
    intro w H locs ls a0 x1 x2 x3 x4 x5 x6 hR hS hl h
    rw [fX7_load_L73.eq_1] at h
    cases h
  | succ n ih =>
    intro w H locs ls a0 x1 x2 x3 x4 x5 x6 hR hS hl h
    rw [fX7_load_L73.eq_2] at h
    refine lv_iload hx hb dX7_load_73 (lv_at hl 4 rfl) ?_
    refine lv_aload_n hx hb dX7_load_75 rfl (lv_at hl 0 rfl) ?_
    obtain ⟨r21, e, h⟩ := bd h
    refine fx_gR hx hb hts hown hK hR fl_X7_7 e dX7_load_76 ?_
    refine lv_iload_n hx hb dX7_load_79 rfl (lv_at hl 1 rfl) ?_
    obtain ⟨v22, e, h⟩ := bd h
    refine fx_lI hx hb hK hR e dX7_load_80 ?_
    refine lv_icmp_ge (tgt := 214) hx hb dX7_load_81 (by decide) (fun c => ?_) (fun c => ?_)
    · have h := it c h
      exact qX7_load_b214 C   hR hS (lv_sub hl [0, 1, 2, 3, 6] rfl) h
    · have h := ie c h
      refine lv_iload hx hb dX7_load_84 (lv_at hl 5 rfl) ?_
      refine lv_iload_n hx hb dX7_load_86 rfl (lv_at hl 2 rfl) ?_
      refine lv_icmp_ge (tgt := 214) hx hb dX7_load_87 (by decide) (fun c => ?_) (fun c => ?_)
      · have h := it c h
        exact qX7_load_b214 C   hR hS (lv_sub hl [0, 1, 2, 3, 6] rfl) h
      · have h := ie c h
        refine lv_aload_n hx hb dX7_load_90 rfl (lv_at hl 0 rfl) ?_
        obtain ⟨r23, e, h⟩ := bd h
        refine fx_gR hx hb hts hown hK hR fl_X7_70 e dX7_load_91 ?_
        refine lv_bipush (v := 33) hx hb dX7_load_94 (by decide) ?_
        refine lv_iload hx hb dX7_load_96 (lv_at hl 4 rfl) ?_
        refine lv_imul hx hb dX7_load_98 ?_
        refine lv_iload hx hb dX7_load_99 (lv_at hl 5 rfl) ?_
        refine lv_iadd hx hb dX7_load_101 ?_
        obtain ⟨v24, e, h⟩ := bd h
        refine fx_lI hx hb hK hR e dX7_load_102 ?_
        refine lv_istore (lv' := [(7, .int v24), (0, .ref a0), (1, .int x1), (2, .int x2), (3, .int x3), (4, .int x4), (5, .int x5), (6, .int x6)]) hx hb dX7_load_103 hl (by decide) rfl (fun ls hl => ?_)
        refine lv_aload_n hx hb dX7_load_105 rfl (lv_at hl 1 rfl) ?_
        obtain ⟨r25, e, h⟩ := bd h
        refine fx_gR hx hb hts hown hK hR fl_X7_13 e dX7_load_106 ?_
        refine lv_bipush (v := 32) hx hb dX7_load_109 (by decide) ?_
        refine lv_iload_n hx hb dX7_load_111 rfl (lv_at hl 2 rfl) ?_
        refine lv_imul hx hb dX7_load_112 ?_
        refine lv_iload hx hb dX7_load_113 (lv_at hl 5 rfl) ?_
        refine lv_iadd hx hb dX7_load_115 ?_
        obtain ⟨v26, e, h⟩ := bd h
        refine fx_lI hx hb hK hR e dX7_load_116 ?_
        refine lv_aload_n hx hb dX7_load_117 rfl (lv_at hl 1 rfl) ?_
        obtain ⟨r27, e, h⟩ := bd h
        refine fx_gR hx hb hts hown hK hR fl_X7_67 e dX7_load_118 ?_
        refine lv_iload hx hb dX7_load_121 (lv_at hl 6 rfl) ?_
        obtain ⟨v28, e, h⟩ := bd h
        refine fx_lI hx hb hK hR e dX7_load_123 ?_
        refine lv_icmp_ne (tgt := 182) hx hb dX7_load_124 (by decide) (fun c => ?_) (fun c => ?_)
        · have h := ie c h
          exact qX7_load_b182 C (K73 := fX7_load_L73  n) (hK73 := @ih) hR hS (lv_sub hl [1, 2, 3, 4, 5, 6, 7, 0] rfl) h
        · have h := it c h
          refine lv_iload hx hb dX7_load_127 (lv_at hl 0 rfl) ?_
          refine lv_iconst (v := 1) hx hb dX7_load_129 (by decide) ?_
          refine lv_aload_n hx hb dX7_load_130 rfl (lv_at hl 1 rfl) ?_
          obtain ⟨r29, e, h⟩ := bd h
          refine fx_gR hx hb hts hown hK hR fl_X7_70 e dX7_load_131 ?_
          refine lv_bipush (v := 33) hx hb dX7_load_134 (by decide) ?_
          refine lv_iload hx hb dX7_load_136 (lv_at hl 5 rfl) ?_
          refine lv_iconst (v := 1) hx hb dX7_load_138 (by decide) ?_
          refine lv_iadd hx hb dX7_load_139 ?_
          refine lv_imul hx hb dX7_load_140 ?_
          refine lv_iload hx hb dX7_load_141 (lv_at hl 6 rfl) ?_
          refine lv_iadd hx hb dX7_load_143 ?_
          refine lv_iconst (v := 1) hx hb dX7_load_144 (by decide) ?_
          refine lv_iadd hx hb dX7_load_145 ?_
          obtain ⟨v30, e, h⟩ := bd h
          refine fx_lI hx hb hK hR e dX7_load_146 ?_
          refine lv_iadd hx hb dX7_load_147 ?_
          refine lv_icmp_ne (tgt := 182) hx hb dX7_load_148 (by decide) (fun c => ?_) (fun c => ?_)
          · have h := ie c h
            exact qX7_load_b182 C (K73 := fX7_load_L73  n) (hK73 := @ih) hR hS (lv_sub hl [1, 2, 3, 4, 5, 6, 7, 0] rfl) h
          · have h := it c h
            refine lv_aload_n hx hb dX7_load_151 rfl (lv_at hl 1 rfl) ?_
            obtain ⟨r31, e, h⟩ := bd h
            refine fx_gR hx hb hts hown hK hR fl_X7_73 e dX7_load_152 ?_
            refine lv_iload hx hb dX7_load_155 (lv_at hl 6 rfl) ?_
            refine lv_aload_n hx hb dX7_load_157 rfl (lv_at hl 1 rfl) ?_
            obtain ⟨r32, e, h⟩ := bd h
            refine fx_gR hx hb hts hown hK hR fl_X7_16 e dX7_load_158 ?_
            refine lv_bipush (v := 32) hx hb dX7_load_161 (by decide) ?_
            refine lv_iload_n hx hb dX7_load_163 rfl (lv_at hl 2 rfl) ?_
            refine lv_imul hx hb dX7_load_164 ?_
            refine lv_iload hx hb dX7_load_165 (lv_at hl 5 rfl) ?_
            refine lv_iadd hx hb dX7_load_167 ?_
            obtain ⟨v33, e, h⟩ := bd h
            refine fx_lI hx hb hK hR e dX7_load_168 ?_
            obtain ⟨w34, e, h⟩ := bd h
            refine fx_sI hx hb hK hR hS e dX7_load_169 (fun H locs hR hS => ?_)
            refine lv_iinc (v := (x6 + 1)) (lv' := [(6, .int (x6 + 1)), (7, .int v24), (0, .ref a0), (1, .int x1), (2, .int x2), (3, .int x3), (4, .int x4), (5, .int x5)]) hx hb dX7_load_170 hl (k := 7) rfl rfl (by decide) rfl (fun ls hl => ?_)
            refine lv_iinc (v := (x4 + 1)) (lv' := [(4, .int (x4 + 1)), (6, .int (x6 + 1)), (7, .int v24), (0, .ref a0), (1, .int x1), (2, .int x2), (3, .int x3), (5, .int x5)]) hx hb dX7_load_173 hl (k := 6) rfl rfl (by decide) rfl (fun ls hl => ?_)
            refine lv_iinc (v := (x5 + 1)) (lv' := [(5, .int (x5 + 1)), (4, .int (x4 + 1)), (6, .int (x6 + 1)), (7, .int v24), (0, .ref a0), (1, .int x1), (2, .int x2), (3, .int x3)]) hx hb dX7_load_176 hl (k := 7) rfl rfl (by decide) rfl (fun ls hl => ?_)
            refine lv_goto (tgt := 211) hx hb dX7_load_179 (by decide) ?_
            exact qX7_load_b211 C (K73 := fX7_load_L73  n) (hK73 := @ih) hR hS (lv_sub hl [4, 5, 6, 7, 1, 0, 2] rfl) h
def fX7_load_L44  : Nat → Fw → Nat → Int32 → Int32 → Int32 → Int32 → Option (Int32 × Fw)
  | 0, _, _, _, _, _, _ => none
  | n + 1, w, a0, x1, x2, x3, x4 => if x2 ≤ x4 then (fX7_load_L73 1000 w a0 x1 x2 x3 0 0 0) else ((gR w a0 7 29).bind fun r35 => ((sI w r35 x4 (-1)).bind fun w36 => (fX7_load_L44  n w36 a0 x1 x2 x3 (x4 + 1))))
set_option maxRecDepth 100000 in
set_option maxHeartbeats 4000000 in
theorem qX7_load_L44 {p : Program} {l : Launch} {e : Env} {s : State} {m : MethodId} {args : Array Value} {below : List Frame} {meth : Method} {c : Code} {D : va_G} {dA : Nat → ClassId} {A : Nat → Prop} (C : Cx p s m args meth c D dA RX7 cX7_load 8 (some .int)) {res : Int32 × Fw}   : ∀ (n : Nat) {w : Fw} {H : Heap} {locs : List Loc} {ls : Array Slot} {a0 : Nat} {x1 : Int32} {x2 : Int32} {x3 : Int32} {x4 : Int32}, Rp D dA A w H → va_S A s.heap H locs → lv_has ls 8 [(0, .ref a0), (1, .int x1), (2, .int x2), (3, .int x3), (4, .int x4)] → fX7_load_L44 n w a0 x1 x2 x3 x4 = some res → W p l e (rz 6 140) s m args below meth c H locs 0 0 (MQ below (QzI D dA A res.1 res.2) args s 0 0 A) (F0 m 44 ls []) := by
  obtain ⟨hx, hb, hr, hml, hown, hts, hK, hlocks⟩ := id C
  intro n
  induction n with
  | zero =>
    intro w H locs ls a0 x1 x2 x3 x4 hR hS hl h
    rw [fX7_load_L44.eq_1] at h
    cases h
  | succ n ih =>
    intro w H locs ls a0 x1 x2 x3 x4 hR hS hl h
    rw [fX7_load_L44.eq_2] at h
    refine lv_iload hx hb dX7_load_44 (lv_at hl 4 rfl) ?_
    refine lv_iload_n hx hb dX7_load_46 rfl (lv_at hl 2 rfl) ?_
    refine lv_icmp_ge (tgt := 64) hx hb dX7_load_47 (by decide) (fun c => ?_) (fun c => ?_)
    · have h := it c h
      refine lv_iconst (v := 0) hx hb dX7_load_64 (by decide) ?_
      refine lv_istore (lv' := [(4, .int 0), (0, .ref a0), (1, .int x1), (2, .int x2), (3, .int x3)]) hx hb dX7_load_65 hl (by decide) rfl (fun ls hl => ?_)
      refine lv_iconst (v := 0) hx hb dX7_load_67 (by decide) ?_
      refine lv_istore (lv' := [(5, .int 0), (4, .int 0), (0, .ref a0), (1, .int x1), (2, .int x2), (3, .int x3)]) hx hb dX7_load_68 hl (by decide) rfl (fun ls hl => ?_)
      refine lv_iconst (v := 0) hx hb dX7_load_70 (by decide) ?_
      refine lv_istore (lv' := [(6, .int 0), (5, .int 0), (4, .int 0), (0, .ref a0), (1, .int x1), (2, .int x2), (3, .int x3)]) hx hb dX7_load_71 hl (by decide) rfl (fun ls hl => ?_)
      exact qX7_load_L73 C   1000 hR hS (lv_sub hl [3, 4, 5, 6, 2, 1, 0] rfl) h
    · have h := ie c h
      refine lv_aload_n hx hb dX7_load_50 rfl (lv_at hl 0 rfl) ?_
      obtain ⟨r35, e, h⟩ := bd h
      refine fx_gR hx hb hts hown hK hR fl_X7_73 e dX7_load_51 ?_
      refine lv_iload hx hb dX7_load_54 (lv_at hl 4 rfl) ?_
      refine lv_iconst (v := (-1)) hx hb dX7_load_56 (by decide) ?_
      obtain ⟨w36, e, h⟩ := bd h
      refine fx_sI hx hb hK hR hS e dX7_load_57 (fun H locs hR hS => ?_)
      refine lv_iinc (v := (x4 + 1)) (lv' := [(4, .int (x4 + 1)), (0, .ref a0), (1, .int x1), (2, .int x2), (3, .int x3)]) hx hb dX7_load_58 hl (k := 4) rfl rfl (by decide) rfl (fun ls hl => ?_)
      refine lv_goto (tgt := 44) hx hb dX7_load_61 (by decide) ?_
      exact ih hR hS (lv_sub hl [1, 2, 3, 4, 0] rfl) h
def fX7_load_b23  (w : Fw)  : Option (Int32 × Fw) := some ((-1), w)
set_option maxRecDepth 100000 in
set_option maxHeartbeats 4000000 in
theorem qX7_load_b23 {p : Program} {l : Launch} {e : Env} {s : State} {m : MethodId} {args : Array Value} {below : List Frame} {meth : Method} {c : Code} {D : va_G} {dA : Nat → ClassId} {A : Nat → Prop} (C : Cx p s m args meth c D dA RX7 cX7_load 8 (some .int)) {w : Fw} {res : Int32 × Fw}   {H : Heap} {locs : List Loc} {ls : Array Slot}  (hR : Rp D dA A w H) (hS : va_S A s.heap H locs) (hl : lv_has ls 8 []) (h : fX7_load_b23 w = some res) : W p l e (rz 6 140) s m args below meth c H locs 0 0 (MQ below (QzI D dA A res.1 res.2) args s 0 0 A) (F0 m 23 ls []) := by
  obtain ⟨hx, hb, hr, hml, hown, hts, hK, hlocks⟩ := id C
  unfold fX7_load_b23 at h
  refine lv_iconst (v := (-1)) hx hb dX7_load_23 (by decide) ?_
  exact fx_iret hx hb hr hlocks (pr1 h) (pr2 h) hR hS dX7_load_24
def fX7_load (w : Fw) (a0 : Nat) (x1 : Int32) : Option (Int32 × Fw) := ((gI w a0 7 30).bind fun v37 => ((pF w a0 7 30 (.int 0)).bind fun w38 => ((fX7_isFile w38 x1).bind fun v39 => (if v39 = 0 then (fX7_load_b23 w38) else if v37 ≤ 32 then ((isO w38 a0 7).bind fun _ => ((fX7_begins w38 a0).bind fun w40 => ((isO w40 a0 7).bind fun _ => ((fX7_defs w40 a0 x1).bind fun v41 => ((isO w40 a0 7).bind fun _ => ((fX7_commons w40 a0 x1 v37).bind fun w42 => (fX7_load_L44 1000 w42 a0 x1 v37 v41 0))))))) else (fX7_load_b23 w38)))))
set_option maxRecDepth 100000 in
set_option maxHeartbeats 4000000 in
theorem mX7_load (l : Launch) (D : va_G) (dA : Nat → ClassId) (A : Nat → Prop) {w : Fw} {a0 : Nat} {x1 : Int32} {res : Int32 × Fw} (h : fX7_load w a0 x1 = some res) : Met l yX7_load (wz yX7_load cX7_load 8 (some .int)) (rz 6 140) (Pz D dA A w [.ref a0, .int x1]) (QzI D dA A res.1 res.2) 0 0 A := by
  refine Met.ofW (cc := cX7_load) (maxL := 8) (ret := (some .int)) (by decide) rfl ?_
  intro p e s m args below meth c s₁ B hml hv
  obtain ⟨rfl, hR, hK⟩ := hv
  have hx := B.exec
  have hb := B.bytes
  have hr := B.returns
  have hts : ∀ w ∈ lw_g, w.before [.ref a0, .int x1].toArray s = true := fun w hw => atoms_spec (ws := wz yX7_load cX7_load 8 (some .int)) B.pre w (List.mem_cons_of_mem _ hw)
  have hown : s.vm.findClass RX7 = some m.cls := findClass_of_methodNamed B.named
  have hlocks := B.notSynchronized
  have C : Cx p s m [.ref a0, .int x1].toArray meth c D dA RX7 cX7_load 8 (some .int) := ⟨hx, hb, hr, hml, hown, hts, hK, hlocks⟩
  have hS : va_S A s.heap s.heap [] := va_S.rf
  have hl := lv_entry ([.ref a0, .int x1]) (n := 8) (Nat.le_of_ble_eq_true rfl)
  rw [lg_entry_eq]
  generalize (lg_sl ([.ref a0, .int x1]) ++ List.replicate (8 - (lg_sl ([.ref a0, .int x1])).length) Slot.unset).toArray = ls at hl ⊢
  have hl : lv_has ls 8 [(0, .ref a0), (1, .int x1)] := hl
  unfold fX7_load at h
  show W p l e (rz 6 140) s m _ below meth c s.heap [] 0 0 _ _
  refine lv_aload_n hx hb dX7_load_0 rfl (lv_at hl 0 rfl) ?_
  obtain ⟨v37, e, h⟩ := bd h
  refine fx_gI hx hb hts hown hK hR fl_X7_162 e dX7_load_1 ?_
  refine lv_istore_n (lv' := [(2, .int v37), (0, .ref a0), (1, .int x1)]) hx hb dX7_load_4 rfl hl (by decide) rfl (fun ls hl => ?_)
  refine lv_aload_n hx hb dX7_load_5 rfl (lv_at hl 1 rfl) ?_
  refine lv_iconst (v := 0) hx hb dX7_load_6 (by decide) ?_
  obtain ⟨w38, e, h⟩ := bd h
  refine fx_p hx hb hts hown hK hR hS fp_X7_162 e rfl rfl dX7_load_7 (fun H locs hR hS => ?_)
  refine lv_iload_n hx hb dX7_load_10 rfl (lv_at hl 2 rfl) ?_
  obtain ⟨v39, e, h⟩ := bd h
  refine fx_sI' (As := [.int x1]) (rest := []) hx hb hml hts hown hK hR hS (mX7_isFile l D dA A e) my_X7_isFile ms_X7_isFile ml_X7_80 rfl hl.1 rfl (Nat.le_of_ble_eq_true rfl) dX7_load_11 ⟨Nat.le_of_ble_eq_true rfl, Nat.le_of_ble_eq_true rfl⟩ ⟨Nat.le_refl _, Nat.le_refl _⟩ (fun H locs hR hS => ?_)
  refine lv_if_eq (tgt := 23) hx hb dX7_load_14 (by decide) (fun c => ?_) (fun c => ?_)
  · have h := it c h
    exact qX7_load_b23 C   hR hS (lv_sub hl [] rfl) h
  · have h := ie c h
    refine lv_iload_n hx hb dX7_load_17 rfl (lv_at hl 0 rfl) ?_
    refine lv_bipush (v := 32) hx hb dX7_load_18 (by decide) ?_
    refine lv_icmp_le (tgt := 25) hx hb dX7_load_20 (by decide) (fun c => ?_) (fun c => ?_)
    · have h := it c h
      refine lv_aload_n hx hb dX7_load_25 rfl (lv_at hl 1 rfl) ?_
      obtain ⟨_, eO, h⟩ := bd h
      obtain ⟨w40, e, h⟩ := bd h
      refine fx_vV (As := []) (rest := []) hx hb hml hts hown hK hR hS eO (mX7_begins l D dA A e) my_X7_begins mv_X7_begins rfl ml_X7_149 rfl hl.1 rfl (Nat.le_of_ble_eq_true rfl) dX7_load_26 ⟨Nat.le_of_ble_eq_true rfl, Nat.le_of_ble_eq_true rfl⟩ ⟨Nat.le_refl _, Nat.le_refl _⟩ (fun H locs hR hS => ?_)
      refine lv_aload_n hx hb dX7_load_29 rfl (lv_at hl 1 rfl) ?_
      refine lv_iload_n hx hb dX7_load_30 rfl (lv_at hl 2 rfl) ?_
      obtain ⟨_, eO, h⟩ := bd h
      obtain ⟨v41, e, h⟩ := bd h
      refine fx_vI (As := [.int x1]) (rest := []) hx hb hml hts hown hK hR hS eO (mX7_defs l D dA A e) my_X7_defs mv_X7_defs rfl ml_X7_91 rfl hl.1 rfl (Nat.le_of_ble_eq_true rfl) dX7_load_31 ⟨Nat.le_of_ble_eq_true rfl, Nat.le_of_ble_eq_true rfl⟩ ⟨Nat.le_refl _, Nat.le_refl _⟩ (fun H locs hR hS => ?_)
      refine lv_istore_n (lv' := [(3, .int v41), (2, .int v37), (0, .ref a0), (1, .int x1)]) hx hb dX7_load_34 rfl hl (by decide) rfl (fun ls hl => ?_)
      refine lv_aload_n hx hb dX7_load_35 rfl (lv_at hl 2 rfl) ?_
      refine lv_iload_n hx hb dX7_load_36 rfl (lv_at hl 3 rfl) ?_
      refine lv_iload_n hx hb dX7_load_37 rfl (lv_at hl 1 rfl) ?_
      obtain ⟨_, eO, h⟩ := bd h
      obtain ⟨w42, e, h⟩ := bd h
      refine fx_vV (As := [.int x1, .int v37]) (rest := []) hx hb hml hts hown hK hR hS eO (mX7_commons l D dA A e) my_X7_commons mv_X7_commons rfl ml_X7_170 rfl hl.1 rfl (Nat.le_of_ble_eq_true rfl) dX7_load_38 ⟨Nat.le_of_ble_eq_true rfl, Nat.le_of_ble_eq_true rfl⟩ ⟨Nat.le_refl _, Nat.le_refl _⟩ (fun H locs hR hS => ?_)
      refine lv_iconst (v := 0) hx hb dX7_load_41 (by decide) ?_
      refine lv_istore (lv' := [(4, .int 0), (3, .int v41), (2, .int v37), (0, .ref a0), (1, .int x1)]) hx hb dX7_load_42 hl (by decide) rfl (fun ls hl => ?_)
      exact qX7_load_L44 C   1000 hR hS (lv_sub hl [3, 4, 2, 1, 0] rfl) h
    · have h := ie c h
      exact qX7_load_b23 C   hR hS (lv_sub hl [] rfl) h
def fX7_day (w : Fw) (a0 : Nat) : Option (Int32 × Fw) := ((gI w a0 7 4).bind fun v1 => (if v1 = 10000 then some ((-1), w) else ((gI w a0 7 4).bind fun v2 => ((pF w a0 7 4 (.int (v2 + 1))).bind fun w3 => ((gI w3 a0 7 4).bind fun v4 => some (v4, w3))))))
set_option maxRecDepth 100000 in
set_option maxHeartbeats 4000000 in
theorem mX7_day (l : Launch) (D : va_G) (dA : Nat → ClassId) (A : Nat → Prop) {w : Fw} {a0 : Nat} {res : Int32 × Fw} (h : fX7_day w a0 = some res) : Met l yX7_day (wz yX7_day cX7_day 1 (some .int)) (rz 0 0) (Pz D dA A w [.ref a0]) (QzI D dA A res.1 res.2) 0 0 A := by
  refine Met.ofW (cc := cX7_day) (maxL := 1) (ret := (some .int)) (by decide) rfl ?_
  intro p e s m args below meth c s₁ B hml hv
  obtain ⟨rfl, hR, hK⟩ := hv
  have hx := B.exec
  have hb := B.bytes
  have hr := B.returns
  have hts : ∀ w ∈ lw_g, w.before [.ref a0].toArray s = true := fun w hw => atoms_spec (ws := wz yX7_day cX7_day 1 (some .int)) B.pre w (List.mem_cons_of_mem _ hw)
  have hown : s.vm.findClass RX7 = some m.cls := findClass_of_methodNamed B.named
  have hlocks := B.notSynchronized
  have C : Cx p s m [.ref a0].toArray meth c D dA RX7 cX7_day 1 (some .int) := ⟨hx, hb, hr, hml, hown, hts, hK, hlocks⟩
  have hS : va_S A s.heap s.heap [] := va_S.rf
  have hl := lv_entry ([.ref a0]) (n := 1) (Nat.le_of_ble_eq_true rfl)
  rw [lg_entry_eq]
  generalize (lg_sl ([.ref a0]) ++ List.replicate (1 - (lg_sl ([.ref a0])).length) Slot.unset).toArray = ls at hl ⊢
  have hl : lv_has ls 1 [(0, .ref a0)] := hl
  unfold fX7_day at h
  show W p l e (rz 0 0) s m _ below meth c s.heap [] 0 0 _ _
  refine lv_aload_n hx hb dX7_day_0 rfl (lv_at hl 0 rfl) ?_
  obtain ⟨v1, e, h⟩ := bd h
  refine fx_gI hx hb hts hown hK hR fl_X7_173 e dX7_day_1 ?_
  refine lv_sipush (v := 10000) hx hb dX7_day_4 (by decide) ?_
  refine lv_icmp_ne (tgt := 12) hx hb dX7_day_7 (by decide) (fun c => ?_) (fun c => ?_)
  · have h := ie c h
    refine lv_aload_n hx hb dX7_day_12 rfl (lv_at hl 0 rfl) ?_
    refine lv_dup hx hb dX7_day_13 rfl ?_
    obtain ⟨v2, e, h⟩ := bd h
    refine fx_gI hx hb hts hown hK hR fl_X7_173 e dX7_day_14 ?_
    refine lv_iconst (v := 1) hx hb dX7_day_17 (by decide) ?_
    refine lv_iadd hx hb dX7_day_18 ?_
    obtain ⟨w3, e, h⟩ := bd h
    refine fx_p hx hb hts hown hK hR hS fp_X7_173 e rfl rfl dX7_day_19 (fun H locs hR hS => ?_)
    refine lv_aload_n hx hb dX7_day_22 rfl (lv_at hl 0 rfl) ?_
    obtain ⟨v4, e, h⟩ := bd h
    refine fx_gI hx hb hts hown hK hR fl_X7_173 e dX7_day_23 ?_
    exact fx_iret hx hb hr hlocks (pr1 h) (pr2 h) hR hS dX7_day_26
  · have h := it c h
    refine lv_iconst (v := (-1)) hx hb dX7_day_10 (by decide) ?_
    exact fx_iret hx hb hr hlocks (pr1 h) (pr2 h) hR hS dX7_day_11
def fX7_isSilent_b18 (w : Fw)  (s0 : Int32) : Option (Int32) := zb s0
set_option maxRecDepth 100000 in
set_option maxHeartbeats 4000000 in
theorem qX7_isSilent_b18 {p : Program} {l : Launch} {e : Env} {s : State} {m : MethodId} {args : Array Value} {below : List Frame} {meth : Method} {c : Code} {D : va_G} {dA : Nat → ClassId} {A : Nat → Prop} (C : Cx p s m args meth c D dA RX7 cX7_isSilent 2 (some .boolean)) {w : Fw} {res : Int32}   {H : Heap} {locs : List Loc} {ls : Array Slot} {s0 : Int32} (hR : Rp D dA A w H) (hS : va_S A s.heap H locs) (hl : lv_has ls 2 []) (h : fX7_isSilent_b18 w s0 = some res) : W p l e (rz 0 0) s m args below meth c H locs 0 0 (MQ below (QzI D dA A res w) args s 0 0 A) (F0 m 18 ls [.int s0]) := by
  obtain ⟨hx, hb, hr, hml, hown, hts, hK, hlocks⟩ := id C
  unfold fX7_isSilent_b18 at h
  exact fx_zret hx hb hr hlocks h rfl hR hS dX7_isSilent_18
def fX7_isSilent (w : Fw) (a0 : Nat) (x1 : Int32) : Option (Int32) := ((gI w a0 7 4).bind fun v1 => ((gR w a0 7 15).bind fun r2 => ((lI w r2 x1).bind fun v3 => (if v3 ≤ v1 then (fX7_isSilent_b18 w 0) else (fX7_isSilent_b18 w 1)))))
set_option maxRecDepth 100000 in
set_option maxHeartbeats 4000000 in
theorem mX7_isSilent (l : Launch) (D : va_G) (dA : Nat → ClassId) (A : Nat → Prop) {w : Fw} {a0 : Nat} {x1 : Int32} {res : Int32} (h : fX7_isSilent w a0 x1 = some res) : Met l yX7_isSilent (wz yX7_isSilent cX7_isSilent 2 (some .boolean)) (rz 0 0) (Pz D dA A w [.ref a0, .int x1]) (QzI D dA A res w) 0 0 A := by
  refine Met.ofW (cc := cX7_isSilent) (maxL := 2) (ret := (some .boolean)) (by decide) rfl ?_
  intro p e s m args below meth c s₁ B hml hv
  obtain ⟨rfl, hR, hK⟩ := hv
  have hx := B.exec
  have hb := B.bytes
  have hr := B.returns
  have hts : ∀ w ∈ lw_g, w.before [.ref a0, .int x1].toArray s = true := fun w hw => atoms_spec (ws := wz yX7_isSilent cX7_isSilent 2 (some .boolean)) B.pre w (List.mem_cons_of_mem _ hw)
  have hown : s.vm.findClass RX7 = some m.cls := findClass_of_methodNamed B.named
  have hlocks := B.notSynchronized
  have C : Cx p s m [.ref a0, .int x1].toArray meth c D dA RX7 cX7_isSilent 2 (some .boolean) := ⟨hx, hb, hr, hml, hown, hts, hK, hlocks⟩
  have hS : va_S A s.heap s.heap [] := va_S.rf
  have hl := lv_entry ([.ref a0, .int x1]) (n := 2) (Nat.le_of_ble_eq_true rfl)
  rw [lg_entry_eq]
  generalize (lg_sl ([.ref a0, .int x1]) ++ List.replicate (2 - (lg_sl ([.ref a0, .int x1])).length) Slot.unset).toArray = ls at hl ⊢
  have hl : lv_has ls 2 [(0, .ref a0), (1, .int x1)] := hl
  unfold fX7_isSilent at h
  show W p l e (rz 0 0) s m _ below meth c s.heap [] 0 0 _ _
  refine lv_aload_n hx hb dX7_isSilent_0 rfl (lv_at hl 0 rfl) ?_
  obtain ⟨v1, e, h⟩ := bd h
  refine fx_gI hx hb hts hown hK hR fl_X7_173 e dX7_isSilent_1 ?_
  refine lv_aload_n hx hb dX7_isSilent_4 rfl (lv_at hl 0 rfl) ?_
  obtain ⟨r2, e, h⟩ := bd h
  refine fx_gR hx hb hts hown hK hR fl_X7_34 e dX7_isSilent_5 ?_
  refine lv_iload_n hx hb dX7_isSilent_8 rfl (lv_at hl 1 rfl) ?_
  obtain ⟨v3, e, h⟩ := bd h
  refine fx_lI hx hb hK hR e dX7_isSilent_9 ?_
  refine lv_icmp_ge (tgt := 17) hx hb dX7_isSilent_10 (by decide) (fun c => ?_) (fun c => ?_)
  · have h := it c h
    refine lv_iconst (v := 0) hx hb dX7_isSilent_17 (by decide) ?_
    exact qX7_isSilent_b18 C   hR hS (lv_sub hl [] rfl) h
  · have h := ie c h
    refine lv_iconst (v := 1) hx hb dX7_isSilent_13 (by decide) ?_
    refine lv_goto (tgt := 18) hx hb dX7_isSilent_14 (by decide) ?_
    exact qX7_isSilent_b18 C   hR hS (lv_sub hl [] rfl) h
def fX7_isFinding (w : Fw) (a0 : Nat) (x1 : Int32) : Option (Int32) := ((gI w a0 7 8).bind fun v1 => ((fX7_isIn w x1 0 (v1 - 1)).bind fun v2 => zb v2))
set_option maxRecDepth 100000 in
set_option maxHeartbeats 4000000 in
theorem mX7_isFinding (l : Launch) (D : va_G) (dA : Nat → ClassId) (A : Nat → Prop) {w : Fw} {a0 : Nat} {x1 : Int32} {res : Int32} (h : fX7_isFinding w a0 x1 = some res) : Met l yX7_isFinding (wz yX7_isFinding cX7_isFinding 2 (some .boolean)) (rz 1 22) (Pz D dA A w [.ref a0, .int x1]) (QzI D dA A res w) 0 0 A := by
  refine Met.ofW (cc := cX7_isFinding) (maxL := 2) (ret := (some .boolean)) (by decide) rfl ?_
  intro p e s m args below meth c s₁ B hml hv
  obtain ⟨rfl, hR, hK⟩ := hv
  have hx := B.exec
  have hb := B.bytes
  have hr := B.returns
  have hts : ∀ w ∈ lw_g, w.before [.ref a0, .int x1].toArray s = true := fun w hw => atoms_spec (ws := wz yX7_isFinding cX7_isFinding 2 (some .boolean)) B.pre w (List.mem_cons_of_mem _ hw)
  have hown : s.vm.findClass RX7 = some m.cls := findClass_of_methodNamed B.named
  have hlocks := B.notSynchronized
  have C : Cx p s m [.ref a0, .int x1].toArray meth c D dA RX7 cX7_isFinding 2 (some .boolean) := ⟨hx, hb, hr, hml, hown, hts, hK, hlocks⟩
  have hS : va_S A s.heap s.heap [] := va_S.rf
  have hl := lv_entry ([.ref a0, .int x1]) (n := 2) (Nat.le_of_ble_eq_true rfl)
  rw [lg_entry_eq]
  generalize (lg_sl ([.ref a0, .int x1]) ++ List.replicate (2 - (lg_sl ([.ref a0, .int x1])).length) Slot.unset).toArray = ls at hl ⊢
  have hl : lv_has ls 2 [(0, .ref a0), (1, .int x1)] := hl
  unfold fX7_isFinding at h
  show W p l e (rz 1 22) s m _ below meth c s.heap [] 0 0 _ _
  refine lv_iload_n hx hb dX7_isFinding_0 rfl (lv_at hl 1 rfl) ?_
  refine lv_iconst (v := 0) hx hb dX7_isFinding_1 (by decide) ?_
  refine lv_aload_n hx hb dX7_isFinding_2 rfl (lv_at hl 0 rfl) ?_
  obtain ⟨v1, e, h⟩ := bd h
  refine fx_gI hx hb hts hown hK hR fl_X7_118 e dX7_isFinding_3 ?_
  refine lv_iconst (v := 1) hx hb dX7_isFinding_6 (by decide) ?_
  refine lv_isub hx hb dX7_isFinding_7 ?_
  obtain ⟨v2, e, h⟩ := bd h
  refine fx_sI' (As := [.int x1, .int 0, .int (v1 - 1)]) (rest := []) hx hb hml hts hown hK hR hS (mX7_isIn l D dA A e) my_X7_isIn ms_X7_isIn ml_X7_76 rfl hl.1 rfl (Nat.le_of_ble_eq_true rfl) dX7_isFinding_8 ⟨Nat.le_of_ble_eq_true rfl, Nat.le_of_ble_eq_true rfl⟩ ⟨Nat.le_refl _, Nat.le_refl _⟩ (fun H locs hR hS => ?_)
  exact fx_zret hx hb hr hlocks h rfl hR hS dX7_isFinding_11
def fX7_silence_b28  (w : Fw)  : Option (Int32 × Fw) := (zb 0).bind fun z1 => some (z1, w)
set_option maxRecDepth 100000 in
set_option maxHeartbeats 4000000 in
theorem qX7_silence_b28 {p : Program} {l : Launch} {e : Env} {s : State} {m : MethodId} {args : Array Value} {below : List Frame} {meth : Method} {c : Code} {D : va_G} {dA : Nat → ClassId} {A : Nat → Prop} (C : Cx p s m args meth c D dA RX7 cX7_silence 4 (some .boolean)) {w : Fw} {res : Int32 × Fw}   {H : Heap} {locs : List Loc} {ls : Array Slot}  (hR : Rp D dA A w H) (hS : va_S A s.heap H locs) (hl : lv_has ls 4 []) (h : fX7_silence_b28 w = some res) : W p l e (rz 2 43) s m args below meth c H locs 0 0 (MQ below (QzI D dA A res.1 res.2) args s 0 0 A) (F0 m 28 ls []) := by
  obtain ⟨hx, hb, hr, hml, hown, hts, hK, hlocks⟩ := id C
  unfold fX7_silence_b28 at h
  refine lv_iconst (v := 0) hx hb dX7_silence_28 (by decide) ?_
  obtain ⟨z1, e, h⟩ := bd h
  exact fx_zret hx hb hr hlocks (e.trans (congrArg some (pr1 h))) (pr2 h) hR hS dX7_silence_29
def fX7_silence (w : Fw) (a0 : Nat) (x1 : Int32) (x2 : Int32) (x3 : Int32) : Option (Int32 × Fw) := ((isO w a0 7).bind fun _ => ((fX7_isFinding w a0 x1).bind fun v2 => (if v2 = 0 then (fX7_silence_b28 w) else ((fX7_isIn w x2 1 99).bind fun v3 => (if v3 = 0 then (fX7_silence_b28 w) else ((fX7_isIn w x3 0 99).bind fun v4 => (if v4 = 0 then (fX7_silence_b28 w) else ((gR w a0 7 15).bind fun r5 => ((gI w a0 7 4).bind fun v6 => ((sI w r5 x1 (v6 + x2)).bind fun w7 => ((gR w7 a0 7 16).bind fun r8 => ((sI w7 r8 x1 x3).bind fun w9 => (zb 1).bind fun z10 => some (z10, w9)))))))))))))
set_option maxRecDepth 100000 in
set_option maxHeartbeats 4000000 in
theorem mX7_silence (l : Launch) (D : va_G) (dA : Nat → ClassId) (A : Nat → Prop) {w : Fw} {a0 : Nat} {x1 : Int32} {x2 : Int32} {x3 : Int32} {res : Int32 × Fw} (h : fX7_silence w a0 x1 x2 x3 = some res) : Met l yX7_silence (wz yX7_silence cX7_silence 4 (some .boolean)) (rz 2 43) (Pz D dA A w [.ref a0, .int x1, .int x2, .int x3]) (QzI D dA A res.1 res.2) 0 0 A := by
  refine Met.ofW (cc := cX7_silence) (maxL := 4) (ret := (some .boolean)) (by decide) rfl ?_
  intro p e s m args below meth c s₁ B hml hv
  obtain ⟨rfl, hR, hK⟩ := hv
  have hx := B.exec
  have hb := B.bytes
  have hr := B.returns
  have hts : ∀ w ∈ lw_g, w.before [.ref a0, .int x1, .int x2, .int x3].toArray s = true := fun w hw => atoms_spec (ws := wz yX7_silence cX7_silence 4 (some .boolean)) B.pre w (List.mem_cons_of_mem _ hw)
  have hown : s.vm.findClass RX7 = some m.cls := findClass_of_methodNamed B.named
  have hlocks := B.notSynchronized
  have C : Cx p s m [.ref a0, .int x1, .int x2, .int x3].toArray meth c D dA RX7 cX7_silence 4 (some .boolean) := ⟨hx, hb, hr, hml, hown, hts, hK, hlocks⟩
  have hS : va_S A s.heap s.heap [] := va_S.rf
  have hl := lv_entry ([.ref a0, .int x1, .int x2, .int x3]) (n := 4) (Nat.le_of_ble_eq_true rfl)
  rw [lg_entry_eq]
  generalize (lg_sl ([.ref a0, .int x1, .int x2, .int x3]) ++ List.replicate (4 - (lg_sl ([.ref a0, .int x1, .int x2, .int x3])).length) Slot.unset).toArray = ls at hl ⊢
  have hl : lv_has ls 4 [(0, .ref a0), (1, .int x1), (2, .int x2), (3, .int x3)] := hl
  unfold fX7_silence at h
  show W p l e (rz 2 43) s m _ below meth c s.heap [] 0 0 _ _
  refine lv_aload_n hx hb dX7_silence_0 rfl (lv_at hl 0 rfl) ?_
  refine lv_iload_n hx hb dX7_silence_1 rfl (lv_at hl 1 rfl) ?_
  obtain ⟨_, eO, h⟩ := bd h
  obtain ⟨v2, e, h⟩ := bd h
  refine fx_vI (As := [.int x1]) (rest := []) hx hb hml hts hown hK hR hS eO (mX7_isFinding l D dA A e) my_X7_isFinding mv_X7_isFinding rfl ml_X7_176 rfl hl.1 rfl (Nat.le_of_ble_eq_true rfl) dX7_silence_2 ⟨Nat.le_of_ble_eq_true rfl, Nat.le_of_ble_eq_true rfl⟩ ⟨Nat.le_refl _, Nat.le_refl _⟩ (fun H locs hR hS => ?_)
  refine lv_if_eq (tgt := 28) hx hb dX7_silence_5 (by decide) (fun c => ?_) (fun c => ?_)
  · have h := it c h
    exact qX7_silence_b28 C   hR hS (lv_sub hl [] rfl) h
  · have h := ie c h
    refine lv_iload_n hx hb dX7_silence_8 rfl (lv_at hl 2 rfl) ?_
    refine lv_iconst (v := 1) hx hb dX7_silence_9 (by decide) ?_
    refine lv_bipush (v := 99) hx hb dX7_silence_10 (by decide) ?_
    obtain ⟨v3, e, h⟩ := bd h
    refine fx_sI' (As := [.int x2, .int 1, .int 99]) (rest := []) hx hb hml hts hown hK hR hS (mX7_isIn l D dA A e) my_X7_isIn ms_X7_isIn ml_X7_76 rfl hl.1 rfl (Nat.le_of_ble_eq_true rfl) dX7_silence_12 ⟨Nat.le_of_ble_eq_true rfl, Nat.le_of_ble_eq_true rfl⟩ ⟨Nat.le_refl _, Nat.le_refl _⟩ (fun H locs hR hS => ?_)
    refine lv_if_eq (tgt := 28) hx hb dX7_silence_15 (by decide) (fun c => ?_) (fun c => ?_)
    · have h := it c h
      exact qX7_silence_b28 C   hR hS (lv_sub hl [] rfl) h
    · have h := ie c h
      refine lv_iload_n hx hb dX7_silence_18 rfl (lv_at hl 3 rfl) ?_
      refine lv_iconst (v := 0) hx hb dX7_silence_19 (by decide) ?_
      refine lv_bipush (v := 99) hx hb dX7_silence_20 (by decide) ?_
      obtain ⟨v4, e, h⟩ := bd h
      refine fx_sI' (As := [.int x3, .int 0, .int 99]) (rest := []) hx hb hml hts hown hK hR hS (mX7_isIn l D dA A e) my_X7_isIn ms_X7_isIn ml_X7_76 rfl hl.1 rfl (Nat.le_of_ble_eq_true rfl) dX7_silence_22 ⟨Nat.le_of_ble_eq_true rfl, Nat.le_of_ble_eq_true rfl⟩ ⟨Nat.le_refl _, Nat.le_refl _⟩ (fun H locs hR hS => ?_)
      refine lv_if_ne (tgt := 30) hx hb dX7_silence_25 (by decide) (fun c => ?_) (fun c => ?_)
      · have h := ie c h
        refine lv_aload_n hx hb dX7_silence_30 rfl (lv_at hl 0 rfl) ?_
        obtain ⟨r5, e, h⟩ := bd h
        refine fx_gR hx hb hts hown hK hR fl_X7_34 e dX7_silence_31 ?_
        refine lv_iload_n hx hb dX7_silence_34 rfl (lv_at hl 1 rfl) ?_
        refine lv_aload_n hx hb dX7_silence_35 rfl (lv_at hl 0 rfl) ?_
        obtain ⟨v6, e, h⟩ := bd h
        refine fx_gI hx hb hts hown hK hR fl_X7_173 e dX7_silence_36 ?_
        refine lv_iload_n hx hb dX7_silence_39 rfl (lv_at hl 2 rfl) ?_
        refine lv_iadd hx hb dX7_silence_40 ?_
        obtain ⟨w7, e, h⟩ := bd h
        refine fx_sI hx hb hK hR hS e dX7_silence_41 (fun H locs hR hS => ?_)
        refine lv_aload_n hx hb dX7_silence_42 rfl (lv_at hl 0 rfl) ?_
        obtain ⟨r8, e, h⟩ := bd h
        refine fx_gR hx hb hts hown hK hR fl_X7_37 e dX7_silence_43 ?_
        refine lv_iload_n hx hb dX7_silence_46 rfl (lv_at hl 1 rfl) ?_
        refine lv_iload_n hx hb dX7_silence_47 rfl (lv_at hl 3 rfl) ?_
        obtain ⟨w9, e, h⟩ := bd h
        refine fx_sI hx hb hK hR hS e dX7_silence_48 (fun H locs hR hS => ?_)
        refine lv_iconst (v := 1) hx hb dX7_silence_49 (by decide) ?_
        obtain ⟨z10, e, h⟩ := bd h
        exact fx_zret hx hb hr hlocks (e.trans (congrArg some (pr1 h))) (pr2 h) hR hS dX7_silence_50
      · have h := it c h
        exact qX7_silence_b28 C   hR hS (lv_sub hl [] rfl) h
def fX7_speak_b16  (w : Fw)  : Option (Int32 × Fw) := (zb 0).bind fun z1 => some (z1, w)
set_option maxRecDepth 100000 in
set_option maxHeartbeats 4000000 in
theorem qX7_speak_b16 {p : Program} {l : Launch} {e : Env} {s : State} {m : MethodId} {args : Array Value} {below : List Frame} {meth : Method} {c : Code} {D : va_G} {dA : Nat → ClassId} {A : Nat → Prop} (C : Cx p s m args meth c D dA RX7 cX7_speak 2 (some .boolean)) {w : Fw} {res : Int32 × Fw}   {H : Heap} {locs : List Loc} {ls : Array Slot}  (hR : Rp D dA A w H) (hS : va_S A s.heap H locs) (hl : lv_has ls 2 []) (h : fX7_speak_b16 w = some res) : W p l e (rz 2 43) s m args below meth c H locs 0 0 (MQ below (QzI D dA A res.1 res.2) args s 0 0 A) (F0 m 16 ls []) := by
  obtain ⟨hx, hb, hr, hml, hown, hts, hK, hlocks⟩ := id C
  unfold fX7_speak_b16 at h
  refine lv_iconst (v := 0) hx hb dX7_speak_16 (by decide) ?_
  obtain ⟨z1, e, h⟩ := bd h
  exact fx_zret hx hb hr hlocks (e.trans (congrArg some (pr1 h))) (pr2 h) hR hS dX7_speak_17
def fX7_speak (w : Fw) (a0 : Nat) (x1 : Int32) : Option (Int32 × Fw) := ((isO w a0 7).bind fun _ => ((fX7_isFinding w a0 x1).bind fun v2 => (if v2 = 0 then (fX7_speak_b16 w) else ((isO w a0 7).bind fun _ => ((fX7_isSilent w a0 x1).bind fun v3 => (if v3 = 0 then (fX7_speak_b16 w) else ((gR w a0 7 15).bind fun r4 => ((sI w r4 x1 0).bind fun w5 => (zb 1).bind fun z6 => some (z6, w5)))))))))
set_option maxRecDepth 100000 in
set_option maxHeartbeats 4000000 in
theorem mX7_speak (l : Launch) (D : va_G) (dA : Nat → ClassId) (A : Nat → Prop) {w : Fw} {a0 : Nat} {x1 : Int32} {res : Int32 × Fw} (h : fX7_speak w a0 x1 = some res) : Met l yX7_speak (wz yX7_speak cX7_speak 2 (some .boolean)) (rz 2 43) (Pz D dA A w [.ref a0, .int x1]) (QzI D dA A res.1 res.2) 0 0 A := by
  refine Met.ofW (cc := cX7_speak) (maxL := 2) (ret := (some .boolean)) (by decide) rfl ?_
  intro p e s m args below meth c s₁ B hml hv
  obtain ⟨rfl, hR, hK⟩ := hv
  have hx := B.exec
  have hb := B.bytes
  have hr := B.returns
  have hts : ∀ w ∈ lw_g, w.before [.ref a0, .int x1].toArray s = true := fun w hw => atoms_spec (ws := wz yX7_speak cX7_speak 2 (some .boolean)) B.pre w (List.mem_cons_of_mem _ hw)
  have hown : s.vm.findClass RX7 = some m.cls := findClass_of_methodNamed B.named
  have hlocks := B.notSynchronized
  have C : Cx p s m [.ref a0, .int x1].toArray meth c D dA RX7 cX7_speak 2 (some .boolean) := ⟨hx, hb, hr, hml, hown, hts, hK, hlocks⟩
  have hS : va_S A s.heap s.heap [] := va_S.rf
  have hl := lv_entry ([.ref a0, .int x1]) (n := 2) (Nat.le_of_ble_eq_true rfl)
  rw [lg_entry_eq]
  generalize (lg_sl ([.ref a0, .int x1]) ++ List.replicate (2 - (lg_sl ([.ref a0, .int x1])).length) Slot.unset).toArray = ls at hl ⊢
  have hl : lv_has ls 2 [(0, .ref a0), (1, .int x1)] := hl
  unfold fX7_speak at h
  show W p l e (rz 2 43) s m _ below meth c s.heap [] 0 0 _ _
  refine lv_aload_n hx hb dX7_speak_0 rfl (lv_at hl 0 rfl) ?_
  refine lv_iload_n hx hb dX7_speak_1 rfl (lv_at hl 1 rfl) ?_
  obtain ⟨_, eO, h⟩ := bd h
  obtain ⟨v2, e, h⟩ := bd h
  refine fx_vI (As := [.int x1]) (rest := []) hx hb hml hts hown hK hR hS eO (mX7_isFinding l D dA A e) my_X7_isFinding mv_X7_isFinding rfl ml_X7_176 rfl hl.1 rfl (Nat.le_of_ble_eq_true rfl) dX7_speak_2 ⟨Nat.le_of_ble_eq_true rfl, Nat.le_of_ble_eq_true rfl⟩ ⟨Nat.le_refl _, Nat.le_refl _⟩ (fun H locs hR hS => ?_)
  refine lv_if_eq (tgt := 16) hx hb dX7_speak_5 (by decide) (fun c => ?_) (fun c => ?_)
  · have h := it c h
    exact qX7_speak_b16 C   hR hS (lv_sub hl [] rfl) h
  · have h := ie c h
    refine lv_aload_n hx hb dX7_speak_8 rfl (lv_at hl 0 rfl) ?_
    refine lv_iload_n hx hb dX7_speak_9 rfl (lv_at hl 1 rfl) ?_
    obtain ⟨_, eO, h⟩ := bd h
    obtain ⟨v3, e, h⟩ := bd h
    refine fx_vI (As := [.int x1]) (rest := []) hx hb hml hts hown hK hR hS eO (mX7_isSilent l D dA A e) my_X7_isSilent mv_X7_isSilent rfl ml_X7_179 rfl hl.1 rfl (Nat.le_of_ble_eq_true rfl) dX7_speak_10 ⟨Nat.le_of_ble_eq_true rfl, Nat.le_of_ble_eq_true rfl⟩ ⟨Nat.le_refl _, Nat.le_refl _⟩ (fun H locs hR hS => ?_)
    refine lv_if_ne (tgt := 18) hx hb dX7_speak_13 (by decide) (fun c => ?_) (fun c => ?_)
    · have h := ie c h
      refine lv_aload_n hx hb dX7_speak_18 rfl (lv_at hl 0 rfl) ?_
      obtain ⟨r4, e, h⟩ := bd h
      refine fx_gR hx hb hts hown hK hR fl_X7_34 e dX7_speak_19 ?_
      refine lv_iload_n hx hb dX7_speak_22 rfl (lv_at hl 1 rfl) ?_
      refine lv_iconst (v := 0) hx hb dX7_speak_23 (by decide) ?_
      obtain ⟨w5, e, h⟩ := bd h
      refine fx_sI hx hb hK hR hS e dX7_speak_24 (fun H locs hR hS => ?_)
      refine lv_iconst (v := 1) hx hb dX7_speak_25 (by decide) ?_
      obtain ⟨z6, e, h⟩ := bd h
      exact fx_zret hx hb hr hlocks (e.trans (congrArg some (pr1 h))) (pr2 h) hR hS dX7_speak_26
    · have h := it c h
      exact qX7_speak_b16 C   hR hS (lv_sub hl [] rfl) h
def fX7_look_L113 (w : Fw)  : Nat → Nat → Int32 → Int32 → Option (Int32)
  | 0, _, _, _ => none
  | n + 1, a0, x2, x3 => if 6 ≤ x3 then some x2 else ((gR w a0 7 0).bind fun r1 => ((lI w r1 x3).bind fun v2 => (fX7_look_L113 w n a0 (x2 + v2) (x3 + 1))))
set_option maxRecDepth 100000 in
set_option maxHeartbeats 4000000 in
theorem qX7_look_L113 {p : Program} {l : Launch} {e : Env} {s : State} {m : MethodId} {args : Array Value} {below : List Frame} {meth : Method} {c : Code} {D : va_G} {dA : Nat → ClassId} {A : Nat → Prop} (C : Cx p s m args meth c D dA RX7 cX7_look 4 (some .int)) {w : Fw} {res : Int32}   : ∀ (n : Nat) {H : Heap} {locs : List Loc} {ls : Array Slot} {a0 : Nat} {x2 : Int32} {x3 : Int32}, Rp D dA A w H → va_S A s.heap H locs → lv_has ls 4 [(0, .ref a0), (2, .int x2), (3, .int x3)] → fX7_look_L113 w n a0 x2 x3 = some res → W p l e (rz 1 21) s m args below meth c H locs 0 0 (MQ below (QzI D dA A res w) args s 0 0 A) (F0 m 113 ls []) := by
  obtain ⟨hx, hb, hr, hml, hown, hts, hK, hlocks⟩ := id C
  intro n
  induction n with
  | zero =>
    intro H locs ls a0 x2 x3 hR hS hl h
    rw [fX7_look_L113.eq_1] at h
    cases h
  | succ n ih =>
    intro H locs ls a0 x2 x3 hR hS hl h
    rw [fX7_look_L113.eq_2] at h
    refine lv_iload_n hx hb dX7_look_113 rfl (lv_at hl 2 rfl) ?_
    refine lv_bipush (v := 6) hx hb dX7_look_114 (by decide) ?_
    refine lv_icmp_ge (tgt := 134) hx hb dX7_look_116 (by decide) (fun c => ?_) (fun c => ?_)
    · have h := it c h
      refine lv_iload_n hx hb dX7_look_134 rfl (lv_at hl 1 rfl) ?_
      exact fx_iret hx hb hr hlocks (Option.some.inj h) rfl hR hS dX7_look_135
    · have h := ie c h
      refine lv_iload_n hx hb dX7_look_119 rfl (lv_at hl 1 rfl) ?_
      refine lv_aload_n hx hb dX7_look_120 rfl (lv_at hl 0 rfl) ?_
      obtain ⟨r1, e, h⟩ := bd h
      refine fx_gR hx hb hts hown hK hR fl_X7_7 e dX7_look_121 ?_
      refine lv_iload_n hx hb dX7_look_124 rfl (lv_at hl 2 rfl) ?_
      obtain ⟨v2, e, h⟩ := bd h
      refine fx_lI hx hb hK hR e dX7_look_125 ?_
      refine lv_iadd hx hb dX7_look_126 ?_
      refine lv_istore_n (lv' := [(2, .int (x2 + v2)), (0, .ref a0), (3, .int x3)]) hx hb dX7_look_127 rfl hl (by decide) rfl (fun ls hl => ?_)
      refine lv_iinc (v := (x3 + 1)) (lv' := [(3, .int (x3 + 1)), (2, .int (x2 + v2)), (0, .ref a0)]) hx hb dX7_look_128 hl (k := 2) rfl rfl (by decide) rfl (fun ls hl => ?_)
      refine lv_goto (tgt := 113) hx hb dX7_look_131 (by decide) ?_
      exact ih hR hS (lv_sub hl [2, 1, 0] rfl) h
def fX7_look_b91 (w : Fw) (K69 : Nat → Int32 → Int32 → Option (Int32)) (a0 : Nat) (x3 : Int32) (s0 : Int32) (s1 : Int32) : Option (Int32) := (K69 a0 (s0 + s1) (x3 + 1))
set_option maxRecDepth 100000 in
set_option maxHeartbeats 4000000 in
theorem qX7_look_b91 {p : Program} {l : Launch} {e : Env} {s : State} {m : MethodId} {args : Array Value} {below : List Frame} {meth : Method} {c : Code} {D : va_G} {dA : Nat → ClassId} {A : Nat → Prop} (C : Cx p s m args meth c D dA RX7 cX7_look 4 (some .int)) {w : Fw} {res : Int32} {K69 : Nat → Int32 → Int32 → Option (Int32)} (hK69 : ∀ {H : Heap} {locs : List Loc} {ls : Array Slot} {a0 : Nat} {x2 : Int32} {x3 : Int32}, Rp D dA A w H → va_S A s.heap H locs → lv_has ls 4 [(0, .ref a0), (2, .int x2), (3, .int x3)] → K69 a0 x2 x3 = some res → W p l e (rz 1 21) s m args below meth c H locs 0 0 (MQ below (QzI D dA A res w) args s 0 0 A) (F0 m 69 ls [])) {H : Heap} {locs : List Loc} {ls : Array Slot} {a0 : Nat} {x3 : Int32} {s0 : Int32} {s1 : Int32} (hR : Rp D dA A w H) (hS : va_S A s.heap H locs) (hl : lv_has ls 4 [(0, .ref a0), (3, .int x3)]) (h : fX7_look_b91 w K69 a0 x3 s0 s1 = some res) : W p l e (rz 1 21) s m args below meth c H locs 0 0 (MQ below (QzI D dA A res w) args s 0 0 A) (F0 m 91 ls [.int s1, .int s0]) := by
  obtain ⟨hx, hb, hr, hml, hown, hts, hK, hlocks⟩ := id C
  unfold fX7_look_b91 at h
  refine lv_iadd hx hb dX7_look_91 ?_
  refine lv_istore_n (lv' := [(2, .int (s0 + s1)), (0, .ref a0), (3, .int x3)]) hx hb dX7_look_92 rfl hl (by decide) rfl (fun ls hl => ?_)
  refine lv_iinc (v := (x3 + 1)) (lv' := [(3, .int (x3 + 1)), (2, .int (s0 + s1)), (0, .ref a0)]) hx hb dX7_look_93 hl (k := 2) rfl rfl (by decide) rfl (fun ls hl => ?_)
  refine lv_goto (tgt := 69) hx hb dX7_look_96 (by decide) ?_
  exact hK69 hR hS (lv_sub hl [2, 1, 0] rfl) h
def fX7_look_L69 (w : Fw)  : Nat → Nat → Int32 → Int32 → Option (Int32)
  | 0, _, _, _ => none
  | n + 1, a0, x2, x3 => ((gI w a0 7 8).bind fun v3 => (if v3 ≤ x3 then some x2 else ((isO w a0 7).bind fun _ => ((fX7_isSilent w a0 x3).bind fun v4 => (if v4 = 0 then (fX7_look_b91 w (fX7_look_L69 w n) a0 x3 x2 0) else (fX7_look_b91 w (fX7_look_L69 w n) a0 x3 x2 1))))))
set_option maxRecDepth 100000 in
set_option maxHeartbeats 4000000 in
theorem qX7_look_L69 {p : Program} {l : Launch} {e : Env} {s : State} {m : MethodId} {args : Array Value} {below : List Frame} {meth : Method} {c : Code} {D : va_G} {dA : Nat → ClassId} {A : Nat → Prop} (C : Cx p s m args meth c D dA RX7 cX7_look 4 (some .int)) {w : Fw} {res : Int32}   : ∀ (n : Nat) {H : Heap} {locs : List Loc} {ls : Array Slot} {a0 : Nat} {x2 : Int32} {x3 : Int32}, Rp D dA A w H → va_S A s.heap H locs → lv_has ls 4 [(0, .ref a0), (2, .int x2), (3, .int x3)] → fX7_look_L69 w n a0 x2 x3 = some res → W p l e (rz 1 21) s m args below meth c H locs 0 0 (MQ below (QzI D dA A res w) args s 0 0 A) (F0 m 69 ls []) := by
  obtain ⟨hx, hb, hr, hml, hown, hts, hK, hlocks⟩ := id C
  intro n
  induction n with
  | zero =>
    intro H locs ls a0 x2 x3 hR hS hl h
    rw [fX7_look_L69.eq_1] at h
    cases h
  | succ n ih =>
    intro H locs ls a0 x2 x3 hR hS hl h
    rw [fX7_look_L69.eq_2] at h
    refine lv_iload_n hx hb dX7_look_69 rfl (lv_at hl 2 rfl) ?_
    refine lv_aload_n hx hb dX7_look_70 rfl (lv_at hl 0 rfl) ?_
    obtain ⟨v3, e, h⟩ := bd h
    refine fx_gI hx hb hts hown hK hR fl_X7_118 e dX7_look_71 ?_
    refine lv_icmp_ge (tgt := 99) hx hb dX7_look_74 (by decide) (fun c => ?_) (fun c => ?_)
    · have h := it c h
      refine lv_iload_n hx hb dX7_look_99 rfl (lv_at hl 1 rfl) ?_
      exact fx_iret hx hb hr hlocks (Option.some.inj h) rfl hR hS dX7_look_100
    · have h := ie c h
      refine lv_iload_n hx hb dX7_look_77 rfl (lv_at hl 1 rfl) ?_
      refine lv_aload_n hx hb dX7_look_78 rfl (lv_at hl 0 rfl) ?_
      refine lv_iload_n hx hb dX7_look_79 rfl (lv_at hl 2 rfl) ?_
      obtain ⟨_, eO, h⟩ := bd h
      obtain ⟨v4, e, h⟩ := bd h
      refine fx_vI (As := [.int x3]) (rest := [.int x2]) hx hb hml hts hown hK hR hS eO (mX7_isSilent l D dA A e) my_X7_isSilent mv_X7_isSilent rfl ml_X7_179 rfl hl.1 rfl (Nat.le_of_ble_eq_true rfl) dX7_look_80 ⟨Nat.le_of_ble_eq_true rfl, Nat.le_of_ble_eq_true rfl⟩ ⟨Nat.le_refl _, Nat.le_refl _⟩ (fun H locs hR hS => ?_)
      refine lv_if_eq (tgt := 90) hx hb dX7_look_83 (by decide) (fun c => ?_) (fun c => ?_)
      · have h := it c h
        refine lv_iconst (v := 0) hx hb dX7_look_90 (by decide) ?_
        exact qX7_look_b91 C (K69 := fX7_look_L69 w n) (hK69 := @ih) hR hS (lv_sub hl [0, 2] rfl) h
      · have h := ie c h
        refine lv_iconst (v := 1) hx hb dX7_look_86 (by decide) ?_
        refine lv_goto (tgt := 91) hx hb dX7_look_87 (by decide) ?_
        exact qX7_look_b91 C (K69 := fX7_look_L69 w n) (hK69 := @ih) hR hS (lv_sub hl [0, 2] rfl) h
def fX7_look (w : Fw) (a0 : Nat) (x1 : Int32) : Option (Int32) := (if x1 = 0 then ((gI w a0 7 3).bind fun v5 => some v5) else (if x1 = 1 then ((gI w a0 7 4).bind fun v6 => some v6) else (if x1 = 2 then ((gI w a0 7 8).bind fun v7 => some v7) else (if x1 = 3 then (fX7_look_L69 w 1000 a0 0 0) else (if x1 = 4 then ((gI w a0 7 22).bind fun v8 => some v8) else (if x1 = 5 then ((gI w a0 7 7).bind fun v9 => some v9) else (if x1 = 6 then (fX7_look_L113 w 1000 a0 0 0) else (if x1 = 7 then ((gI w a0 7 5).bind fun v10 => some v10) else (if x1 = 8 then ((gI w a0 7 6).bind fun v11 => some v11) else some ((-1) : Int32))))))))))
set_option maxRecDepth 100000 in
set_option maxHeartbeats 4000000 in
theorem mX7_look (l : Launch) (D : va_G) (dA : Nat → ClassId) (A : Nat → Prop) {w : Fw} {a0 : Nat} {x1 : Int32} {res : Int32} (h : fX7_look w a0 x1 = some res) : Met l yX7_look (wz yX7_look cX7_look 4 (some .int)) (rz 1 21) (Pz D dA A w [.ref a0, .int x1]) (QzI D dA A res w) 0 0 A := by
  refine Met.ofW (cc := cX7_look) (maxL := 4) (ret := (some .int)) (by decide) rfl ?_
  intro p e s m args below meth c s₁ B hml hv
  obtain ⟨rfl, hR, hK⟩ := hv
  have hx := B.exec
  have hb := B.bytes
  have hr := B.returns
  have hts : ∀ w ∈ lw_g, w.before [.ref a0, .int x1].toArray s = true := fun w hw => atoms_spec (ws := wz yX7_look cX7_look 4 (some .int)) B.pre w (List.mem_cons_of_mem _ hw)
  have hown : s.vm.findClass RX7 = some m.cls := findClass_of_methodNamed B.named
  have hlocks := B.notSynchronized
  have C : Cx p s m [.ref a0, .int x1].toArray meth c D dA RX7 cX7_look 4 (some .int) := ⟨hx, hb, hr, hml, hown, hts, hK, hlocks⟩
  have hS : va_S A s.heap s.heap [] := va_S.rf
  have hl := lv_entry ([.ref a0, .int x1]) (n := 4) (Nat.le_of_ble_eq_true rfl)
  rw [lg_entry_eq]
  generalize (lg_sl ([.ref a0, .int x1]) ++ List.replicate (4 - (lg_sl ([.ref a0, .int x1])).length) Slot.unset).toArray = ls at hl ⊢
  have hl : lv_has ls 4 [(0, .ref a0), (1, .int x1)] := hl
  unfold fX7_look at h
  show W p l e (rz 1 21) s m _ below meth c s.heap [] 0 0 _ _
  refine lv_iconst (v := 0) hx hb dX7_look_0 (by decide) ?_
  refine lv_istore_n (lv' := [(2, .int 0), (0, .ref a0), (1, .int x1)]) hx hb dX7_look_1 rfl hl (by decide) rfl (fun ls hl => ?_)
  refine lv_iload_n hx hb dX7_look_2 rfl (lv_at hl 2 rfl) ?_
  by_cases c0 : x1 = 0
  · have h := it c0 h
    refine lv_tableIn (off := 49) (tgt := 52) hx hb dX7_look_3 (by rw [c0]; decide) (by rw [c0]; decide) (by rw [c0]; decide) (by decide) ?_
    refine lv_aload_n hx hb dX7_look_52 rfl (lv_at hl 1 rfl) ?_
    obtain ⟨v5, e, h⟩ := bd h
    refine fx_gI hx hb hts hown hK hR fl_X7_115 e dX7_look_53 ?_
    exact fx_iret hx hb hr hlocks (Option.some.inj h) rfl hR hS dX7_look_56
  have h := ie c0 h
  by_cases c1 : x1 = 1
  · have h := it c1 h
    refine lv_tableIn (off := 54) (tgt := 57) hx hb dX7_look_3 (by rw [c1]; decide) (by rw [c1]; decide) (by rw [c1]; decide) (by decide) ?_
    refine lv_aload_n hx hb dX7_look_57 rfl (lv_at hl 1 rfl) ?_
    obtain ⟨v6, e, h⟩ := bd h
    refine fx_gI hx hb hts hown hK hR fl_X7_173 e dX7_look_58 ?_
    exact fx_iret hx hb hr hlocks (Option.some.inj h) rfl hR hS dX7_look_61
  have h := ie c1 h
  by_cases c2 : x1 = 2
  · have h := it c2 h
    refine lv_tableIn (off := 59) (tgt := 62) hx hb dX7_look_3 (by rw [c2]; decide) (by rw [c2]; decide) (by rw [c2]; decide) (by decide) ?_
    refine lv_aload_n hx hb dX7_look_62 rfl (lv_at hl 1 rfl) ?_
    obtain ⟨v7, e, h⟩ := bd h
    refine fx_gI hx hb hts hown hK hR fl_X7_118 e dX7_look_63 ?_
    exact fx_iret hx hb hr hlocks (Option.some.inj h) rfl hR hS dX7_look_66
  have h := ie c2 h
  by_cases c3 : x1 = 3
  · have h := it c3 h
    refine lv_tableIn (off := 64) (tgt := 67) hx hb dX7_look_3 (by rw [c3]; decide) (by rw [c3]; decide) (by rw [c3]; decide) (by decide) ?_
    refine lv_iconst (v := 0) hx hb dX7_look_67 (by decide) ?_
    refine lv_istore_n (lv' := [(3, .int 0), (2, .int 0), (0, .ref a0), (1, .int x1)]) hx hb dX7_look_68 rfl hl (by decide) rfl (fun ls hl => ?_)
    exact qX7_look_L69 C   1000 hR hS (lv_sub hl [2, 1, 0] rfl) h
  have h := ie c3 h
  by_cases c4 : x1 = 4
  · have h := it c4 h
    refine lv_tableIn (off := 98) (tgt := 101) hx hb dX7_look_3 (by rw [c4]; decide) (by rw [c4]; decide) (by rw [c4]; decide) (by decide) ?_
    refine lv_aload_n hx hb dX7_look_101 rfl (lv_at hl 1 rfl) ?_
    obtain ⟨v8, e, h⟩ := bd h
    refine fx_gI hx hb hts hown hK hR fl_X7_137 e dX7_look_102 ?_
    exact fx_iret hx hb hr hlocks (Option.some.inj h) rfl hR hS dX7_look_105
  have h := ie c4 h
  by_cases c5 : x1 = 5
  · have h := it c5 h
    refine lv_tableIn (off := 103) (tgt := 106) hx hb dX7_look_3 (by rw [c5]; decide) (by rw [c5]; decide) (by rw [c5]; decide) (by decide) ?_
    refine lv_aload_n hx hb dX7_look_106 rfl (lv_at hl 1 rfl) ?_
    obtain ⟨v9, e, h⟩ := bd h
    refine fx_gI hx hb hts hown hK hR fl_X7_140 e dX7_look_107 ?_
    exact fx_iret hx hb hr hlocks (Option.some.inj h) rfl hR hS dX7_look_110
  have h := ie c5 h
  by_cases c6 : x1 = 6
  · have h := it c6 h
    refine lv_tableIn (off := 108) (tgt := 111) hx hb dX7_look_3 (by rw [c6]; decide) (by rw [c6]; decide) (by rw [c6]; decide) (by decide) ?_
    refine lv_iconst (v := 0) hx hb dX7_look_111 (by decide) ?_
    refine lv_istore_n (lv' := [(3, .int 0), (2, .int 0), (0, .ref a0), (1, .int x1)]) hx hb dX7_look_112 rfl hl (by decide) rfl (fun ls hl => ?_)
    exact qX7_look_L113 C   1000 hR hS (lv_sub hl [2, 1, 0] rfl) h
  have h := ie c6 h
  by_cases c7 : x1 = 7
  · have h := it c7 h
    refine lv_tableIn (off := 133) (tgt := 136) hx hb dX7_look_3 (by rw [c7]; decide) (by rw [c7]; decide) (by rw [c7]; decide) (by decide) ?_
    refine lv_aload_n hx hb dX7_look_136 rfl (lv_at hl 1 rfl) ?_
    obtain ⟨v10, e, h⟩ := bd h
    refine fx_gI hx hb hts hown hK hR fl_X7_152 e dX7_look_137 ?_
    exact fx_iret hx hb hr hlocks (Option.some.inj h) rfl hR hS dX7_look_140
  have h := ie c7 h
  by_cases c8 : x1 = 8
  · have h := it c8 h
    refine lv_tableIn (off := 138) (tgt := 141) hx hb dX7_look_3 (by rw [c8]; decide) (by rw [c8]; decide) (by rw [c8]; decide) (by decide) ?_
    refine lv_aload_n hx hb dX7_look_141 rfl (lv_at hl 1 rfl) ?_
    obtain ⟨v11, e, h⟩ := bd h
    refine fx_gI hx hb hts hown hK hR fl_X7_99 e dX7_look_142 ?_
    exact fx_iret hx hb hr hlocks (Option.some.inj h) rfl hR hS dX7_look_145
  have h := ie c8 h
  have nc0 := fz_ne 0 0 (by decide) c0
  have nc1 := fz_ne 1 1 (by decide) c1
  have nc2 := fz_ne 2 2 (by decide) c2
  have nc3 := fz_ne 3 3 (by decide) c3
  have nc4 := fz_ne 4 4 (by decide) c4
  have nc5 := fz_ne 5 5 (by decide) c5
  have nc6 := fz_ne 6 6 (by decide) c6
  have nc7 := fz_ne 7 7 (by decide) c7
  have nc8 := fz_ne 8 8 (by decide) c8
  refine lv_tableOut (tgt := 146) hx hb dX7_look_3 (by omega) (by decide) ?_
  refine lv_iconst (v := (-1)) hx hb dX7_look_146 (by decide) ?_
  exact fx_iret hx hb hr hlocks (Option.some.inj h) rfl hR hS dX7_look_147
def fX7_line_b51 (w : Fw)  (s0 : Int32) : Option (Int32) := some s0
set_option maxRecDepth 100000 in
set_option maxHeartbeats 4000000 in
theorem qX7_line_b51 {p : Program} {l : Launch} {e : Env} {s : State} {m : MethodId} {args : Array Value} {below : List Frame} {meth : Method} {c : Code} {D : va_G} {dA : Nat → ClassId} {A : Nat → Prop} (C : Cx p s m args meth c D dA RX7 cX7_line 4 (some .int)) {w : Fw} {res : Int32}   {H : Heap} {locs : List Loc} {ls : Array Slot} {s0 : Int32} (hR : Rp D dA A w H) (hS : va_S A s.heap H locs) (hl : lv_has ls 4 []) (h : fX7_line_b51 w s0 = some res) : W p l e (rz 3 64) s m args below meth c H locs 0 0 (MQ below (QzI D dA A res w) args s 0 0 A) (F0 m 51 ls [.int s0]) := by
  obtain ⟨hx, hb, hr, hml, hown, hts, hK, hlocks⟩ := id C
  unfold fX7_line_b51 at h
  exact fx_iret hx hb hr hlocks (Option.some.inj h) rfl hR hS dX7_line_51
def fX7_line (w : Fw) (a0 : Nat) (x1 : Int32) (x2 : Int32) (x3 : Int32) : Option (Int32) := ((isO w a0 7).bind fun _ => ((fX7_isLine w a0 x1 x2).bind fun v1 => (if v1 = 0 then (fX7_line_b51 w (-1)) else if x3 = 0 then ((gR w a0 7 1).bind fun r4 => ((lI w r4 ((32 * x1) + x2)).bind fun v5 => (fX7_line_b51 w v5))) else if x3 = 1 then ((gR w a0 7 2).bind fun r2 => ((lI w r2 ((32 * x1) + x2)).bind fun v3 => (fX7_line_b51 w v3))) else (fX7_line_b51 w (-1)))))
set_option maxRecDepth 100000 in
set_option maxHeartbeats 4000000 in
theorem mX7_line (l : Launch) (D : va_G) (dA : Nat → ClassId) (A : Nat → Prop) {w : Fw} {a0 : Nat} {x1 : Int32} {x2 : Int32} {x3 : Int32} {res : Int32} (h : fX7_line w a0 x1 x2 x3 = some res) : Met l yX7_line (wz yX7_line cX7_line 4 (some .int)) (rz 3 64) (Pz D dA A w [.ref a0, .int x1, .int x2, .int x3]) (QzI D dA A res w) 0 0 A := by
  refine Met.ofW (cc := cX7_line) (maxL := 4) (ret := (some .int)) (by decide) rfl ?_
  intro p e s m args below meth c s₁ B hml hv
  obtain ⟨rfl, hR, hK⟩ := hv
  have hx := B.exec
  have hb := B.bytes
  have hr := B.returns
  have hts : ∀ w ∈ lw_g, w.before [.ref a0, .int x1, .int x2, .int x3].toArray s = true := fun w hw => atoms_spec (ws := wz yX7_line cX7_line 4 (some .int)) B.pre w (List.mem_cons_of_mem _ hw)
  have hown : s.vm.findClass RX7 = some m.cls := findClass_of_methodNamed B.named
  have hlocks := B.notSynchronized
  have C : Cx p s m [.ref a0, .int x1, .int x2, .int x3].toArray meth c D dA RX7 cX7_line 4 (some .int) := ⟨hx, hb, hr, hml, hown, hts, hK, hlocks⟩
  have hS : va_S A s.heap s.heap [] := va_S.rf
  have hl := lv_entry ([.ref a0, .int x1, .int x2, .int x3]) (n := 4) (Nat.le_of_ble_eq_true rfl)
  rw [lg_entry_eq]
  generalize (lg_sl ([.ref a0, .int x1, .int x2, .int x3]) ++ List.replicate (4 - (lg_sl ([.ref a0, .int x1, .int x2, .int x3])).length) Slot.unset).toArray = ls at hl ⊢
  have hl : lv_has ls 4 [(0, .ref a0), (1, .int x1), (2, .int x2), (3, .int x3)] := hl
  unfold fX7_line at h
  show W p l e (rz 3 64) s m _ below meth c s.heap [] 0 0 _ _
  refine lv_aload_n hx hb dX7_line_0 rfl (lv_at hl 0 rfl) ?_
  refine lv_iload_n hx hb dX7_line_1 rfl (lv_at hl 1 rfl) ?_
  refine lv_iload_n hx hb dX7_line_2 rfl (lv_at hl 2 rfl) ?_
  obtain ⟨_, eO, h⟩ := bd h
  obtain ⟨v1, e, h⟩ := bd h
  refine fx_vI (As := [.int x1, .int x2]) (rest := []) hx hb hml hts hown hK hR hS eO (mX7_isLine l D dA A e) my_X7_isLine mv_X7_isLine rfl ml_X7_159 rfl hl.1 rfl (Nat.le_of_ble_eq_true rfl) dX7_line_3 ⟨Nat.le_of_ble_eq_true rfl, Nat.le_of_ble_eq_true rfl⟩ ⟨Nat.le_refl _, Nat.le_refl _⟩ (fun H locs hR hS => ?_)
  refine lv_if_ne (tgt := 13) hx hb dX7_line_6 (by decide) (fun c => ?_) (fun c => ?_)
  · have h := ie c h
    refine lv_iload_n hx hb dX7_line_13 rfl (lv_at hl 3 rfl) ?_
    refine lv_if_ne (tgt := 31) hx hb dX7_line_14 (by decide) (fun c => ?_) (fun c => ?_)
    · have h := ie c h
      refine lv_iload_n hx hb dX7_line_31 rfl (lv_at hl 3 rfl) ?_
      refine lv_iconst (v := 1) hx hb dX7_line_32 (by decide) ?_
      refine lv_icmp_ne (tgt := 50) hx hb dX7_line_33 (by decide) (fun c => ?_) (fun c => ?_)
      · have h := ie c h
        refine lv_iconst (v := (-1)) hx hb dX7_line_50 (by decide) ?_
        exact qX7_line_b51 C   hR hS (lv_sub hl [] rfl) h
      · have h := it c h
        refine lv_aload_n hx hb dX7_line_36 rfl (lv_at hl 0 rfl) ?_
        obtain ⟨r2, e, h⟩ := bd h
        refine fx_gR hx hb hts hown hK hR fl_X7_16 e dX7_line_37 ?_
        refine lv_bipush (v := 32) hx hb dX7_line_40 (by decide) ?_
        refine lv_iload_n hx hb dX7_line_42 rfl (lv_at hl 1 rfl) ?_
        refine lv_imul hx hb dX7_line_43 ?_
        refine lv_iload_n hx hb dX7_line_44 rfl (lv_at hl 2 rfl) ?_
        refine lv_iadd hx hb dX7_line_45 ?_
        obtain ⟨v3, e, h⟩ := bd h
        refine fx_lI hx hb hK hR e dX7_line_46 ?_
        refine lv_goto (tgt := 51) hx hb dX7_line_47 (by decide) ?_
        exact qX7_line_b51 C   hR hS (lv_sub hl [] rfl) h
    · have h := it c h
      refine lv_aload_n hx hb dX7_line_17 rfl (lv_at hl 0 rfl) ?_
      obtain ⟨r4, e, h⟩ := bd h
      refine fx_gR hx hb hts hown hK hR fl_X7_13 e dX7_line_18 ?_
      refine lv_bipush (v := 32) hx hb dX7_line_21 (by decide) ?_
      refine lv_iload_n hx hb dX7_line_23 rfl (lv_at hl 1 rfl) ?_
      refine lv_imul hx hb dX7_line_24 ?_
      refine lv_iload_n hx hb dX7_line_25 rfl (lv_at hl 2 rfl) ?_
      refine lv_iadd hx hb dX7_line_26 ?_
      obtain ⟨v5, e, h⟩ := bd h
      refine fx_lI hx hb hK hR e dX7_line_27 ?_
      refine lv_goto (tgt := 51) hx hb dX7_line_28 (by decide) ?_
      exact qX7_line_b51 C   hR hS (lv_sub hl [] rfl) h
  · have h := it c h
    refine lv_iconst (v := (-1)) hx hb dX7_line_9 (by decide) ?_
    refine lv_goto (tgt := 51) hx hb dX7_line_10 (by decide) ?_
    exact qX7_line_b51 C   hR hS (lv_sub hl [] rfl) h
