def fX7_finds_b263 (K213 : Fw → Nat → Int32 → Option (Fw)) (w : Fw) (a0 : Nat) (x1 : Int32) : Option (Fw) := (K213 w a0 (x1 + 1))
set_option maxRecDepth 100000 in
set_option maxHeartbeats 4000000 in
theorem qX7_finds_b263 {p : Program} {l : Launch} {e : Env} {s : State} {m : MethodId} {args : Array Value} {below : List Frame} {meth : Method} {c : Code} {D : va_G} {dA : Nat → ClassId} {A : Nat → Prop} (C : Cx p s m args meth c D dA RX7 cX7_finds 5 none) {w : Fw} {res : Fw} {K213 : Fw → Nat → Int32 → Option (Fw)} (hK213 : ∀ {w : Fw} {H : Heap} {locs : List Loc} {ls : Array Slot} {a0 : Nat} {x1 : Int32}, Rp D dA A w H → va_S A s.heap H locs → lv_has ls 5 [(0, .ref a0), (1, .int x1)] → K213 w a0 x1 = some res → W p l e (rz 4 93) s m args below meth c H locs 0 0 (MQ below (QzV D dA A res) args s 0 0 A) (F0 m 213 ls [])) {H : Heap} {locs : List Loc} {ls : Array Slot} {a0 : Nat} {x1 : Int32} (hR : Rp D dA A w H) (hS : va_S A s.heap H locs) (hl : lv_has ls 5 [(0, .ref a0), (1, .int x1)]) (h : fX7_finds_b263 K213 w a0 x1 = some res) : W p l e (rz 4 93) s m args below meth c H locs 0 0 (MQ below (QzV D dA A res) args s 0 0 A) (F0 m 263 ls []) := by
  obtain ⟨hx, hb, hr, hml, hown, hts, hK, hlocks⟩ := id C
  unfold fX7_finds_b263 at h
  refine lv_iinc (v := (x1 + 1)) (lv' := [(1, .int (x1 + 1)), (0, .ref a0)]) hx hb dX7_finds_263 hl (k := 1) rfl rfl (by decide) rfl (fun ls hl => ?_)
  refine lv_goto (tgt := 213) hx hb dX7_finds_266 (by decide) ?_
  exact hK213 hR hS (lv_sub hl [1, 0] rfl) h
def fX7_finds_L213  : Nat → Fw → Nat → Int32 → Option (Fw)
  | 0, _, _, _ => none
  | n + 1, w, a0, x1 => ((gI w a0 7 9).bind fun v1 => (if v1 ≤ x1 then some w else ((gR w a0 7 17).bind fun r2 => ((lI w r2 x1).bind fun v3 => ((gR w a0 7 18).bind fun r4 => ((lI w r4 x1).bind fun v5 => ((isO w a0 7).bind fun _ => ((fX7_find w a0 v3 v5).bind fun v6 => (if v6 = (-1) then ((gR w a0 7 17).bind fun r7 => ((lI w r7 x1).bind fun v8 => ((gR w a0 7 18).bind fun r9 => ((lI w r9 x1).bind fun v10 => ((gR w a0 7 19).bind fun r11 => ((lI w r11 x1).bind fun v12 => ((isO w a0 7).bind fun _ => ((fX7_logs w a0 v8 v10 v12).bind fun w13 => (fX7_finds_b263 (fX7_finds_L213  n) w13 a0 x1))))))))) else (fX7_finds_b263 (fX7_finds_L213  n) w a0 x1))))))))))
set_option maxRecDepth 100000 in
set_option maxHeartbeats 4000000 in
theorem qX7_finds_L213 {p : Program} {l : Launch} {e : Env} {s : State} {m : MethodId} {args : Array Value} {below : List Frame} {meth : Method} {c : Code} {D : va_G} {dA : Nat → ClassId} {A : Nat → Prop} (C : Cx p s m args meth c D dA RX7 cX7_finds 5 none) {res : Fw}   : ∀ (n : Nat) {w : Fw} {H : Heap} {locs : List Loc} {ls : Array Slot} {a0 : Nat} {x1 : Int32}, Rp D dA A w H → va_S A s.heap H locs → lv_has ls 5 [(0, .ref a0), (1, .int x1)] → fX7_finds_L213 n w a0 x1 = some res → W p l e (rz 4 93) s m args below meth c H locs 0 0 (MQ below (QzV D dA A res) args s 0 0 A) (F0 m 213 ls []) := by
  obtain ⟨hx, hb, hr, hml, hown, hts, hK, hlocks⟩ := id C
  intro n
  induction n with
  | zero =>
    intro w H locs ls a0 x1 hR hS hl h
    rw [fX7_finds_L213.eq_1] at h
    cases h
  | succ n ih =>
    intro w H locs ls a0 x1 hR hS hl h
    rw [fX7_finds_L213.eq_2] at h
    refine lv_iload_n hx hb dX7_finds_213 rfl (lv_at hl 1 rfl) ?_
    refine lv_aload_n hx hb dX7_finds_214 rfl (lv_at hl 0 rfl) ?_
    obtain ⟨v1, e, h⟩ := bd h
    refine fx_gI hx hb hts hown hK hR fl_X7_121 e dX7_finds_215 ?_
    refine lv_icmp_ge (tgt := 269) hx hb dX7_finds_218 (by decide) (fun c => ?_) (fun c => ?_)
    · have h := it c h
      exact fx_vret hx hb hr hlocks (Option.some.inj h) hR hS dX7_finds_269
    · have h := ie c h
      refine lv_aload_n hx hb dX7_finds_221 rfl (lv_at hl 0 rfl) ?_
      refine lv_aload_n hx hb dX7_finds_222 rfl (lv_at hl 0 rfl) ?_
      obtain ⟨r2, e, h⟩ := bd h
      refine fx_gR hx hb hts hown hK hR fl_X7_40 e dX7_finds_223 ?_
      refine lv_iload_n hx hb dX7_finds_226 rfl (lv_at hl 1 rfl) ?_
      obtain ⟨v3, e, h⟩ := bd h
      refine fx_lI hx hb hK hR e dX7_finds_227 ?_
      refine lv_aload_n hx hb dX7_finds_228 rfl (lv_at hl 0 rfl) ?_
      obtain ⟨r4, e, h⟩ := bd h
      refine fx_gR hx hb hts hown hK hR fl_X7_43 e dX7_finds_229 ?_
      refine lv_iload_n hx hb dX7_finds_232 rfl (lv_at hl 1 rfl) ?_
      obtain ⟨v5, e, h⟩ := bd h
      refine fx_lI hx hb hK hR e dX7_finds_233 ?_
      obtain ⟨_, eO, h⟩ := bd h
      obtain ⟨v6, e, h⟩ := bd h
      refine fx_vI (As := [.int v3, .int v5]) (rest := []) hx hb hml hts hown hK hR hS eO (mX7_find l D dA A e) my_X7_find mv_X7_find rfl ml_X7_130 rfl hl.1 rfl (Nat.le_of_ble_eq_true rfl) dX7_finds_234 ⟨Nat.le_of_ble_eq_true rfl, Nat.le_of_ble_eq_true rfl⟩ ⟨Nat.le_refl _, Nat.le_refl _⟩ (fun H locs hR hS => ?_)
      refine lv_iconst (v := (-1)) hx hb dX7_finds_237 (by decide) ?_
      refine lv_icmp_ne (tgt := 263) hx hb dX7_finds_238 (by decide) (fun c => ?_) (fun c => ?_)
      · have h := ie c h
        exact qX7_finds_b263 C (K213 := fX7_finds_L213  n) (hK213 := @ih) hR hS (lv_sub hl [0, 1] rfl) h
      · have h := it c h
        refine lv_aload_n hx hb dX7_finds_241 rfl (lv_at hl 0 rfl) ?_
        refine lv_aload_n hx hb dX7_finds_242 rfl (lv_at hl 0 rfl) ?_
        obtain ⟨r7, e, h⟩ := bd h
        refine fx_gR hx hb hts hown hK hR fl_X7_40 e dX7_finds_243 ?_
        refine lv_iload_n hx hb dX7_finds_246 rfl (lv_at hl 1 rfl) ?_
        obtain ⟨v8, e, h⟩ := bd h
        refine fx_lI hx hb hK hR e dX7_finds_247 ?_
        refine lv_aload_n hx hb dX7_finds_248 rfl (lv_at hl 0 rfl) ?_
        obtain ⟨r9, e, h⟩ := bd h
        refine fx_gR hx hb hts hown hK hR fl_X7_43 e dX7_finds_249 ?_
        refine lv_iload_n hx hb dX7_finds_252 rfl (lv_at hl 1 rfl) ?_
        obtain ⟨v10, e, h⟩ := bd h
        refine fx_lI hx hb hK hR e dX7_finds_253 ?_
        refine lv_aload_n hx hb dX7_finds_254 rfl (lv_at hl 0 rfl) ?_
        obtain ⟨r11, e, h⟩ := bd h
        refine fx_gR hx hb hts hown hK hR fl_X7_46 e dX7_finds_255 ?_
        refine lv_iload_n hx hb dX7_finds_258 rfl (lv_at hl 1 rfl) ?_
        obtain ⟨v12, e, h⟩ := bd h
        refine fx_lI hx hb hK hR e dX7_finds_259 ?_
        obtain ⟨_, eO, h⟩ := bd h
        obtain ⟨w13, e, h⟩ := bd h
        refine fx_vV (As := [.int v8, .int v10, .int v12]) (rest := []) hx hb hml hts hown hK hR hS eO (mX7_logs l D dA A e) my_X7_logs mv_X7_logs rfl ml_X7_133 rfl hl.1 rfl (Nat.le_of_ble_eq_true rfl) dX7_finds_260 ⟨Nat.le_of_ble_eq_true rfl, Nat.le_of_ble_eq_true rfl⟩ ⟨Nat.le_refl _, Nat.le_refl _⟩ (fun H locs hR hS => ?_)
        exact qX7_finds_b263 C (K213 := fX7_finds_L213  n) (hK213 := @ih) hR hS (lv_sub hl [0, 1] rfl) h
def fX7_finds_b199 (K7 : Fw → Nat → Int32 → Option (Fw)) (K15 : Fw → Nat → Int32 → Int32 → Option (Fw)) (w : Fw) (a0 : Nat) (x1 : Int32) (x2 : Int32) : Option (Fw) := (K15 w a0 x1 (x2 + 1))
set_option maxRecDepth 100000 in
set_option maxHeartbeats 4000000 in
theorem qX7_finds_b199 {p : Program} {l : Launch} {e : Env} {s : State} {m : MethodId} {args : Array Value} {below : List Frame} {meth : Method} {c : Code} {D : va_G} {dA : Nat → ClassId} {A : Nat → Prop} (C : Cx p s m args meth c D dA RX7 cX7_finds 5 none) {w : Fw} {res : Fw} {K7 : Fw → Nat → Int32 → Option (Fw)} {K15 : Fw → Nat → Int32 → Int32 → Option (Fw)} (hK7 : ∀ {w : Fw} {H : Heap} {locs : List Loc} {ls : Array Slot} {a0 : Nat} {x1 : Int32}, Rp D dA A w H → va_S A s.heap H locs → lv_has ls 5 [(0, .ref a0), (1, .int x1)] → K7 w a0 x1 = some res → W p l e (rz 4 93) s m args below meth c H locs 0 0 (MQ below (QzV D dA A res) args s 0 0 A) (F0 m 7 ls [])) (hK15 : ∀ {w : Fw} {H : Heap} {locs : List Loc} {ls : Array Slot} {a0 : Nat} {x1 : Int32} {x2 : Int32}, Rp D dA A w H → va_S A s.heap H locs → lv_has ls 5 [(0, .ref a0), (1, .int x1), (2, .int x2)] → K15 w a0 x1 x2 = some res → W p l e (rz 4 93) s m args below meth c H locs 0 0 (MQ below (QzV D dA A res) args s 0 0 A) (F0 m 15 ls [])) {H : Heap} {locs : List Loc} {ls : Array Slot} {a0 : Nat} {x1 : Int32} {x2 : Int32} (hR : Rp D dA A w H) (hS : va_S A s.heap H locs) (hl : lv_has ls 5 [(0, .ref a0), (1, .int x1), (2, .int x2)]) (h : fX7_finds_b199 K7 K15 w a0 x1 x2 = some res) : W p l e (rz 4 93) s m args below meth c H locs 0 0 (MQ below (QzV D dA A res) args s 0 0 A) (F0 m 199 ls []) := by
  obtain ⟨hx, hb, hr, hml, hown, hts, hK, hlocks⟩ := id C
  unfold fX7_finds_b199 at h
  refine lv_iinc (v := (x2 + 1)) (lv' := [(2, .int (x2 + 1)), (0, .ref a0), (1, .int x1)]) hx hb dX7_finds_199 hl (k := 2) rfl rfl (by decide) rfl (fun ls hl => ?_)
  refine lv_goto (tgt := 15) hx hb dX7_finds_202 (by decide) ?_
  exact hK15 hR hS (lv_sub hl [1, 2, 0] rfl) h
def fX7_finds_b188 (K7 : Fw → Nat → Int32 → Option (Fw)) (K15 : Fw → Nat → Int32 → Int32 → Option (Fw)) (w : Fw) (a0 : Nat) (x1 : Int32) (x2 : Int32) (s0 : Nat) (s1 : Int32) (s2 : Int32) : Option (Fw) := ((sI w s0 s1 s2).bind fun w14 => ((gI w14 a0 7 8).bind fun v15 => ((pF w14 a0 7 8 (.int (v15 + 1))).bind fun w16 => (fX7_finds_b199 K7 K15 w16 a0 x1 x2))))
set_option maxRecDepth 100000 in
set_option maxHeartbeats 4000000 in
theorem qX7_finds_b188 {p : Program} {l : Launch} {e : Env} {s : State} {m : MethodId} {args : Array Value} {below : List Frame} {meth : Method} {c : Code} {D : va_G} {dA : Nat → ClassId} {A : Nat → Prop} (C : Cx p s m args meth c D dA RX7 cX7_finds 5 none) {w : Fw} {res : Fw} {K7 : Fw → Nat → Int32 → Option (Fw)} {K15 : Fw → Nat → Int32 → Int32 → Option (Fw)} (hK7 : ∀ {w : Fw} {H : Heap} {locs : List Loc} {ls : Array Slot} {a0 : Nat} {x1 : Int32}, Rp D dA A w H → va_S A s.heap H locs → lv_has ls 5 [(0, .ref a0), (1, .int x1)] → K7 w a0 x1 = some res → W p l e (rz 4 93) s m args below meth c H locs 0 0 (MQ below (QzV D dA A res) args s 0 0 A) (F0 m 7 ls [])) (hK15 : ∀ {w : Fw} {H : Heap} {locs : List Loc} {ls : Array Slot} {a0 : Nat} {x1 : Int32} {x2 : Int32}, Rp D dA A w H → va_S A s.heap H locs → lv_has ls 5 [(0, .ref a0), (1, .int x1), (2, .int x2)] → K15 w a0 x1 x2 = some res → W p l e (rz 4 93) s m args below meth c H locs 0 0 (MQ below (QzV D dA A res) args s 0 0 A) (F0 m 15 ls [])) {H : Heap} {locs : List Loc} {ls : Array Slot} {a0 : Nat} {x1 : Int32} {x2 : Int32} {s0 : Nat} {s1 : Int32} {s2 : Int32} (hR : Rp D dA A w H) (hS : va_S A s.heap H locs) (hl : lv_has ls 5 [(0, .ref a0), (1, .int x1), (2, .int x2)]) (h : fX7_finds_b188 K7 K15 w a0 x1 x2 s0 s1 s2 = some res) : W p l e (rz 4 93) s m args below meth c H locs 0 0 (MQ below (QzV D dA A res) args s 0 0 A) (F0 m 188 ls [.int s2, .int s1, .ref s0]) := by
  obtain ⟨hx, hb, hr, hml, hown, hts, hK, hlocks⟩ := id C
  unfold fX7_finds_b188 at h
  obtain ⟨w14, e, h⟩ := bd h
  refine fx_sI hx hb hK hR hS e dX7_finds_188 (fun H locs hR hS => ?_)
  refine lv_aload_n hx hb dX7_finds_189 rfl (lv_at hl 0 rfl) ?_
  refine lv_dup hx hb dX7_finds_190 rfl ?_
  obtain ⟨v15, e, h⟩ := bd h
  refine fx_gI hx hb hts hown hK hR fl_X7_118 e dX7_finds_191 ?_
  refine lv_iconst (v := 1) hx hb dX7_finds_194 (by decide) ?_
  refine lv_iadd hx hb dX7_finds_195 ?_
  obtain ⟨w16, e, h⟩ := bd h
  refine fx_p hx hb hts hown hK hR hS fp_X7_118 e rfl rfl dX7_finds_196 (fun H locs hR hS => ?_)
  exact qX7_finds_b199 C (K7 := K7) (K15 := K15) (hK7 := @hK7) (hK15 := @hK15) hR hS (lv_sub hl [0, 1, 2] rfl) h
def fX7_finds_b162 (K7 : Fw → Nat → Int32 → Option (Fw)) (K15 : Fw → Nat → Int32 → Int32 → Option (Fw)) (w : Fw) (a0 : Nat) (x1 : Int32) (x2 : Int32) (x4 : Int32) (s0 : Nat) (s1 : Int32) (s2 : Int32) : Option (Fw) := ((sI w s0 s1 s2).bind fun w17 => ((gR w17 a0 7 16).bind fun r18 => ((gI w17 a0 7 8).bind fun v19 => (if x4 = (-1) then (fX7_finds_b188 K7 K15 w17 a0 x1 x2 r18 v19 (-1)) else ((gR w17 a0 7 21).bind fun r20 => ((lI w17 r20 x4).bind fun v21 => (fX7_finds_b188 K7 K15 w17 a0 x1 x2 r18 v19 v21)))))))
set_option maxRecDepth 100000 in
set_option maxHeartbeats 4000000 in
theorem qX7_finds_b162 {p : Program} {l : Launch} {e : Env} {s : State} {m : MethodId} {args : Array Value} {below : List Frame} {meth : Method} {c : Code} {D : va_G} {dA : Nat → ClassId} {A : Nat → Prop} (C : Cx p s m args meth c D dA RX7 cX7_finds 5 none) {w : Fw} {res : Fw} {K7 : Fw → Nat → Int32 → Option (Fw)} {K15 : Fw → Nat → Int32 → Int32 → Option (Fw)} (hK7 : ∀ {w : Fw} {H : Heap} {locs : List Loc} {ls : Array Slot} {a0 : Nat} {x1 : Int32}, Rp D dA A w H → va_S A s.heap H locs → lv_has ls 5 [(0, .ref a0), (1, .int x1)] → K7 w a0 x1 = some res → W p l e (rz 4 93) s m args below meth c H locs 0 0 (MQ below (QzV D dA A res) args s 0 0 A) (F0 m 7 ls [])) (hK15 : ∀ {w : Fw} {H : Heap} {locs : List Loc} {ls : Array Slot} {a0 : Nat} {x1 : Int32} {x2 : Int32}, Rp D dA A w H → va_S A s.heap H locs → lv_has ls 5 [(0, .ref a0), (1, .int x1), (2, .int x2)] → K15 w a0 x1 x2 = some res → W p l e (rz 4 93) s m args below meth c H locs 0 0 (MQ below (QzV D dA A res) args s 0 0 A) (F0 m 15 ls [])) {H : Heap} {locs : List Loc} {ls : Array Slot} {a0 : Nat} {x1 : Int32} {x2 : Int32} {x4 : Int32} {s0 : Nat} {s1 : Int32} {s2 : Int32} (hR : Rp D dA A w H) (hS : va_S A s.heap H locs) (hl : lv_has ls 5 [(0, .ref a0), (1, .int x1), (2, .int x2), (4, .int x4)]) (h : fX7_finds_b162 K7 K15 w a0 x1 x2 x4 s0 s1 s2 = some res) : W p l e (rz 4 93) s m args below meth c H locs 0 0 (MQ below (QzV D dA A res) args s 0 0 A) (F0 m 162 ls [.int s2, .int s1, .ref s0]) := by
  obtain ⟨hx, hb, hr, hml, hown, hts, hK, hlocks⟩ := id C
  unfold fX7_finds_b162 at h
  obtain ⟨w17, e, h⟩ := bd h
  refine fx_sI hx hb hK hR hS e dX7_finds_162 (fun H locs hR hS => ?_)
  refine lv_aload_n hx hb dX7_finds_163 rfl (lv_at hl 0 rfl) ?_
  obtain ⟨r18, e, h⟩ := bd h
  refine fx_gR hx hb hts hown hK hR fl_X7_37 e dX7_finds_164 ?_
  refine lv_aload_n hx hb dX7_finds_167 rfl (lv_at hl 0 rfl) ?_
  obtain ⟨v19, e, h⟩ := bd h
  refine fx_gI hx hb hts hown hK hR fl_X7_118 e dX7_finds_168 ?_
  refine lv_iload hx hb dX7_finds_171 (lv_at hl 3 rfl) ?_
  refine lv_iconst (v := (-1)) hx hb dX7_finds_173 (by decide) ?_
  refine lv_icmp_ne (tgt := 181) hx hb dX7_finds_174 (by decide) (fun c => ?_) (fun c => ?_)
  · have h := ie c h
    refine lv_aload_n hx hb dX7_finds_181 rfl (lv_at hl 0 rfl) ?_
    obtain ⟨r20, e, h⟩ := bd h
    refine fx_gR hx hb hts hown hK hR fl_X7_52 e dX7_finds_182 ?_
    refine lv_iload hx hb dX7_finds_185 (lv_at hl 3 rfl) ?_
    obtain ⟨v21, e, h⟩ := bd h
    refine fx_lI hx hb hK hR e dX7_finds_187 ?_
    exact qX7_finds_b188 C (K7 := K7) (K15 := K15) (hK7 := @hK7) (hK15 := @hK15) hR hS (lv_sub hl [0, 1, 2] rfl) h
  · have h := it c h
    refine lv_iconst (v := (-1)) hx hb dX7_finds_177 (by decide) ?_
    refine lv_goto (tgt := 188) hx hb dX7_finds_178 (by decide) ?_
    exact qX7_finds_b188 C (K7 := K7) (K15 := K15) (hK7 := @hK7) (hK15 := @hK15) hR hS (lv_sub hl [0, 1, 2] rfl) h
def fX7_finds_b136 (K7 : Fw → Nat → Int32 → Option (Fw)) (K15 : Fw → Nat → Int32 → Int32 → Option (Fw)) (w : Fw) (a0 : Nat) (x1 : Int32) (x2 : Int32) (x4 : Int32) (s0 : Nat) (s1 : Int32) (s2 : Int32) : Option (Fw) := ((sI w s0 s1 s2).bind fun w22 => ((gR w22 a0 7 15).bind fun r23 => ((gI w22 a0 7 8).bind fun v24 => (if x4 = (-1) then (fX7_finds_b162 K7 K15 w22 a0 x1 x2 x4 r23 v24 0) else ((gR w22 a0 7 20).bind fun r25 => ((lI w22 r25 x4).bind fun v26 => (fX7_finds_b162 K7 K15 w22 a0 x1 x2 x4 r23 v24 v26)))))))
set_option maxRecDepth 100000 in
set_option maxHeartbeats 4000000 in
theorem qX7_finds_b136 {p : Program} {l : Launch} {e : Env} {s : State} {m : MethodId} {args : Array Value} {below : List Frame} {meth : Method} {c : Code} {D : va_G} {dA : Nat → ClassId} {A : Nat → Prop} (C : Cx p s m args meth c D dA RX7 cX7_finds 5 none) {w : Fw} {res : Fw} {K7 : Fw → Nat → Int32 → Option (Fw)} {K15 : Fw → Nat → Int32 → Int32 → Option (Fw)} (hK7 : ∀ {w : Fw} {H : Heap} {locs : List Loc} {ls : Array Slot} {a0 : Nat} {x1 : Int32}, Rp D dA A w H → va_S A s.heap H locs → lv_has ls 5 [(0, .ref a0), (1, .int x1)] → K7 w a0 x1 = some res → W p l e (rz 4 93) s m args below meth c H locs 0 0 (MQ below (QzV D dA A res) args s 0 0 A) (F0 m 7 ls [])) (hK15 : ∀ {w : Fw} {H : Heap} {locs : List Loc} {ls : Array Slot} {a0 : Nat} {x1 : Int32} {x2 : Int32}, Rp D dA A w H → va_S A s.heap H locs → lv_has ls 5 [(0, .ref a0), (1, .int x1), (2, .int x2)] → K15 w a0 x1 x2 = some res → W p l e (rz 4 93) s m args below meth c H locs 0 0 (MQ below (QzV D dA A res) args s 0 0 A) (F0 m 15 ls [])) {H : Heap} {locs : List Loc} {ls : Array Slot} {a0 : Nat} {x1 : Int32} {x2 : Int32} {x4 : Int32} {s0 : Nat} {s1 : Int32} {s2 : Int32} (hR : Rp D dA A w H) (hS : va_S A s.heap H locs) (hl : lv_has ls 5 [(0, .ref a0), (1, .int x1), (2, .int x2), (4, .int x4)]) (h : fX7_finds_b136 K7 K15 w a0 x1 x2 x4 s0 s1 s2 = some res) : W p l e (rz 4 93) s m args below meth c H locs 0 0 (MQ below (QzV D dA A res) args s 0 0 A) (F0 m 136 ls [.int s2, .int s1, .ref s0]) := by
  obtain ⟨hx, hb, hr, hml, hown, hts, hK, hlocks⟩ := id C
  unfold fX7_finds_b136 at h
  obtain ⟨w22, e, h⟩ := bd h
  refine fx_sI hx hb hK hR hS e dX7_finds_136 (fun H locs hR hS => ?_)
  refine lv_aload_n hx hb dX7_finds_137 rfl (lv_at hl 0 rfl) ?_
  obtain ⟨r23, e, h⟩ := bd h
  refine fx_gR hx hb hts hown hK hR fl_X7_34 e dX7_finds_138 ?_
  refine lv_aload_n hx hb dX7_finds_141 rfl (lv_at hl 0 rfl) ?_
  obtain ⟨v24, e, h⟩ := bd h
  refine fx_gI hx hb hts hown hK hR fl_X7_118 e dX7_finds_142 ?_
  refine lv_iload hx hb dX7_finds_145 (lv_at hl 3 rfl) ?_
  refine lv_iconst (v := (-1)) hx hb dX7_finds_147 (by decide) ?_
  refine lv_icmp_ne (tgt := 155) hx hb dX7_finds_148 (by decide) (fun c => ?_) (fun c => ?_)
  · have h := ie c h
    refine lv_aload_n hx hb dX7_finds_155 rfl (lv_at hl 0 rfl) ?_
    obtain ⟨r25, e, h⟩ := bd h
    refine fx_gR hx hb hts hown hK hR fl_X7_49 e dX7_finds_156 ?_
    refine lv_iload hx hb dX7_finds_159 (lv_at hl 3 rfl) ?_
    obtain ⟨v26, e, h⟩ := bd h
    refine fx_lI hx hb hK hR e dX7_finds_161 ?_
    exact qX7_finds_b162 C (K7 := K7) (K15 := K15) (hK7 := @hK7) (hK15 := @hK15) hR hS (lv_sub hl [0, 1, 2, 3] rfl) h
  · have h := it c h
    refine lv_iconst (v := 0) hx hb dX7_finds_151 (by decide) ?_
    refine lv_goto (tgt := 162) hx hb dX7_finds_152 (by decide) ?_
    exact qX7_finds_b162 C (K7 := K7) (K15 := K15) (hK7 := @hK7) (hK15 := @hK15) hR hS (lv_sub hl [0, 1, 2, 3] rfl) h
def fX7_finds_L15 (K7 : Fw → Nat → Int32 → Option (Fw)) : Nat → Fw → Nat → Int32 → Int32 → Option (Fw)
  | 0, _, _, _, _ => none
  | n + 1, w, a0, x1, x2 => ((gR w a0 7 0).bind fun r27 => ((lI w r27 x1).bind fun v28 => (if v28 ≤ x2 then (K7 w a0 (x1 + 1)) else ((isO w a0 7).bind fun _ => ((fX7_breaks w a0 x1 x2).bind fun v29 => (if v29 = (-1) then (fX7_finds_b199 K7 (fX7_finds_L15 K7 n) w a0 x1 x2) else ((gR w a0 7 2).bind fun r30 => ((lI w r30 ((32 * x1) + x2)).bind fun v31 => ((isO w a0 7).bind fun _ => ((fX7_had w a0 v29 v31).bind fun v32 => ((gR w a0 7 10).bind fun r33 => ((gI w a0 7 8).bind fun v34 => ((sI w r33 v34 v29).bind fun w35 => ((gR w35 a0 7 11).bind fun r36 => ((gI w35 a0 7 8).bind fun v37 => ((sI w35 r36 v37 x1).bind fun w38 => ((gR w38 a0 7 12).bind fun r39 => ((gI w38 a0 7 8).bind fun v40 => ((sI w38 r39 v40 x2).bind fun w41 => ((gR w41 a0 7 13).bind fun r42 => ((gI w41 a0 7 8).bind fun v43 => ((gR w41 a0 7 2).bind fun r44 => ((lI w41 r44 ((32 * x1) + x2)).bind fun v45 => ((sI w41 r42 v43 v45).bind fun w46 => ((gR w46 a0 7 14).bind fun r47 => ((gI w46 a0 7 8).bind fun v48 => (if v32 = (-1) then ((gI w46 a0 7 3).bind fun v51 => (fX7_finds_b136 K7 (fX7_finds_L15 K7 n) w46 a0 x1 x2 v32 r47 v48 v51)) else ((gR w46 a0 7 19).bind fun r49 => ((lI w46 r49 v32).bind fun v50 => (fX7_finds_b136 K7 (fX7_finds_L15 K7 n) w46 a0 x1 x2 v32 r47 v48 v50))))))))))))))))))))))))))))))
set_option maxRecDepth 100000 in
set_option maxHeartbeats 4000000 in
theorem qX7_finds_L15 {p : Program} {l : Launch} {e : Env} {s : State} {m : MethodId} {args : Array Value} {below : List Frame} {meth : Method} {c : Code} {D : va_G} {dA : Nat → ClassId} {A : Nat → Prop} (C : Cx p s m args meth c D dA RX7 cX7_finds 5 none) {res : Fw} {K7 : Fw → Nat → Int32 → Option (Fw)} (hK7 : ∀ {w : Fw} {H : Heap} {locs : List Loc} {ls : Array Slot} {a0 : Nat} {x1 : Int32}, Rp D dA A w H → va_S A s.heap H locs → lv_has ls 5 [(0, .ref a0), (1, .int x1)] → K7 w a0 x1 = some res → W p l e (rz 4 93) s m args below meth c H locs 0 0 (MQ below (QzV D dA A res) args s 0 0 A) (F0 m 7 ls [])) : ∀ (n : Nat) {w : Fw} {H : Heap} {locs : List Loc} {ls : Array Slot} {a0 : Nat} {x1 : Int32} {x2 : Int32}, Rp D dA A w H → va_S A s.heap H locs → lv_has ls 5 [(0, .ref a0), (1, .int x1), (2, .int x2)] → fX7_finds_L15 K7 n w a0 x1 x2 = some res → W p l e (rz 4 93) s m args below meth c H locs 0 0 (MQ below (QzV D dA A res) args s 0 0 A) (F0 m 15 ls []) := by
  obtain ⟨hx, hb, hr, hml, hown, hts, hK, hlocks⟩ := id C
  intro n
  induction n with
  | zero =>
    intro w H locs ls a0 x1 x2 hR hS hl h
    rw [fX7_finds_L15.eq_1] at h
    cases h
  | succ n ih =>
    intro w H locs ls a0 x1 x2 hR hS hl h
    rw [fX7_finds_L15.eq_2] at h
    refine lv_iload_n hx hb dX7_finds_15 rfl (lv_at hl 2 rfl) ?_
    refine lv_aload_n hx hb dX7_finds_16 rfl (lv_at hl 0 rfl) ?_
    obtain ⟨r27, e, h⟩ := bd h
    refine fx_gR hx hb hts hown hK hR fl_X7_7 e dX7_finds_17 ?_
    refine lv_iload_n hx hb dX7_finds_20 rfl (lv_at hl 1 rfl) ?_
    obtain ⟨v28, e, h⟩ := bd h
    refine fx_lI hx hb hK hR e dX7_finds_21 ?_
    refine lv_icmp_ge (tgt := 205) hx hb dX7_finds_22 (by decide) (fun c => ?_) (fun c => ?_)
    · have h := it c h
      refine lv_iinc (v := (x1 + 1)) (lv' := [(1, .int (x1 + 1)), (0, .ref a0), (2, .int x2)]) hx hb dX7_finds_205 hl (k := 1) rfl rfl (by decide) rfl (fun ls hl => ?_)
      refine lv_goto (tgt := 7) hx hb dX7_finds_208 (by decide) ?_
      exact hK7 hR hS (lv_sub hl [1, 0] rfl) h
    · have h := ie c h
      refine lv_aload_n hx hb dX7_finds_25 rfl (lv_at hl 0 rfl) ?_
      refine lv_iload_n hx hb dX7_finds_26 rfl (lv_at hl 1 rfl) ?_
      refine lv_iload_n hx hb dX7_finds_27 rfl (lv_at hl 2 rfl) ?_
      obtain ⟨_, eO, h⟩ := bd h
      obtain ⟨v29, e, h⟩ := bd h
      refine fx_vI (As := [.int x1, .int x2]) (rest := []) hx hb hml hts hown hK hR hS eO (mX7_breaks l D dA A e) my_X7_breaks mv_X7_breaks rfl ml_X7_124 rfl hl.1 rfl (Nat.le_of_ble_eq_true rfl) dX7_finds_28 ⟨Nat.le_of_ble_eq_true rfl, Nat.le_of_ble_eq_true rfl⟩ ⟨Nat.le_refl _, Nat.le_refl _⟩ (fun H locs hR hS => ?_)
      refine lv_istore_n (lv' := [(3, .int v29), (0, .ref a0), (1, .int x1), (2, .int x2)]) hx hb dX7_finds_31 rfl hl (by decide) rfl (fun ls hl => ?_)
      refine lv_iload_n hx hb dX7_finds_32 rfl (lv_at hl 0 rfl) ?_
      refine lv_iconst (v := (-1)) hx hb dX7_finds_33 (by decide) ?_
      refine lv_icmp_ne (tgt := 40) hx hb dX7_finds_34 (by decide) (fun c => ?_) (fun c => ?_)
      · have h := ie c h
        refine lv_aload_n hx hb dX7_finds_40 rfl (lv_at hl 1 rfl) ?_
        refine lv_iload_n hx hb dX7_finds_41 rfl (lv_at hl 0 rfl) ?_
        refine lv_aload_n hx hb dX7_finds_42 rfl (lv_at hl 1 rfl) ?_
        obtain ⟨r30, e, h⟩ := bd h
        refine fx_gR hx hb hts hown hK hR fl_X7_16 e dX7_finds_43 ?_
        refine lv_bipush (v := 32) hx hb dX7_finds_46 (by decide) ?_
        refine lv_iload_n hx hb dX7_finds_48 rfl (lv_at hl 2 rfl) ?_
        refine lv_imul hx hb dX7_finds_49 ?_
        refine lv_iload_n hx hb dX7_finds_50 rfl (lv_at hl 3 rfl) ?_
        refine lv_iadd hx hb dX7_finds_51 ?_
        obtain ⟨v31, e, h⟩ := bd h
        refine fx_lI hx hb hK hR e dX7_finds_52 ?_
        obtain ⟨_, eO, h⟩ := bd h
        obtain ⟨v32, e, h⟩ := bd h
        refine fx_vI (As := [.int v29, .int v31]) (rest := []) hx hb hml hts hown hK hR hS eO (mX7_had l D dA A e) my_X7_had mv_X7_had rfl ml_X7_127 rfl hl.1 rfl (Nat.le_of_ble_eq_true rfl) dX7_finds_53 ⟨Nat.le_of_ble_eq_true rfl, Nat.le_of_ble_eq_true rfl⟩ ⟨Nat.le_refl _, Nat.le_refl _⟩ (fun H locs hR hS => ?_)
        refine lv_istore (lv' := [(4, .int v32), (3, .int v29), (0, .ref a0), (1, .int x1), (2, .int x2)]) hx hb dX7_finds_56 hl (by decide) rfl (fun ls hl => ?_)
        refine lv_aload_n hx hb dX7_finds_58 rfl (lv_at hl 2 rfl) ?_
        obtain ⟨r33, e, h⟩ := bd h
        refine fx_gR hx hb hts hown hK hR fl_X7_19 e dX7_finds_59 ?_
        refine lv_aload_n hx hb dX7_finds_62 rfl (lv_at hl 2 rfl) ?_
        obtain ⟨v34, e, h⟩ := bd h
        refine fx_gI hx hb hts hown hK hR fl_X7_118 e dX7_finds_63 ?_
        refine lv_iload_n hx hb dX7_finds_66 rfl (lv_at hl 1 rfl) ?_
        obtain ⟨w35, e, h⟩ := bd h
        refine fx_sI hx hb hK hR hS e dX7_finds_67 (fun H locs hR hS => ?_)
        refine lv_aload_n hx hb dX7_finds_68 rfl (lv_at hl 2 rfl) ?_
        obtain ⟨r36, e, h⟩ := bd h
        refine fx_gR hx hb hts hown hK hR fl_X7_22 e dX7_finds_69 ?_
        refine lv_aload_n hx hb dX7_finds_72 rfl (lv_at hl 2 rfl) ?_
        obtain ⟨v37, e, h⟩ := bd h
        refine fx_gI hx hb hts hown hK hR fl_X7_118 e dX7_finds_73 ?_
        refine lv_iload_n hx hb dX7_finds_76 rfl (lv_at hl 3 rfl) ?_
        obtain ⟨w38, e, h⟩ := bd h
        refine fx_sI hx hb hK hR hS e dX7_finds_77 (fun H locs hR hS => ?_)
        refine lv_aload_n hx hb dX7_finds_78 rfl (lv_at hl 2 rfl) ?_
        obtain ⟨r39, e, h⟩ := bd h
        refine fx_gR hx hb hts hown hK hR fl_X7_25 e dX7_finds_79 ?_
        refine lv_aload_n hx hb dX7_finds_82 rfl (lv_at hl 2 rfl) ?_
        obtain ⟨v40, e, h⟩ := bd h
        refine fx_gI hx hb hts hown hK hR fl_X7_118 e dX7_finds_83 ?_
        refine lv_iload_n hx hb dX7_finds_86 rfl (lv_at hl 4 rfl) ?_
        obtain ⟨w41, e, h⟩ := bd h
        refine fx_sI hx hb hK hR hS e dX7_finds_87 (fun H locs hR hS => ?_)
        refine lv_aload_n hx hb dX7_finds_88 rfl (lv_at hl 2 rfl) ?_
        obtain ⟨r42, e, h⟩ := bd h
        refine fx_gR hx hb hts hown hK hR fl_X7_28 e dX7_finds_89 ?_
        refine lv_aload_n hx hb dX7_finds_92 rfl (lv_at hl 2 rfl) ?_
        obtain ⟨v43, e, h⟩ := bd h
        refine fx_gI hx hb hts hown hK hR fl_X7_118 e dX7_finds_93 ?_
        refine lv_aload_n hx hb dX7_finds_96 rfl (lv_at hl 2 rfl) ?_
        obtain ⟨r44, e, h⟩ := bd h
        refine fx_gR hx hb hts hown hK hR fl_X7_16 e dX7_finds_97 ?_
        refine lv_bipush (v := 32) hx hb dX7_finds_100 (by decide) ?_
        refine lv_iload_n hx hb dX7_finds_102 rfl (lv_at hl 3 rfl) ?_
        refine lv_imul hx hb dX7_finds_103 ?_
        refine lv_iload_n hx hb dX7_finds_104 rfl (lv_at hl 4 rfl) ?_
        refine lv_iadd hx hb dX7_finds_105 ?_
        obtain ⟨v45, e, h⟩ := bd h
        refine fx_lI hx hb hK hR e dX7_finds_106 ?_
        obtain ⟨w46, e, h⟩ := bd h
        refine fx_sI hx hb hK hR hS e dX7_finds_107 (fun H locs hR hS => ?_)
        refine lv_aload_n hx hb dX7_finds_108 rfl (lv_at hl 2 rfl) ?_
        obtain ⟨r47, e, h⟩ := bd h
        refine fx_gR hx hb hts hown hK hR fl_X7_31 e dX7_finds_109 ?_
        refine lv_aload_n hx hb dX7_finds_112 rfl (lv_at hl 2 rfl) ?_
        obtain ⟨v48, e, h⟩ := bd h
        refine fx_gI hx hb hts hown hK hR fl_X7_118 e dX7_finds_113 ?_
        refine lv_iload hx hb dX7_finds_116 (lv_at hl 0 rfl) ?_
        refine lv_iconst (v := (-1)) hx hb dX7_finds_118 (by decide) ?_
        refine lv_icmp_ne (tgt := 129) hx hb dX7_finds_119 (by decide) (fun c => ?_) (fun c => ?_)
        · have h := ie c h
          refine lv_aload_n hx hb dX7_finds_129 rfl (lv_at hl 2 rfl) ?_
          obtain ⟨r49, e, h⟩ := bd h
          refine fx_gR hx hb hts hown hK hR fl_X7_46 e dX7_finds_130 ?_
          refine lv_iload hx hb dX7_finds_133 (lv_at hl 0 rfl) ?_
          obtain ⟨v50, e, h⟩ := bd h
          refine fx_lI hx hb hK hR e dX7_finds_135 ?_
          exact qX7_finds_b136 C (K7 := K7) (K15 := fX7_finds_L15 K7 n) (hK7 := @hK7) (hK15 := @ih) hR hS (lv_sub hl [2, 3, 4, 0] rfl) h
        · have h := it c h
          refine lv_aload_n hx hb dX7_finds_122 rfl (lv_at hl 2 rfl) ?_
          obtain ⟨v51, e, h⟩ := bd h
          refine fx_gI hx hb hts hown hK hR fl_X7_115 e dX7_finds_123 ?_
          refine lv_goto (tgt := 136) hx hb dX7_finds_126 (by decide) ?_
          exact qX7_finds_b136 C (K7 := K7) (K15 := fX7_finds_L15 K7 n) (hK7 := @hK7) (hK15 := @ih) hR hS (lv_sub hl [2, 3, 4, 0] rfl) h
      · have h := it c h
        refine lv_goto (tgt := 199) hx hb dX7_finds_37 (by decide) ?_
        exact qX7_finds_b199 C (K7 := K7) (K15 := fX7_finds_L15 K7 n) (hK7 := @hK7) (hK15 := @ih) hR hS (lv_sub hl [1, 2, 3] rfl) h
def fX7_finds_L7  : Nat → Fw → Nat → Int32 → Option (Fw)
  | 0, _, _, _ => none
  | n + 1, w, a0, x1 => if 6 ≤ x1 then (fX7_finds_L213 1000 w a0 0) else (fX7_finds_L15 (fX7_finds_L7  n) 1000 w a0 x1 0)
set_option maxRecDepth 100000 in
set_option maxHeartbeats 4000000 in
theorem qX7_finds_L7 {p : Program} {l : Launch} {e : Env} {s : State} {m : MethodId} {args : Array Value} {below : List Frame} {meth : Method} {c : Code} {D : va_G} {dA : Nat → ClassId} {A : Nat → Prop} (C : Cx p s m args meth c D dA RX7 cX7_finds 5 none) {res : Fw}   : ∀ (n : Nat) {w : Fw} {H : Heap} {locs : List Loc} {ls : Array Slot} {a0 : Nat} {x1 : Int32}, Rp D dA A w H → va_S A s.heap H locs → lv_has ls 5 [(0, .ref a0), (1, .int x1)] → fX7_finds_L7 n w a0 x1 = some res → W p l e (rz 4 93) s m args below meth c H locs 0 0 (MQ below (QzV D dA A res) args s 0 0 A) (F0 m 7 ls []) := by
  obtain ⟨hx, hb, hr, hml, hown, hts, hK, hlocks⟩ := id C
  intro n
  induction n with
  | zero =>
    intro w H locs ls a0 x1 hR hS hl h
    rw [fX7_finds_L7.eq_1] at h
    cases h
  | succ n ih =>
    intro w H locs ls a0 x1 hR hS hl h
    rw [fX7_finds_L7.eq_2] at h
    refine lv_iload_n hx hb dX7_finds_7 rfl (lv_at hl 1 rfl) ?_
    refine lv_bipush (v := 6) hx hb dX7_finds_8 (by decide) ?_
    refine lv_icmp_ge (tgt := 211) hx hb dX7_finds_10 (by decide) (fun c => ?_) (fun c => ?_)
    · have h := it c h
      refine lv_iconst (v := 0) hx hb dX7_finds_211 (by decide) ?_
      refine lv_istore_n (lv' := [(1, .int 0), (0, .ref a0)]) hx hb dX7_finds_212 rfl hl (by decide) rfl (fun ls hl => ?_)
      exact qX7_finds_L213 C   1000 hR hS (lv_sub hl [1, 0] rfl) h
    · have h := ie c h
      refine lv_iconst (v := 0) hx hb dX7_finds_13 (by decide) ?_
      refine lv_istore_n (lv' := [(2, .int 0), (0, .ref a0), (1, .int x1)]) hx hb dX7_finds_14 rfl hl (by decide) rfl (fun ls hl => ?_)
      exact qX7_finds_L15 C (K7 := fX7_finds_L7  n) (hK7 := @ih) 1000 hR hS (lv_sub hl [1, 2, 0] rfl) h
def fX7_finds (w : Fw) (a0 : Nat) : Option (Fw) := ((pF w a0 7 8 (.int 0)).bind fun w52 => (fX7_finds_L7 1000 w52 a0 0))
set_option maxRecDepth 100000 in
set_option maxHeartbeats 4000000 in
theorem mX7_finds (l : Launch) (D : va_G) (dA : Nat → ClassId) (A : Nat → Prop) {w : Fw} {a0 : Nat} {res : Fw} (h : fX7_finds w a0 = some res) : Met l yX7_finds (wz yX7_finds cX7_finds 5 none) (rz 4 93) (Pz D dA A w [.ref a0]) (QzV D dA A res) 0 0 A := by
  refine Met.ofW (cc := cX7_finds) (maxL := 5) (ret := none) (by decide) rfl ?_
  intro p e s m args below meth c s₁ B hml hv
  obtain ⟨rfl, hR, hK⟩ := hv
  have hx := B.exec
  have hb := B.bytes
  have hr := B.returns
  have hts : ∀ w ∈ lw_g, w.before [.ref a0].toArray s = true := fun w hw => atoms_spec (ws := wz yX7_finds cX7_finds 5 none) B.pre w (List.mem_cons_of_mem _ hw)
  have hown : s.vm.findClass RX7 = some m.cls := findClass_of_methodNamed B.named
  have hlocks := B.notSynchronized
  have C : Cx p s m [.ref a0].toArray meth c D dA RX7 cX7_finds 5 none := ⟨hx, hb, hr, hml, hown, hts, hK, hlocks⟩
  have hS : va_S A s.heap s.heap [] := va_S.rf
  have hl := lv_entry ([.ref a0]) (n := 5) (Nat.le_of_ble_eq_true rfl)
  rw [lg_entry_eq]
  generalize (lg_sl ([.ref a0]) ++ List.replicate (5 - (lg_sl ([.ref a0])).length) Slot.unset).toArray = ls at hl ⊢
  have hl : lv_has ls 5 [(0, .ref a0)] := hl
  unfold fX7_finds at h
  show W p l e (rz 4 93) s m _ below meth c s.heap [] 0 0 _ _
  refine lv_aload_n hx hb dX7_finds_0 rfl (lv_at hl 0 rfl) ?_
  refine lv_iconst (v := 0) hx hb dX7_finds_1 (by decide) ?_
  obtain ⟨w52, e, h⟩ := bd h
  refine fx_p hx hb hts hown hK hR hS fp_X7_118 e rfl rfl dX7_finds_2 (fun H locs hR hS => ?_)
  refine lv_iconst (v := 0) hx hb dX7_finds_5 (by decide) ?_
  refine lv_istore_n (lv' := [(1, .int 0), (0, .ref a0)]) hx hb dX7_finds_6 rfl hl (by decide) rfl (fun ls hl => ?_)
  exact qX7_finds_L7 C   1000 hR hS (lv_sub hl [1, 0] rfl) h
def fX7_log_b81 (w : Fw)  (s0 : Int32) : Option (Int32) := some s0
set_option maxRecDepth 100000 in
set_option maxHeartbeats 4000000 in
theorem qX7_log_b81 {p : Program} {l : Launch} {e : Env} {s : State} {m : MethodId} {args : Array Value} {below : List Frame} {meth : Method} {c : Code} {D : va_G} {dA : Nat → ClassId} {A : Nat → Prop} (C : Cx p s m args meth c D dA RX7 cX7_log 4 (some .int)) {w : Fw} {res : Int32}   {H : Heap} {locs : List Loc} {ls : Array Slot} {s0 : Int32} (hR : Rp D dA A w H) (hS : va_S A s.heap H locs) (hl : lv_has ls 4 []) (h : fX7_log_b81 w s0 = some res) : W p l e (rz 1 22) s m args below meth c H locs 0 0 (MQ below (QzI D dA A res w) args s 0 0 A) (F0 m 81 ls [.int s0]) := by
  obtain ⟨hx, hb, hr, hml, hown, hts, hK, hlocks⟩ := id C
  unfold fX7_log_b81 at h
  exact fx_iret hx hb hr hlocks (Option.some.inj h) rfl hR hS dX7_log_81
def fX7_log (w : Fw) (a0 : Nat) (x1 : Int32) (x2 : Int32) : Option (Int32) := ((gI w a0 7 22).bind fun v1 => ((fX7_isIn w x1 0 (v1 - 1)).bind fun v2 => (if v2 = 0 then some ((-1) : Int32) else ((gI w a0 7 22).bind fun v3 => (if x2 = 0 then ((gR w a0 7 23).bind fun r10 => ((lI w r10 ((v3 - 1) - x1)).bind fun v11 => (fX7_log_b81 w v11))) else if x2 = 1 then ((gR w a0 7 24).bind fun r8 => ((lI w r8 ((v3 - 1) - x1)).bind fun v9 => (fX7_log_b81 w v9))) else if x2 = 2 then ((gR w a0 7 25).bind fun r6 => ((lI w r6 ((v3 - 1) - x1)).bind fun v7 => (fX7_log_b81 w v7))) else if x2 = 3 then ((gR w a0 7 26).bind fun r4 => ((lI w r4 ((v3 - 1) - x1)).bind fun v5 => (fX7_log_b81 w v5))) else (fX7_log_b81 w (-1)))))))
set_option maxRecDepth 100000 in
set_option maxHeartbeats 4000000 in
theorem mX7_log (l : Launch) (D : va_G) (dA : Nat → ClassId) (A : Nat → Prop) {w : Fw} {a0 : Nat} {x1 : Int32} {x2 : Int32} {res : Int32} (h : fX7_log w a0 x1 x2 = some res) : Met l yX7_log (wz yX7_log cX7_log 4 (some .int)) (rz 1 22) (Pz D dA A w [.ref a0, .int x1, .int x2]) (QzI D dA A res w) 0 0 A := by
  refine Met.ofW (cc := cX7_log) (maxL := 4) (ret := (some .int)) (by decide) rfl ?_
  intro p e s m args below meth c s₁ B hml hv
  obtain ⟨rfl, hR, hK⟩ := hv
  have hx := B.exec
  have hb := B.bytes
  have hr := B.returns
  have hts : ∀ w ∈ lw_g, w.before [.ref a0, .int x1, .int x2].toArray s = true := fun w hw => atoms_spec (ws := wz yX7_log cX7_log 4 (some .int)) B.pre w (List.mem_cons_of_mem _ hw)
  have hown : s.vm.findClass RX7 = some m.cls := findClass_of_methodNamed B.named
  have hlocks := B.notSynchronized
  have C : Cx p s m [.ref a0, .int x1, .int x2].toArray meth c D dA RX7 cX7_log 4 (some .int) := ⟨hx, hb, hr, hml, hown, hts, hK, hlocks⟩
  have hS : va_S A s.heap s.heap [] := va_S.rf
  have hl := lv_entry ([.ref a0, .int x1, .int x2]) (n := 4) (Nat.le_of_ble_eq_true rfl)
  rw [lg_entry_eq]
  generalize (lg_sl ([.ref a0, .int x1, .int x2]) ++ List.replicate (4 - (lg_sl ([.ref a0, .int x1, .int x2])).length) Slot.unset).toArray = ls at hl ⊢
  have hl : lv_has ls 4 [(0, .ref a0), (1, .int x1), (2, .int x2)] := hl
  unfold fX7_log at h
  show W p l e (rz 1 22) s m _ below meth c s.heap [] 0 0 _ _
  refine lv_iload_n hx hb dX7_log_0 rfl (lv_at hl 1 rfl) ?_
  refine lv_iconst (v := 0) hx hb dX7_log_1 (by decide) ?_
  refine lv_aload_n hx hb dX7_log_2 rfl (lv_at hl 0 rfl) ?_
  obtain ⟨v1, e, h⟩ := bd h
  refine fx_gI hx hb hts hown hK hR fl_X7_137 e dX7_log_3 ?_
  refine lv_iconst (v := 1) hx hb dX7_log_6 (by decide) ?_
  refine lv_isub hx hb dX7_log_7 ?_
  obtain ⟨v2, e, h⟩ := bd h
  refine fx_sI' (As := [.int x1, .int 0, .int (v1 - 1)]) (rest := []) hx hb hml hts hown hK hR hS (mX7_isIn l D dA A e) my_X7_isIn ms_X7_isIn ml_X7_76 rfl hl.1 rfl (Nat.le_of_ble_eq_true rfl) dX7_log_8 ⟨Nat.le_of_ble_eq_true rfl, Nat.le_of_ble_eq_true rfl⟩ ⟨Nat.le_refl _, Nat.le_refl _⟩ (fun H locs hR hS => ?_)
  refine lv_if_ne (tgt := 16) hx hb dX7_log_11 (by decide) (fun c => ?_) (fun c => ?_)
  · have h := ie c h
    refine lv_aload_n hx hb dX7_log_16 rfl (lv_at hl 0 rfl) ?_
    obtain ⟨v3, e, h⟩ := bd h
    refine fx_gI hx hb hts hown hK hR fl_X7_137 e dX7_log_17 ?_
    refine lv_iconst (v := 1) hx hb dX7_log_20 (by decide) ?_
    refine lv_isub hx hb dX7_log_21 ?_
    refine lv_iload_n hx hb dX7_log_22 rfl (lv_at hl 1 rfl) ?_
    refine lv_isub hx hb dX7_log_23 ?_
    refine lv_istore_n (lv' := [(3, .int ((v3 - 1) - x1)), (0, .ref a0), (1, .int x1), (2, .int x2)]) hx hb dX7_log_24 rfl hl (by decide) rfl (fun ls hl => ?_)
    refine lv_iload_n hx hb dX7_log_25 rfl (lv_at hl 3 rfl) ?_
    refine lv_if_ne (tgt := 38) hx hb dX7_log_26 (by decide) (fun c => ?_) (fun c => ?_)
    · have h := ie c h
      refine lv_iload_n hx hb dX7_log_38 rfl (lv_at hl 3 rfl) ?_
      refine lv_iconst (v := 1) hx hb dX7_log_39 (by decide) ?_
      refine lv_icmp_ne (tgt := 52) hx hb dX7_log_40 (by decide) (fun c => ?_) (fun c => ?_)
      · have h := ie c h
        refine lv_iload_n hx hb dX7_log_52 rfl (lv_at hl 3 rfl) ?_
        refine lv_iconst (v := 2) hx hb dX7_log_53 (by decide) ?_
        refine lv_icmp_ne (tgt := 66) hx hb dX7_log_54 (by decide) (fun c => ?_) (fun c => ?_)
        · have h := ie c h
          refine lv_iload_n hx hb dX7_log_66 rfl (lv_at hl 3 rfl) ?_
          refine lv_iconst (v := 3) hx hb dX7_log_67 (by decide) ?_
          refine lv_icmp_ne (tgt := 80) hx hb dX7_log_68 (by decide) (fun c => ?_) (fun c => ?_)
          · have h := ie c h
            refine lv_iconst (v := (-1)) hx hb dX7_log_80 (by decide) ?_
            exact qX7_log_b81 C   hR hS (lv_sub hl [] rfl) h
          · have h := it c h
            refine lv_aload_n hx hb dX7_log_71 rfl (lv_at hl 1 rfl) ?_
            obtain ⟨r4, e, h⟩ := bd h
            refine fx_gR hx hb hts hown hK hR fl_X7_64 e dX7_log_72 ?_
            refine lv_iload_n hx hb dX7_log_75 rfl (lv_at hl 0 rfl) ?_
            obtain ⟨v5, e, h⟩ := bd h
            refine fx_lI hx hb hK hR e dX7_log_76 ?_
            refine lv_goto (tgt := 81) hx hb dX7_log_77 (by decide) ?_
            exact qX7_log_b81 C   hR hS (lv_sub hl [] rfl) h
        · have h := it c h
          refine lv_aload_n hx hb dX7_log_57 rfl (lv_at hl 1 rfl) ?_
          obtain ⟨r6, e, h⟩ := bd h
          refine fx_gR hx hb hts hown hK hR fl_X7_61 e dX7_log_58 ?_
          refine lv_iload_n hx hb dX7_log_61 rfl (lv_at hl 0 rfl) ?_
          obtain ⟨v7, e, h⟩ := bd h
          refine fx_lI hx hb hK hR e dX7_log_62 ?_
          refine lv_goto (tgt := 81) hx hb dX7_log_63 (by decide) ?_
          exact qX7_log_b81 C   hR hS (lv_sub hl [] rfl) h
      · have h := it c h
        refine lv_aload_n hx hb dX7_log_43 rfl (lv_at hl 1 rfl) ?_
        obtain ⟨r8, e, h⟩ := bd h
        refine fx_gR hx hb hts hown hK hR fl_X7_58 e dX7_log_44 ?_
        refine lv_iload_n hx hb dX7_log_47 rfl (lv_at hl 0 rfl) ?_
        obtain ⟨v9, e, h⟩ := bd h
        refine fx_lI hx hb hK hR e dX7_log_48 ?_
        refine lv_goto (tgt := 81) hx hb dX7_log_49 (by decide) ?_
        exact qX7_log_b81 C   hR hS (lv_sub hl [] rfl) h
    · have h := it c h
      refine lv_aload_n hx hb dX7_log_29 rfl (lv_at hl 1 rfl) ?_
      obtain ⟨r10, e, h⟩ := bd h
      refine fx_gR hx hb hts hown hK hR fl_X7_55 e dX7_log_30 ?_
      refine lv_iload_n hx hb dX7_log_33 rfl (lv_at hl 0 rfl) ?_
      obtain ⟨v11, e, h⟩ := bd h
      refine fx_lI hx hb hK hR e dX7_log_34 ?_
      refine lv_goto (tgt := 81) hx hb dX7_log_35 (by decide) ?_
      exact qX7_log_b81 C   hR hS (lv_sub hl [] rfl) h
  · have h := it c h
    refine lv_iconst (v := (-1)) hx hb dX7_log_14 (by decide) ?_
    exact fx_iret hx hb hr hlocks (Option.some.inj h) rfl hR hS dX7_log_15
def fX7_ends_b45 (K9 : Fw → Nat → Int32 → Int32 → Int32 → Option (Fw)) (w : Fw) (a0 : Nat) (x1 : Int32) (x2 : Int32) (x3 : Int32) : Option (Fw) := (K9 w a0 x1 x2 (x3 + 1))
set_option maxRecDepth 100000 in
set_option maxHeartbeats 4000000 in
theorem qX7_ends_b45 {p : Program} {l : Launch} {e : Env} {s : State} {m : MethodId} {args : Array Value} {below : List Frame} {meth : Method} {c : Code} {D : va_G} {dA : Nat → ClassId} {A : Nat → Prop} (C : Cx p s m args meth c D dA RX7 cX7_ends 4 none) {w : Fw} {res : Fw} {K9 : Fw → Nat → Int32 → Int32 → Int32 → Option (Fw)} (hK9 : ∀ {w : Fw} {H : Heap} {locs : List Loc} {ls : Array Slot} {a0 : Nat} {x1 : Int32} {x2 : Int32} {x3 : Int32}, Rp D dA A w H → va_S A s.heap H locs → lv_has ls 4 [(0, .ref a0), (1, .int x1), (2, .int x2), (3, .int x3)] → K9 w a0 x1 x2 x3 = some res → W p l e (rz 5 117) s m args below meth c H locs 0 0 (MQ below (QzV D dA A res) args s 0 0 A) (F0 m 9 ls [])) {H : Heap} {locs : List Loc} {ls : Array Slot} {a0 : Nat} {x1 : Int32} {x2 : Int32} {x3 : Int32} (hR : Rp D dA A w H) (hS : va_S A s.heap H locs) (hl : lv_has ls 4 [(0, .ref a0), (1, .int x1), (2, .int x2), (3, .int x3)]) (h : fX7_ends_b45 K9 w a0 x1 x2 x3 = some res) : W p l e (rz 5 117) s m args below meth c H locs 0 0 (MQ below (QzV D dA A res) args s 0 0 A) (F0 m 45 ls []) := by
  obtain ⟨hx, hb, hr, hml, hown, hts, hK, hlocks⟩ := id C
  unfold fX7_ends_b45 at h
  refine lv_iinc (v := (x3 + 1)) (lv' := [(3, .int (x3 + 1)), (0, .ref a0), (1, .int x1), (2, .int x2)]) hx hb dX7_ends_45 hl (k := 3) rfl rfl (by decide) rfl (fun ls hl => ?_)
  refine lv_goto (tgt := 9) hx hb dX7_ends_48 (by decide) ?_
  exact hK9 hR hS (lv_sub hl [1, 2, 3, 0] rfl) h
def fX7_ends_L9  : Nat → Fw → Nat → Int32 → Int32 → Int32 → Option (Fw)
  | 0, _, _, _, _, _ => none
  | n + 1, w, a0, x1, x2, x3 => if 6 ≤ x3 then ((isO w a0 7).bind fun _ => ((fX7_finds w a0).bind fun w1 => some w1)) else ((isO w a0 7).bind fun _ => ((fX7_defs w a0 x1).bind fun v2 => (if v2 = x2 then (fX7_ends_b45 (fX7_ends_L9  n) w a0 x1 x2 x3) else ((isO w a0 7).bind fun _ => ((fX7_imports w a0 x3 x1).bind fun v3 => (if v3 = 0 then (fX7_ends_b45 (fX7_ends_L9  n) w a0 x1 x2 x3) else ((gI w a0 7 7).bind fun v4 => ((pF w a0 7 7 (.int (v4 ||| ((1 : Int32) <<< (x3 &&& 31))))).bind fun w5 => (fX7_ends_b45 (fX7_ends_L9  n) w5 a0 x1 x2 x3)))))))))
set_option maxRecDepth 100000 in
set_option maxHeartbeats 4000000 in
theorem qX7_ends_L9 {p : Program} {l : Launch} {e : Env} {s : State} {m : MethodId} {args : Array Value} {below : List Frame} {meth : Method} {c : Code} {D : va_G} {dA : Nat → ClassId} {A : Nat → Prop} (C : Cx p s m args meth c D dA RX7 cX7_ends 4 none) {res : Fw}   : ∀ (n : Nat) {w : Fw} {H : Heap} {locs : List Loc} {ls : Array Slot} {a0 : Nat} {x1 : Int32} {x2 : Int32} {x3 : Int32}, Rp D dA A w H → va_S A s.heap H locs → lv_has ls 4 [(0, .ref a0), (1, .int x1), (2, .int x2), (3, .int x3)] → fX7_ends_L9 n w a0 x1 x2 x3 = some res → W p l e (rz 5 117) s m args below meth c H locs 0 0 (MQ below (QzV D dA A res) args s 0 0 A) (F0 m 9 ls []) := by
  obtain ⟨hx, hb, hr, hml, hown, hts, hK, hlocks⟩ := id C
  intro n
  induction n with
  | zero =>
    intro w H locs ls a0 x1 x2 x3 hR hS hl h
    rw [fX7_ends_L9.eq_1] at h
    cases h
  | succ n ih =>
    intro w H locs ls a0 x1 x2 x3 hR hS hl h
    rw [fX7_ends_L9.eq_2] at h
    refine lv_iload_n hx hb dX7_ends_9 rfl (lv_at hl 3 rfl) ?_
    refine lv_bipush (v := 6) hx hb dX7_ends_10 (by decide) ?_
    refine lv_icmp_ge (tgt := 51) hx hb dX7_ends_12 (by decide) (fun c => ?_) (fun c => ?_)
    · have h := it c h
      refine lv_aload_n hx hb dX7_ends_51 rfl (lv_at hl 0 rfl) ?_
      obtain ⟨_, eO, h⟩ := bd h
      obtain ⟨w1, e, h⟩ := bd h
      refine fx_vV (As := []) (rest := []) hx hb hml hts hown hK hR hS eO (mX7_finds l D dA A e) my_X7_finds mv_X7_finds rfl ml_X7_143 rfl hl.1 rfl (Nat.le_of_ble_eq_true rfl) dX7_ends_52 ⟨Nat.le_of_ble_eq_true rfl, Nat.le_of_ble_eq_true rfl⟩ ⟨Nat.le_refl _, Nat.le_refl _⟩ (fun H locs hR hS => ?_)
      exact fx_vret hx hb hr hlocks (Option.some.inj h) hR hS dX7_ends_55
    · have h := ie c h
      refine lv_aload_n hx hb dX7_ends_15 rfl (lv_at hl 0 rfl) ?_
      refine lv_iload_n hx hb dX7_ends_16 rfl (lv_at hl 1 rfl) ?_
      obtain ⟨_, eO, h⟩ := bd h
      obtain ⟨v2, e, h⟩ := bd h
      refine fx_vI (As := [.int x1]) (rest := []) hx hb hml hts hown hK hR hS eO (mX7_defs l D dA A e) my_X7_defs mv_X7_defs rfl ml_X7_91 rfl hl.1 rfl (Nat.le_of_ble_eq_true rfl) dX7_ends_17 ⟨Nat.le_of_ble_eq_true rfl, Nat.le_of_ble_eq_true rfl⟩ ⟨Nat.le_refl _, Nat.le_refl _⟩ (fun H locs hR hS => ?_)
      refine lv_iload_n hx hb dX7_ends_20 rfl (lv_at hl 2 rfl) ?_
      refine lv_icmp_eq (tgt := 45) hx hb dX7_ends_21 (by decide) (fun c => ?_) (fun c => ?_)
      · have h := it c h
        exact qX7_ends_b45 C (K9 := fX7_ends_L9  n) (hK9 := @ih) hR hS (lv_sub hl [0, 1, 2, 3] rfl) h
      · have h := ie c h
        refine lv_aload_n hx hb dX7_ends_24 rfl (lv_at hl 0 rfl) ?_
        refine lv_iload_n hx hb dX7_ends_25 rfl (lv_at hl 3 rfl) ?_
        refine lv_iload_n hx hb dX7_ends_26 rfl (lv_at hl 1 rfl) ?_
        obtain ⟨_, eO, h⟩ := bd h
        obtain ⟨v3, e, h⟩ := bd h
        refine fx_vI (As := [.int x3, .int x1]) (rest := []) hx hb hml hts hown hK hR hS eO (mX7_imports l D dA A e) my_X7_imports mv_X7_imports rfl ml_X7_95 rfl hl.1 rfl (Nat.le_of_ble_eq_true rfl) dX7_ends_27 ⟨Nat.le_of_ble_eq_true rfl, Nat.le_of_ble_eq_true rfl⟩ ⟨Nat.le_refl _, Nat.le_refl _⟩ (fun H locs hR hS => ?_)
        refine lv_if_eq (tgt := 45) hx hb dX7_ends_30 (by decide) (fun c => ?_) (fun c => ?_)
        · have h := it c h
          exact qX7_ends_b45 C (K9 := fX7_ends_L9  n) (hK9 := @ih) hR hS (lv_sub hl [0, 1, 2, 3] rfl) h
        · have h := ie c h
          refine lv_aload_n hx hb dX7_ends_33 rfl (lv_at hl 0 rfl) ?_
          refine lv_dup hx hb dX7_ends_34 rfl ?_
          obtain ⟨v4, e, h⟩ := bd h
          refine fx_gI hx hb hts hown hK hR fl_X7_140 e dX7_ends_35 ?_
          refine lv_iconst (v := 1) hx hb dX7_ends_38 (by decide) ?_
          refine lv_iload_n hx hb dX7_ends_39 rfl (lv_at hl 3 rfl) ?_
          refine lv_ishl hx hb dX7_ends_40 ?_
          refine lv_ior hx hb dX7_ends_41 ?_
          obtain ⟨w5, e, h⟩ := bd h
          refine fx_p hx hb hts hown hK hR hS fp_X7_140 e rfl rfl dX7_ends_42 (fun H locs hR hS => ?_)
          exact qX7_ends_b45 C (K9 := fX7_ends_L9  n) (hK9 := @ih) hR hS (lv_sub hl [0, 1, 2, 3] rfl) h
def fX7_ends (w : Fw) (a0 : Nat) (x1 : Int32) (x2 : Int32) : Option (Fw) := ((pF w a0 7 7 (.int ((1 : Int32) <<< (x1 &&& 31)))).bind fun w6 => (fX7_ends_L9 1000 w6 a0 x1 x2 0))
set_option maxRecDepth 100000 in
set_option maxHeartbeats 4000000 in
theorem mX7_ends (l : Launch) (D : va_G) (dA : Nat → ClassId) (A : Nat → Prop) {w : Fw} {a0 : Nat} {x1 : Int32} {x2 : Int32} {res : Fw} (h : fX7_ends w a0 x1 x2 = some res) : Met l yX7_ends (wz yX7_ends cX7_ends 4 none) (rz 5 117) (Pz D dA A w [.ref a0, .int x1, .int x2]) (QzV D dA A res) 0 0 A := by
  refine Met.ofW (cc := cX7_ends) (maxL := 4) (ret := none) (by decide) rfl ?_
  intro p e s m args below meth c s₁ B hml hv
  obtain ⟨rfl, hR, hK⟩ := hv
  have hx := B.exec
  have hb := B.bytes
  have hr := B.returns
  have hts : ∀ w ∈ lw_g, w.before [.ref a0, .int x1, .int x2].toArray s = true := fun w hw => atoms_spec (ws := wz yX7_ends cX7_ends 4 none) B.pre w (List.mem_cons_of_mem _ hw)
  have hown : s.vm.findClass RX7 = some m.cls := findClass_of_methodNamed B.named
  have hlocks := B.notSynchronized
  have C : Cx p s m [.ref a0, .int x1, .int x2].toArray meth c D dA RX7 cX7_ends 4 none := ⟨hx, hb, hr, hml, hown, hts, hK, hlocks⟩
  have hS : va_S A s.heap s.heap [] := va_S.rf
  have hl := lv_entry ([.ref a0, .int x1, .int x2]) (n := 4) (Nat.le_of_ble_eq_true rfl)
  rw [lg_entry_eq]
  generalize (lg_sl ([.ref a0, .int x1, .int x2]) ++ List.replicate (4 - (lg_sl ([.ref a0, .int x1, .int x2])).length) Slot.unset).toArray = ls at hl ⊢
  have hl : lv_has ls 4 [(0, .ref a0), (1, .int x1), (2, .int x2)] := hl
  unfold fX7_ends at h
  show W p l e (rz 5 117) s m _ below meth c s.heap [] 0 0 _ _
  refine lv_aload_n hx hb dX7_ends_0 rfl (lv_at hl 0 rfl) ?_
  refine lv_iconst (v := 1) hx hb dX7_ends_1 (by decide) ?_
  refine lv_iload_n hx hb dX7_ends_2 rfl (lv_at hl 1 rfl) ?_
  refine lv_ishl hx hb dX7_ends_3 ?_
  obtain ⟨w6, e, h⟩ := bd h
  refine fx_p hx hb hts hown hK hR hS fp_X7_140 e rfl rfl dX7_ends_4 (fun H locs hR hS => ?_)
  refine lv_iconst (v := 0) hx hb dX7_ends_7 (by decide) ?_
  refine lv_istore_n (lv' := [(3, .int 0), (0, .ref a0), (1, .int x1), (2, .int x2)]) hx hb dX7_ends_8 rfl hl (by decide) rfl (fun ls hl => ?_)
  exact qX7_ends_L9 C   1000 hR hS (lv_sub hl [1, 2, 3, 0] rfl) h
def fX7_isByte (w : Fw) (x0 : Int32) : Option (Int32) := ((fX7_isIn w x0 0 255).bind fun v1 => zb v1)
set_option maxRecDepth 100000 in
set_option maxHeartbeats 4000000 in
theorem mX7_isByte (l : Launch) (D : va_G) (dA : Nat → ClassId) (A : Nat → Prop) {w : Fw} {x0 : Int32} {res : Int32} (h : fX7_isByte w x0 = some res) : Met l yX7_isByte (wz yX7_isByte cX7_isByte 1 (some .boolean)) (rz 1 22) (Pz D dA A w [.int x0]) (QzI D dA A res w) 0 0 A := by
  refine Met.ofW (cc := cX7_isByte) (maxL := 1) (ret := (some .boolean)) (by decide) rfl ?_
  intro p e s m args below meth c s₁ B hml hv
  obtain ⟨rfl, hR, hK⟩ := hv
  have hx := B.exec
  have hb := B.bytes
  have hr := B.returns
  have hts : ∀ w ∈ lw_g, w.before [.int x0].toArray s = true := fun w hw => atoms_spec (ws := wz yX7_isByte cX7_isByte 1 (some .boolean)) B.pre w (List.mem_cons_of_mem _ hw)
  have hown : s.vm.findClass RX7 = some m.cls := findClass_of_methodNamed B.named
  have hlocks := B.notSynchronized
  have C : Cx p s m [.int x0].toArray meth c D dA RX7 cX7_isByte 1 (some .boolean) := ⟨hx, hb, hr, hml, hown, hts, hK, hlocks⟩
  have hS : va_S A s.heap s.heap [] := va_S.rf
  have hl := lv_entry ([.int x0]) (n := 1) (Nat.le_of_ble_eq_true rfl)
  rw [lg_entry_eq]
  generalize (lg_sl ([.int x0]) ++ List.replicate (1 - (lg_sl ([.int x0])).length) Slot.unset).toArray = ls at hl ⊢
  have hl : lv_has ls 1 [(0, .int x0)] := hl
  unfold fX7_isByte at h
  show W p l e (rz 1 22) s m _ below meth c s.heap [] 0 0 _ _
  refine lv_iload_n hx hb dX7_isByte_0 rfl (lv_at hl 0 rfl) ?_
  refine lv_iconst (v := 0) hx hb dX7_isByte_1 (by decide) ?_
  refine lv_sipush (v := 255) hx hb dX7_isByte_2 (by decide) ?_
  obtain ⟨v1, e, h⟩ := bd h
  refine fx_sI' (As := [.int x0, .int 0, .int 255]) (rest := []) hx hb hml hts hown hK hR hS (mX7_isIn l D dA A e) my_X7_isIn ms_X7_isIn ml_X7_76 rfl hl.1 rfl (Nat.le_of_ble_eq_true rfl) dX7_isByte_5 ⟨Nat.le_of_ble_eq_true rfl, Nat.le_of_ble_eq_true rfl⟩ ⟨Nat.le_refl _, Nat.le_refl _⟩ (fun H locs hR hS => ?_)
  exact fx_zret hx hb hr hlocks h rfl hR hS dX7_isByte_8
def fX7_put_L60  : Nat → Fw → Nat → Int32 → Int32 → Int32 → Int32 → Int32 → Option (Int32 × Fw)
  | 0, _, _, _, _, _, _, _ => none
  | n + 1, w, a0, x1, x2, x3, x4, x5 => if x5 ≤ x2 then ((gR w a0 7 1).bind fun r1 => ((sI w r1 ((32 * x1) + x2) x3).bind fun w2 => ((gR w2 a0 7 2).bind fun r3 => ((gI w2 a0 7 5).bind fun v4 => ((sI w2 r3 ((32 * x1) + x2) v4).bind fun w5 => ((gI w5 a0 7 5).bind fun v6 => ((pF w5 a0 7 5 (.int (v6 + 1))).bind fun w7 => ((gR w7 a0 7 0).bind fun r8 => ((lI w7 r8 x1).bind fun v9 => ((sI w7 r8 x1 (v9 + 1)).bind fun w10 => ((isO w10 a0 7).bind fun _ => ((fX7_ends w10 a0 x1 x4).bind fun w11 => ((gI w11 a0 7 5).bind fun v12 => some ((v12 - 1), w11)))))))))))))) else ((gR w a0 7 1).bind fun r13 => ((gR w a0 7 1).bind fun r14 => ((lI w r14 (((32 * x1) + x5) - 1)).bind fun v15 => ((sI w r13 ((32 * x1) + x5) v15).bind fun w16 => ((gR w16 a0 7 2).bind fun r17 => ((gR w16 a0 7 2).bind fun r18 => ((lI w16 r18 (((32 * x1) + x5) - 1)).bind fun v19 => ((sI w16 r17 ((32 * x1) + x5) v19).bind fun w20 => (fX7_put_L60  n w20 a0 x1 x2 x3 x4 (x5 + (-1)))))))))))
set_option maxRecDepth 100000 in
set_option maxHeartbeats 4000000 in
theorem qX7_put_L60 {p : Program} {l : Launch} {e : Env} {s : State} {m : MethodId} {args : Array Value} {below : List Frame} {meth : Method} {c : Code} {D : va_G} {dA : Nat → ClassId} {A : Nat → Prop} (C : Cx p s m args meth c D dA RX7 cX7_put 6 (some .int)) {res : Int32 × Fw}   : ∀ (n : Nat) {w : Fw} {H : Heap} {locs : List Loc} {ls : Array Slot} {a0 : Nat} {x1 : Int32} {x2 : Int32} {x3 : Int32} {x4 : Int32} {x5 : Int32}, Rp D dA A w H → va_S A s.heap H locs → lv_has ls 6 [(0, .ref a0), (1, .int x1), (2, .int x2), (3, .int x3), (4, .int x4), (5, .int x5)] → fX7_put_L60 n w a0 x1 x2 x3 x4 x5 = some res → W p l e (rz 6 140) s m args below meth c H locs 0 0 (MQ below (QzI D dA A res.1 res.2) args s 0 0 A) (F0 m 60 ls []) := by
  obtain ⟨hx, hb, hr, hml, hown, hts, hK, hlocks⟩ := id C
  intro n
  induction n with
  | zero =>
    intro w H locs ls a0 x1 x2 x3 x4 x5 hR hS hl h
    rw [fX7_put_L60.eq_1] at h
    cases h
  | succ n ih =>
    intro w H locs ls a0 x1 x2 x3 x4 x5 hR hS hl h
    rw [fX7_put_L60.eq_2] at h
    refine lv_iload hx hb dX7_put_60 (lv_at hl 5 rfl) ?_
    refine lv_iload_n hx hb dX7_put_62 rfl (lv_at hl 2 rfl) ?_
    refine lv_icmp_le (tgt := 124) hx hb dX7_put_63 (by decide) (fun c => ?_) (fun c => ?_)
    · have h := it c h
      refine lv_aload_n hx hb dX7_put_124 rfl (lv_at hl 0 rfl) ?_
      obtain ⟨r1, e, h⟩ := bd h
      refine fx_gR hx hb hts hown hK hR fl_X7_13 e dX7_put_125 ?_
      refine lv_bipush (v := 32) hx hb dX7_put_128 (by decide) ?_
      refine lv_iload_n hx hb dX7_put_130 rfl (lv_at hl 1 rfl) ?_
      refine lv_imul hx hb dX7_put_131 ?_
      refine lv_iload_n hx hb dX7_put_132 rfl (lv_at hl 2 rfl) ?_
      refine lv_iadd hx hb dX7_put_133 ?_
      refine lv_iload_n hx hb dX7_put_134 rfl (lv_at hl 3 rfl) ?_
      obtain ⟨w2, e, h⟩ := bd h
      refine fx_sI hx hb hK hR hS e dX7_put_135 (fun H locs hR hS => ?_)
      refine lv_aload_n hx hb dX7_put_136 rfl (lv_at hl 0 rfl) ?_
      obtain ⟨r3, e, h⟩ := bd h
      refine fx_gR hx hb hts hown hK hR fl_X7_16 e dX7_put_137 ?_
      refine lv_bipush (v := 32) hx hb dX7_put_140 (by decide) ?_
      refine lv_iload_n hx hb dX7_put_142 rfl (lv_at hl 1 rfl) ?_
      refine lv_imul hx hb dX7_put_143 ?_
      refine lv_iload_n hx hb dX7_put_144 rfl (lv_at hl 2 rfl) ?_
      refine lv_iadd hx hb dX7_put_145 ?_
      refine lv_aload_n hx hb dX7_put_146 rfl (lv_at hl 0 rfl) ?_
      obtain ⟨v4, e, h⟩ := bd h
      refine fx_gI hx hb hts hown hK hR fl_X7_152 e dX7_put_147 ?_
      obtain ⟨w5, e, h⟩ := bd h
      refine fx_sI hx hb hK hR hS e dX7_put_150 (fun H locs hR hS => ?_)
      refine lv_aload_n hx hb dX7_put_151 rfl (lv_at hl 0 rfl) ?_
      refine lv_dup hx hb dX7_put_152 rfl ?_
      obtain ⟨v6, e, h⟩ := bd h
      refine fx_gI hx hb hts hown hK hR fl_X7_152 e dX7_put_153 ?_
      refine lv_iconst (v := 1) hx hb dX7_put_156 (by decide) ?_
      refine lv_iadd hx hb dX7_put_157 ?_
      obtain ⟨w7, e, h⟩ := bd h
      refine fx_p hx hb hts hown hK hR hS fp_X7_152 e rfl rfl dX7_put_158 (fun H locs hR hS => ?_)
      refine lv_aload_n hx hb dX7_put_161 rfl (lv_at hl 0 rfl) ?_
      obtain ⟨r8, e, h⟩ := bd h
      refine fx_gR hx hb hts hown hK hR fl_X7_7 e dX7_put_162 ?_
      refine lv_iload_n hx hb dX7_put_165 rfl (lv_at hl 1 rfl) ?_
      refine lv_dup2_11 hx hb dX7_put_166 rfl rfl ?_
      obtain ⟨v9, e, h⟩ := bd h
      refine fx_lI hx hb hK hR e dX7_put_167 ?_
      refine lv_iconst (v := 1) hx hb dX7_put_168 (by decide) ?_
      refine lv_iadd hx hb dX7_put_169 ?_
      obtain ⟨w10, e, h⟩ := bd h
      refine fx_sI hx hb hK hR hS e dX7_put_170 (fun H locs hR hS => ?_)
      refine lv_aload_n hx hb dX7_put_171 rfl (lv_at hl 0 rfl) ?_
      refine lv_iload_n hx hb dX7_put_172 rfl (lv_at hl 1 rfl) ?_
      refine lv_iload hx hb dX7_put_173 (lv_at hl 4 rfl) ?_
      obtain ⟨_, eO, h⟩ := bd h
      obtain ⟨w11, e, h⟩ := bd h
      refine fx_vV (As := [.int x1, .int x4]) (rest := []) hx hb hml hts hown hK hR hS eO (mX7_ends l D dA A e) my_X7_ends mv_X7_ends rfl ml_X7_155 rfl hl.1 rfl (Nat.le_of_ble_eq_true rfl) dX7_put_175 ⟨Nat.le_of_ble_eq_true rfl, Nat.le_of_ble_eq_true rfl⟩ ⟨Nat.le_refl _, Nat.le_refl _⟩ (fun H locs hR hS => ?_)
      refine lv_aload_n hx hb dX7_put_178 rfl (lv_at hl 0 rfl) ?_
      obtain ⟨v12, e, h⟩ := bd h
      refine fx_gI hx hb hts hown hK hR fl_X7_152 e dX7_put_179 ?_
      refine lv_iconst (v := 1) hx hb dX7_put_182 (by decide) ?_
      refine lv_isub hx hb dX7_put_183 ?_
      exact fx_iret hx hb hr hlocks (pr1 h) (pr2 h) hR hS dX7_put_184
    · have h := ie c h
      refine lv_aload_n hx hb dX7_put_66 rfl (lv_at hl 0 rfl) ?_
      obtain ⟨r13, e, h⟩ := bd h
      refine fx_gR hx hb hts hown hK hR fl_X7_13 e dX7_put_67 ?_
      refine lv_bipush (v := 32) hx hb dX7_put_70 (by decide) ?_
      refine lv_iload_n hx hb dX7_put_72 rfl (lv_at hl 1 rfl) ?_
      refine lv_imul hx hb dX7_put_73 ?_
      refine lv_iload hx hb dX7_put_74 (lv_at hl 5 rfl) ?_
      refine lv_iadd hx hb dX7_put_76 ?_
      refine lv_aload_n hx hb dX7_put_77 rfl (lv_at hl 0 rfl) ?_
      obtain ⟨r14, e, h⟩ := bd h
      refine fx_gR hx hb hts hown hK hR fl_X7_13 e dX7_put_78 ?_
      refine lv_bipush (v := 32) hx hb dX7_put_81 (by decide) ?_
      refine lv_iload_n hx hb dX7_put_83 rfl (lv_at hl 1 rfl) ?_
      refine lv_imul hx hb dX7_put_84 ?_
      refine lv_iload hx hb dX7_put_85 (lv_at hl 5 rfl) ?_
      refine lv_iadd hx hb dX7_put_87 ?_
      refine lv_iconst (v := 1) hx hb dX7_put_88 (by decide) ?_
      refine lv_isub hx hb dX7_put_89 ?_
      obtain ⟨v15, e, h⟩ := bd h
      refine fx_lI hx hb hK hR e dX7_put_90 ?_
      obtain ⟨w16, e, h⟩ := bd h
      refine fx_sI hx hb hK hR hS e dX7_put_91 (fun H locs hR hS => ?_)
      refine lv_aload_n hx hb dX7_put_92 rfl (lv_at hl 0 rfl) ?_
      obtain ⟨r17, e, h⟩ := bd h
      refine fx_gR hx hb hts hown hK hR fl_X7_16 e dX7_put_93 ?_
      refine lv_bipush (v := 32) hx hb dX7_put_96 (by decide) ?_
      refine lv_iload_n hx hb dX7_put_98 rfl (lv_at hl 1 rfl) ?_
      refine lv_imul hx hb dX7_put_99 ?_
      refine lv_iload hx hb dX7_put_100 (lv_at hl 5 rfl) ?_
      refine lv_iadd hx hb dX7_put_102 ?_
      refine lv_aload_n hx hb dX7_put_103 rfl (lv_at hl 0 rfl) ?_
      obtain ⟨r18, e, h⟩ := bd h
      refine fx_gR hx hb hts hown hK hR fl_X7_16 e dX7_put_104 ?_
      refine lv_bipush (v := 32) hx hb dX7_put_107 (by decide) ?_
      refine lv_iload_n hx hb dX7_put_109 rfl (lv_at hl 1 rfl) ?_
      refine lv_imul hx hb dX7_put_110 ?_
      refine lv_iload hx hb dX7_put_111 (lv_at hl 5 rfl) ?_
      refine lv_iadd hx hb dX7_put_113 ?_
      refine lv_iconst (v := 1) hx hb dX7_put_114 (by decide) ?_
      refine lv_isub hx hb dX7_put_115 ?_
      obtain ⟨v19, e, h⟩ := bd h
      refine fx_lI hx hb hK hR e dX7_put_116 ?_
      obtain ⟨w20, e, h⟩ := bd h
      refine fx_sI hx hb hK hR hS e dX7_put_117 (fun H locs hR hS => ?_)
      refine lv_iinc (v := (x5 + (-1))) (lv' := [(5, .int (x5 + (-1))), (0, .ref a0), (1, .int x1), (2, .int x2), (3, .int x3), (4, .int x4)]) hx hb dX7_put_118 hl (k := 5) rfl rfl (by decide) rfl (fun ls hl => ?_)
      refine lv_goto (tgt := 60) hx hb dX7_put_121 (by decide) ?_
      exact ih hR hS (lv_sub hl [1, 2, 3, 4, 5, 0] rfl) h
def fX7_put_b39  (w : Fw)  : Option (Int32 × Fw) := some ((-1), w)
set_option maxRecDepth 100000 in
set_option maxHeartbeats 4000000 in
theorem qX7_put_b39 {p : Program} {l : Launch} {e : Env} {s : State} {m : MethodId} {args : Array Value} {below : List Frame} {meth : Method} {c : Code} {D : va_G} {dA : Nat → ClassId} {A : Nat → Prop} (C : Cx p s m args meth c D dA RX7 cX7_put 6 (some .int)) {w : Fw} {res : Int32 × Fw}   {H : Heap} {locs : List Loc} {ls : Array Slot}  (hR : Rp D dA A w H) (hS : va_S A s.heap H locs) (hl : lv_has ls 6 []) (h : fX7_put_b39 w = some res) : W p l e (rz 6 140) s m args below meth c H locs 0 0 (MQ below (QzI D dA A res.1 res.2) args s 0 0 A) (F0 m 39 ls []) := by
  obtain ⟨hx, hb, hr, hml, hown, hts, hK, hlocks⟩ := id C
  unfold fX7_put_b39 at h
  refine lv_iconst (v := (-1)) hx hb dX7_put_39 (by decide) ?_
  exact fx_iret hx hb hr hlocks (pr1 h) (pr2 h) hR hS dX7_put_40
def fX7_put (w : Fw) (a0 : Nat) (x1 : Int32) (x2 : Int32) (x3 : Int32) : Option (Int32 × Fw) := ((fX7_isFile w x1).bind fun v21 => (if v21 = 0 then (fX7_put_b39 w) else ((gR w a0 7 0).bind fun r22 => ((lI w r22 x1).bind fun v23 => ((fX7_isIn w x2 0 v23).bind fun v24 => (if v24 = 0 then (fX7_put_b39 w) else ((fX7_isByte w x3).bind fun v25 => (if v25 = 0 then (fX7_put_b39 w) else ((gR w a0 7 0).bind fun r26 => ((lI w r26 x1).bind fun v27 => (if v27 = 32 then (fX7_put_b39 w) else ((isO w a0 7).bind fun _ => ((fX7_begins w a0).bind fun w28 => ((isO w28 a0 7).bind fun _ => ((fX7_defs w28 a0 x1).bind fun v29 => ((gR w28 a0 7 0).bind fun r30 => ((lI w28 r30 x1).bind fun v31 => (fX7_put_L60 1000 w28 a0 x1 x2 x3 v29 v31))))))))))))))))))
set_option maxRecDepth 100000 in
set_option maxHeartbeats 4000000 in
theorem mX7_put (l : Launch) (D : va_G) (dA : Nat → ClassId) (A : Nat → Prop) {w : Fw} {a0 : Nat} {x1 : Int32} {x2 : Int32} {x3 : Int32} {res : Int32 × Fw} (h : fX7_put w a0 x1 x2 x3 = some res) : Met l yX7_put (wz yX7_put cX7_put 6 (some .int)) (rz 6 140) (Pz D dA A w [.ref a0, .int x1, .int x2, .int x3]) (QzI D dA A res.1 res.2) 0 0 A := by
  refine Met.ofW (cc := cX7_put) (maxL := 6) (ret := (some .int)) (by decide) rfl ?_
  intro p e s m args below meth c s₁ B hml hv
  obtain ⟨rfl, hR, hK⟩ := hv
  have hx := B.exec
  have hb := B.bytes
  have hr := B.returns
  have hts : ∀ w ∈ lw_g, w.before [.ref a0, .int x1, .int x2, .int x3].toArray s = true := fun w hw => atoms_spec (ws := wz yX7_put cX7_put 6 (some .int)) B.pre w (List.mem_cons_of_mem _ hw)
  have hown : s.vm.findClass RX7 = some m.cls := findClass_of_methodNamed B.named
  have hlocks := B.notSynchronized
  have C : Cx p s m [.ref a0, .int x1, .int x2, .int x3].toArray meth c D dA RX7 cX7_put 6 (some .int) := ⟨hx, hb, hr, hml, hown, hts, hK, hlocks⟩
  have hS : va_S A s.heap s.heap [] := va_S.rf
  have hl := lv_entry ([.ref a0, .int x1, .int x2, .int x3]) (n := 6) (Nat.le_of_ble_eq_true rfl)
  rw [lg_entry_eq]
  generalize (lg_sl ([.ref a0, .int x1, .int x2, .int x3]) ++ List.replicate (6 - (lg_sl ([.ref a0, .int x1, .int x2, .int x3])).length) Slot.unset).toArray = ls at hl ⊢
  have hl : lv_has ls 6 [(0, .ref a0), (1, .int x1), (2, .int x2), (3, .int x3)] := hl
  unfold fX7_put at h
  show W p l e (rz 6 140) s m _ below meth c s.heap [] 0 0 _ _
  refine lv_iload_n hx hb dX7_put_0 rfl (lv_at hl 1 rfl) ?_
  obtain ⟨v21, e, h⟩ := bd h
  refine fx_sI' (As := [.int x1]) (rest := []) hx hb hml hts hown hK hR hS (mX7_isFile l D dA A e) my_X7_isFile ms_X7_isFile ml_X7_80 rfl hl.1 rfl (Nat.le_of_ble_eq_true rfl) dX7_put_1 ⟨Nat.le_of_ble_eq_true rfl, Nat.le_of_ble_eq_true rfl⟩ ⟨Nat.le_refl _, Nat.le_refl _⟩ (fun H locs hR hS => ?_)
  refine lv_if_eq (tgt := 39) hx hb dX7_put_4 (by decide) (fun c => ?_) (fun c => ?_)
  · have h := it c h
    exact qX7_put_b39 C   hR hS (lv_sub hl [] rfl) h
  · have h := ie c h
    refine lv_iload_n hx hb dX7_put_7 rfl (lv_at hl 2 rfl) ?_
    refine lv_iconst (v := 0) hx hb dX7_put_8 (by decide) ?_
    refine lv_aload_n hx hb dX7_put_9 rfl (lv_at hl 0 rfl) ?_
    obtain ⟨r22, e, h⟩ := bd h
    refine fx_gR hx hb hts hown hK hR fl_X7_7 e dX7_put_10 ?_
    refine lv_iload_n hx hb dX7_put_13 rfl (lv_at hl 1 rfl) ?_
    obtain ⟨v23, e, h⟩ := bd h
    refine fx_lI hx hb hK hR e dX7_put_14 ?_
    obtain ⟨v24, e, h⟩ := bd h
    refine fx_sI' (As := [.int x2, .int 0, .int v23]) (rest := []) hx hb hml hts hown hK hR hS (mX7_isIn l D dA A e) my_X7_isIn ms_X7_isIn ml_X7_76 rfl hl.1 rfl (Nat.le_of_ble_eq_true rfl) dX7_put_15 ⟨Nat.le_of_ble_eq_true rfl, Nat.le_of_ble_eq_true rfl⟩ ⟨Nat.le_refl _, Nat.le_refl _⟩ (fun H locs hR hS => ?_)
    refine lv_if_eq (tgt := 39) hx hb dX7_put_18 (by decide) (fun c => ?_) (fun c => ?_)
    · have h := it c h
      exact qX7_put_b39 C   hR hS (lv_sub hl [] rfl) h
    · have h := ie c h
      refine lv_iload_n hx hb dX7_put_21 rfl (lv_at hl 3 rfl) ?_
      obtain ⟨v25, e, h⟩ := bd h
      refine fx_sI' (As := [.int x3]) (rest := []) hx hb hml hts hown hK hR hS (mX7_isByte l D dA A e) my_X7_isByte ms_X7_isByte ml_X7_146 rfl hl.1 rfl (Nat.le_of_ble_eq_true rfl) dX7_put_22 ⟨Nat.le_of_ble_eq_true rfl, Nat.le_of_ble_eq_true rfl⟩ ⟨Nat.le_refl _, Nat.le_refl _⟩ (fun H locs hR hS => ?_)
      refine lv_if_eq (tgt := 39) hx hb dX7_put_25 (by decide) (fun c => ?_) (fun c => ?_)
      · have h := it c h
        exact qX7_put_b39 C   hR hS (lv_sub hl [] rfl) h
      · have h := ie c h
        refine lv_aload_n hx hb dX7_put_28 rfl (lv_at hl 0 rfl) ?_
        obtain ⟨r26, e, h⟩ := bd h
        refine fx_gR hx hb hts hown hK hR fl_X7_7 e dX7_put_29 ?_
        refine lv_iload_n hx hb dX7_put_32 rfl (lv_at hl 1 rfl) ?_
        obtain ⟨v27, e, h⟩ := bd h
        refine fx_lI hx hb hK hR e dX7_put_33 ?_
        refine lv_bipush (v := 32) hx hb dX7_put_34 (by decide) ?_
        refine lv_icmp_ne (tgt := 41) hx hb dX7_put_36 (by decide) (fun c => ?_) (fun c => ?_)
        · have h := ie c h
          refine lv_aload_n hx hb dX7_put_41 rfl (lv_at hl 0 rfl) ?_
          obtain ⟨_, eO, h⟩ := bd h
          obtain ⟨w28, e, h⟩ := bd h
          refine fx_vV (As := []) (rest := []) hx hb hml hts hown hK hR hS eO (mX7_begins l D dA A e) my_X7_begins mv_X7_begins rfl ml_X7_149 rfl hl.1 rfl (Nat.le_of_ble_eq_true rfl) dX7_put_42 ⟨Nat.le_of_ble_eq_true rfl, Nat.le_of_ble_eq_true rfl⟩ ⟨Nat.le_refl _, Nat.le_refl _⟩ (fun H locs hR hS => ?_)
          refine lv_aload_n hx hb dX7_put_45 rfl (lv_at hl 0 rfl) ?_
          refine lv_iload_n hx hb dX7_put_46 rfl (lv_at hl 1 rfl) ?_
          obtain ⟨_, eO, h⟩ := bd h
          obtain ⟨v29, e, h⟩ := bd h
          refine fx_vI (As := [.int x1]) (rest := []) hx hb hml hts hown hK hR hS eO (mX7_defs l D dA A e) my_X7_defs mv_X7_defs rfl ml_X7_91 rfl hl.1 rfl (Nat.le_of_ble_eq_true rfl) dX7_put_47 ⟨Nat.le_of_ble_eq_true rfl, Nat.le_of_ble_eq_true rfl⟩ ⟨Nat.le_refl _, Nat.le_refl _⟩ (fun H locs hR hS => ?_)
          refine lv_istore (lv' := [(4, .int v29), (0, .ref a0), (1, .int x1), (2, .int x2), (3, .int x3)]) hx hb dX7_put_50 hl (by decide) rfl (fun ls hl => ?_)
          refine lv_aload_n hx hb dX7_put_52 rfl (lv_at hl 1 rfl) ?_
          obtain ⟨r30, e, h⟩ := bd h
          refine fx_gR hx hb hts hown hK hR fl_X7_7 e dX7_put_53 ?_
          refine lv_iload_n hx hb dX7_put_56 rfl (lv_at hl 2 rfl) ?_
          obtain ⟨v31, e, h⟩ := bd h
          refine fx_lI hx hb hK hR e dX7_put_57 ?_
          refine lv_istore (lv' := [(5, .int v31), (4, .int v29), (0, .ref a0), (1, .int x1), (2, .int x2), (3, .int x3)]) hx hb dX7_put_58 hl (by decide) rfl (fun ls hl => ?_)
          exact qX7_put_L60 C   1000 hR hS (lv_sub hl [2, 3, 4, 5, 1, 0] rfl) h
        · have h := it c h
          exact qX7_put_b39 C   hR hS (lv_sub hl [] rfl) h
