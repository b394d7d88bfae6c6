theorem my_X6_init : MY yX6_init cX6_init 2 none 0 := ⟨(fz_mem 44 (by decide +kernel) (by decide +kernel)), (fz_mem 31 (by decide +kernel) (by decide +kernel)), by decide +kernel⟩
theorem mi_X6_init : Cond.instanceMethod yX6_init ∈ lw_g := (fz_mem 43 (by decide +kernel) (by decide +kernel))
theorem my_X7_init : MY yX7_init cX7_init 1 none 0 := ⟨(fz_mem 540 (by decide +kernel) (by decide +kernel)), (fz_mem 38 (by decide +kernel) (by decide +kernel)), by decide +kernel⟩
theorem mi_X7_init : Cond.instanceMethod yX7_init ∈ lw_g := (fz_mem 539 (by decide +kernel) (by decide +kernel))
theorem ml_L_9 : Cond.methodLink RL 9 yX6_init ∈ lw_g := (fz_mem 42 (by decide +kernel) (by decide +kernel))
theorem ml_L_12 : Cond.methodLink RL 12 yX7_init ∈ lw_g := (fz_mem 538 (by decide +kernel) (by decide +kernel))
theorem ins_X0 : Cond.instantiable RX0 2 ∈ lw_g := (fz_mem 129 (by decide +kernel) (by decide +kernel))
theorem ins_X1 : Cond.instantiable RX1 6 ∈ lw_g := (fz_mem 142 (by decide +kernel) (by decide +kernel))
theorem ins_X2 : Cond.instantiable RX2 7 ∈ lw_g := (fz_mem 56 (by decide +kernel) (by decide +kernel))
theorem ins_X3 : Cond.instantiable RX3 2 ∈ lw_g := (fz_mem 114 (by decide +kernel) (by decide +kernel))
theorem ins_X4 : Cond.instantiable RX4 5 ∈ lw_g := (fz_mem 50 (by decide +kernel) (by decide +kernel))
theorem ins_X5 : Cond.instantiable RX5 2 ∈ lw_g := (fz_mem 101 (by decide +kernel) (by decide +kernel))
theorem ins_X6 : Cond.instantiable RX6 10 ∈ lw_g := (fz_mem 41 (by decide +kernel) (by decide +kernel))
theorem ins_X7 : Cond.instantiable RX7 31 ∈ lw_g := (fz_mem 537 (by decide +kernel) (by decide +kernel))
set_option maxRecDepth 100000 in
set_option maxHeartbeats 4000000 in
theorem law_known {b : Nat} {s : State} (hts0 : ∀ w ∈ lw_tbl, w.before #[Value.ref b] s = true) : ∃ (D : va_G) (dA : Nat → ClassId), KpC D dA s := by
  have hts : ∀ w ∈ lw_g, w.before #[Value.ref b] s = true := fun w hw => hts0 w (List.mem_filter.mp hw).1
  obtain ⟨c0, i0, k0⟩ := u_known (C := RX0) (T := TX0) (N := 2) (n := 2) hts inX0 (hts _ ins_X0)
  obtain ⟨c1, i1, k1⟩ := u_known (C := RX1) (T := TX1) (N := 6) (n := 6) hts inX1 (hts _ ins_X1)
  obtain ⟨c2, i2, k2⟩ := u_known (C := RX2) (T := TX2) (N := 7) (n := 7) hts inX2 (hts _ ins_X2)
  obtain ⟨c3, i3, k3⟩ := u_known (C := RX3) (T := TX3) (N := 2) (n := 2) hts inX3 (hts _ ins_X3)
  obtain ⟨c4, i4, k4⟩ := u_known (C := RX4) (T := TX4) (N := 5) (n := 5) hts inX4 (hts _ ins_X4)
  obtain ⟨c5, i5, k5⟩ := u_known (C := RX5) (T := TX5) (N := 2) (n := 2) hts inX5 (hts _ ins_X5)
  obtain ⟨c6, i6, k6⟩ := u_known (C := RX6) (T := TX6) (N := 10) (n := 10) hts inX6 (hts _ ins_X6)
  obtain ⟨c7, i7, k7⟩ := u_known (C := RX7) (T := TX7) (N := 31) (n := 31) hts inX7 (hts _ ins_X7)
  obtain ⟨cI, kI, cmI, fI, gI1, gI2⟩ := Cond.arrayClass_spec (hts (.arrayClass .int) ac_int)
  have hAO : (Cond.arrayOver (.object RX4)).before #[Value.ref b] s = true := hts0 _ (List.mem_of_getElem? (i := 49) (by decide +kernel))
  have hAA : (Cond.arrayOver (.array .int)).before #[Value.ref b] s = true := hts0 _ (List.mem_of_getElem? (i := 120) (by decide +kernel))
  obtain ⟨cm1, cS, kS, f1, -, g1, g2, g3⟩ := Cond.arrayOver_spec hAO
  obtain ⟨cm2, cQ, kQ, f2, -, q1, q2, q3⟩ := arrayOverA_spec hAA
  refine ⟨(fun k => match k with | 0 => c0 | 1 => c1 | 2 => c2 | 3 => c3 | 4 => c4 | 5 => c5 | 6 => c6 | _ => c7, fun k => match k with | 0 => i0 | 1 => i1 | 2 => i2 | 3 => i3 | 4 => i4 | 5 => i5 | 6 => i6 | _ => i7), fun k => match k with | 0 => cI | 1 => cS | _ => cQ, ⟨⟨?_, ?_⟩, ?_, ?_⟩, ?_, va_AO.of (A := #[Value.ref b]) hAO, hAA⟩
  · intro k q hq
    match k, hq with
    | 0, hq => cases hq; exact k0
    | 1, hq => cases hq; exact k1
    | 2, hq => cases hq; exact k2
    | 3, hq => cases hq; exact k3
    | 4, hq => cases hq; exact k4
    | 5, hq => cases hq; exact k5
    | 6, hq => cases hq; exact k6
    | 7, hq => cases hq; exact k7
    | k + 8, hq => simp [vwCl] at hq
  · intro k q hq
    match k, hq with
    | 0, hq => cases hq; exact ⟨fun N z => ⟨(fun k h => by cases h), kI, gI1, cmI, gI2⟩, fI⟩
    | 1, hq => cases hq; exact ⟨fun N z => ⟨(fun k h => by cases h), kS, g1, cm1, g2⟩, kS, cm1, g1, g2, f1, g3⟩
    | 2, hq => cases hq; exact ⟨fun N z => ⟨(fun k h => by cases h), kQ, q1, cm2, q2⟩, q3⟩
    | k + 3, hq => simp [fz_tys] at hq
  · exact va_Nw.of rfl (hts0 _ (List.mem_of_getElem? (i := 252) (by decide +kernel)))
  · exact va_Nw.of rfl (hts0 _ (List.mem_of_getElem? (i := 284) (by decide +kernel)))
  · have hq : ∀ x ∈ nestL, Cond.methodLinkNest x.1 x.2.1 x.2.2 RX6 ∈ lw_tbl := by
      refine List.forall_mem_cons.mpr ⟨?_, List.forall_mem_cons.mpr ⟨?_, List.forall_mem_cons.mpr ⟨?_, List.forall_mem_cons.mpr ⟨?_, List.forall_mem_cons.mpr ⟨?_, List.forall_mem_cons.mpr ⟨?_, fun _ h => absurd h List.not_mem_nil⟩⟩⟩⟩⟩⟩
      · exact List.mem_of_getElem? (i := 51) (by decide +kernel)
      · exact List.mem_of_getElem? (i := 57) (by decide +kernel)
      · exact List.mem_of_getElem? (i := 102) (by decide +kernel)
      · exact List.mem_of_getElem? (i := 115) (by decide +kernel)
      · exact List.mem_of_getElem? (i := 130) (by decide +kernel)
      · exact List.mem_of_getElem? (i := 143) (by decide +kernel)
    exact fun x hx => va_Nw.of rfl (hts0 _ (hq x hx))
set_option maxRecDepth 100000 in
set_option maxHeartbeats 4000000 in
theorem whole_open (hall : ∀ z : Nat, ∃ Inv : Nat → Fw → Prop, SysOK z (z + 150) Inv ∧ StartOK z (Inv 0)) {p : Program} {e : Env} {s : State} {m : MethodId} {below : List Frame} {meth : Method} {c : Code} (l : Launch) {b L : Nat} {xs : Nat → Int32} (hL : L ≤ 3072) (C0 : lw_At p s m meth c b L xs) : W p l e room_1 s m #[Value.ref b] below meth c s.heap [] 0 0 (lw_Z below #[Value.ref b] s) (entryFrame m ([Value.ref b] : List Value).toArray 4) := by
  obtain ⟨hx, hb, hr, hml, hown, hts0, hX, hbl, hlocks, hgv⟩ := id C0
  have hts : ∀ w ∈ lw_g, w.before #[Value.ref b] s = true := fun w hw => hts0 w (List.mem_filter.mp hw).1
  obtain ⟨D, dA, hKC⟩ := law_known hts0
  have hK := hKC.1
  obtain ⟨Inv, hsys, w1, w2, w3, w4, e1, e2, e3, e4, hI⟩ := hall s.heap.size
  have hA : ∀ q, s.heap.size ≤ q → (fun q : Nat => s.heap.size ≤ q) q := fun _ h => h
  have hS : va_S (fun q : Nat => s.heap.size ≤ q) s.heap s.heap [] := va_S.rf
  have hR : Rp D dA (fun q : Nat => s.heap.size ≤ q) (fun _ => none) s.heap := fun a e h => by cases h
  have hz : s.heap.size = s.heap.size := rfl
  have hl := lv_entry ([.ref b]) (n := 4) (Nat.le_of_ble_eq_true rfl)
  rw [lg_entry_eq]
  generalize (lg_sl ([.ref b]) ++ List.replicate (4 - (lg_sl ([.ref b])).length) Slot.unset).toArray = ls at hl ⊢
  have hl : lv_has ls 4 [(0, .ref b)] := hl
  refine fx_new hx hb hts hown hKC hR hS hz hA cn_L_7 e1 (Nat.le_of_ble_eq_true rfl) (Nat.le_of_ble_eq_true rfl) dL_law_0 (fun H hR hS hz => ?_)
  refine W.cs (cells' := 1) (slots' := 10) rfl rfl ?_
  refine lv_dup hx hb dL_law_3 rfl ?_
  refine fx_iI (rest := [.ref s.heap.size]) hx hb hml hts hown hKC hR hS hz hA (mX6_init l D dA _ e2) my_X6_init rfl mi_X6_init ml_L_9 hl.1 rfl (Nat.le_of_ble_eq_true rfl) dL_law_4 ⟨Nat.le_of_ble_eq_true rfl, Nat.le_of_ble_eq_true rfl⟩ ⟨Nat.le_of_ble_eq_true rfl, Nat.le_of_ble_eq_true rfl⟩ (fun H locs hR hS hz => ?_)
  refine W.cs (cells' := 150) (slots' := 4301) rfl rfl ?_
  refine lv_astore_n (lv' := [(1, .ref s.heap.size), (0, .ref b)]) hx hb dL_law_7 rfl hl (by decide) rfl (fun ls hl => ?_)
  refine fx_new hx hb hts hown hKC hR hS hz hA cn_L_10 e3 (Nat.le_of_ble_eq_true rfl) (Nat.le_of_ble_eq_true rfl) dL_law_8 (fun H hR hS hz => ?_)
  refine W.cs (cells' := 151) (slots' := 4332) rfl rfl ?_
  refine lv_dup hx hb dL_law_11 rfl ?_
  refine fx_iI (rest := [.ref (s.heap.size + 150)]) hx hb hml hts hown hKC hR hS hz hA (mX7_init l D dA _ e4) my_X7_init rfl mi_X7_init ml_L_12 hl.1 rfl (Nat.le_of_ble_eq_true rfl) dL_law_12 ⟨Nat.le_of_ble_eq_true rfl, Nat.le_of_ble_eq_true rfl⟩ ⟨Nat.le_of_ble_eq_true rfl, Nat.le_of_ble_eq_true rfl⟩ (fun H locs hR hS hz => ?_)
  refine W.cs (cells' := 173) (slots' := 8427) rfl rfl ?_
  refine lv_astore_n (lv' := [(2, .ref (s.heap.size + 150)), (1, .ref s.heap.size), (0, .ref b)]) hx hb dL_law_15 rfl hl (by decide) rfl (fun ls hl => ?_)
  refine lv_iconst (v := 0) hx hb dL_law_16 (by decide) ?_
  refine lv_istore_n (lv' := [(3, .int 0), (2, .ref (s.heap.size + 150)), (1, .ref s.heap.size), (0, .ref b)]) hx hb dL_law_17 rfl hl (by decide) rfl (fun ls hl => ?_)
  exact law_loop hL C0 hK hsys 601 0 0 w4 nI_0.symm (Nat.zero_le L) (by omega) hI hR hS (lv_sub hl [3, 2, 1, 0] rfl)
