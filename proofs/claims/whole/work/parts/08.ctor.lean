theorem ac_int : Cond.arrayClass .int ∈ lw_g := (fz_mem 83 (by decide +kernel) (by decide +kernel))
theorem mlo_X0 : Cond.methodLink RX0 3 objectInit ∈ lw_g := (fz_mem 133 (by decide +kernel) (by decide +kernel))
theorem mio : Cond.instanceMethod objectInit ∈ lw_g := (fz_mem 46 (by decide +kernel) (by decide +kernel))
theorem mco : Cond.code objectInit ⟨#[0xb1]⟩ 1 none ∈ lw_g := (fz_mem 47 (by decide +kernel) (by decide +kernel))
theorem fpf_X0_9 : FPF RX0 9 0 0 (.array .int) := ⟨RX0, TX0, 2, tyX0, rfl, by decide, (fz_mem 134 (by decide +kernel) (by decide +kernel)), inX0, tyX0_ok, nmX0, rfl, rfl, by decide +kernel⟩
theorem fpf_X0_15 : FPF RX0 15 0 1 (.array .int) := ⟨RX0, TX0, 2, tyX0, rfl, by decide, (fz_mem 135 (by decide +kernel) (by decide +kernel)), inX0, tyX0_ok, nmX0, rfl, rfl, by decide +kernel⟩
theorem mlo_X1 : Cond.methodLink RX1 3 objectInit ∈ lw_g := (fz_mem 146 (by decide +kernel) (by decide +kernel))
theorem fpf_X1_9 : FPF RX1 9 1 2 (.array .int) := ⟨RX1, TX1, 6, tyX1, rfl, by decide, (fz_mem 149 (by decide +kernel) (by decide +kernel)), inX1, tyX1_ok, nmX1, rfl, rfl, by decide +kernel⟩
theorem fpf_X1_15 : FPF RX1 15 1 3 (.array .int) := ⟨RX1, TX1, 6, tyX1, rfl, by decide, (fz_mem 150 (by decide +kernel) (by decide +kernel)), inX1, tyX1_ok, nmX1, rfl, rfl, by decide +kernel⟩
theorem fpf_X1_18 : FPF RX1 18 1 4 (.array .int) := ⟨RX1, TX1, 6, tyX1, rfl, by decide, (fz_mem 151 (by decide +kernel) (by decide +kernel)), inX1, tyX1_ok, nmX1, rfl, rfl, by decide +kernel⟩
theorem fpf_X1_21 : FPF RX1 21 1 5 (.array .int) := ⟨RX1, TX1, 6, tyX1, rfl, by decide, (fz_mem 152 (by decide +kernel) (by decide +kernel)), inX1, tyX1_ok, nmX1, rfl, rfl, by decide +kernel⟩
theorem mlo_X2 : Cond.methodLink RX2 3 objectInit ∈ lw_g := (fz_mem 60 (by decide +kernel) (by decide +kernel))
theorem fpf_X2_9 : FPF RX2 9 2 1 (.array .int) := ⟨RX2, TX2, 7, tyX2, rfl, by decide, (fz_mem 62 (by decide +kernel) (by decide +kernel)), inX2, tyX2_ok, nmX2, rfl, rfl, by decide +kernel⟩
theorem fpf_X2_15 : FPF RX2 15 2 2 (.array .int) := ⟨RX2, TX2, 7, tyX2, rfl, by decide, (fz_mem 63 (by decide +kernel) (by decide +kernel)), inX2, tyX2_ok, nmX2, rfl, rfl, by decide +kernel⟩
theorem fpf_X2_18 : FPF RX2 18 2 3 (.array .int) := ⟨RX2, TX2, 7, tyX2, rfl, by decide, (fz_mem 64 (by decide +kernel) (by decide +kernel)), inX2, tyX2_ok, nmX2, rfl, rfl, by decide +kernel⟩
theorem fpf_X2_21 : FPF RX2 21 2 4 (.array .int) := ⟨RX2, TX2, 7, tyX2, rfl, by decide, (fz_mem 65 (by decide +kernel) (by decide +kernel)), inX2, tyX2_ok, nmX2, rfl, rfl, by decide +kernel⟩
theorem fpf_X2_24 : FPF RX2 24 2 5 (.array .int) := ⟨RX2, TX2, 7, tyX2, rfl, by decide, (fz_mem 66 (by decide +kernel) (by decide +kernel)), inX2, tyX2_ok, nmX2, rfl, rfl, by decide +kernel⟩
theorem fpf_X2_27 : FPF RX2 27 2 6 (.array .int) := ⟨RX2, TX2, 7, tyX2, rfl, by decide, (fz_mem 67 (by decide +kernel) (by decide +kernel)), inX2, tyX2_ok, nmX2, rfl, rfl, by decide +kernel⟩
theorem mlo_X3 : Cond.methodLink RX3 3 objectInit ∈ lw_g := (fz_mem 118 (by decide +kernel) (by decide +kernel))
theorem cl_X3_9 : Cond.classLink RX3 9 "[[I" ∈ lw_g := (fz_mem 119 (by decide +kernel) (by decide +kernel))
theorem fpf_X3_11 : FPF RX3 11 3 0 (.array (.array .int)) := ⟨RX3, TX3, 2, tyX3, rfl, by decide, (fz_mem 121 (by decide +kernel) (by decide +kernel)), inX3, tyX3_ok, nmX3, rfl, rfl, by decide +kernel⟩
theorem fpf_X3_16 : FPF RX3 16 3 1 (.array .int) := ⟨RX3, TX3, 2, tyX3, rfl, by decide, (fz_mem 122 (by decide +kernel) (by decide +kernel)), inX3, tyX3_ok, nmX3, rfl, rfl, by decide +kernel⟩
theorem mlo_X5 : Cond.methodLink RX5 3 objectInit ∈ lw_g := (fz_mem 105 (by decide +kernel) (by decide +kernel))
theorem fpf_X5_9 : FPF RX5 9 5 1 (.array .int) := ⟨RX5, TX5, 2, tyX5, rfl, by decide, (fz_mem 107 (by decide +kernel) (by decide +kernel)), inX5, tyX5_ok, nmX5, rfl, rfl, by decide +kernel⟩
theorem mlo_X4 : Cond.methodLink RX4 3 objectInit ∈ lw_g := (fz_mem 54 (by decide +kernel) (by decide +kernel))
theorem fpf_X4_9 : FPF RX4 9 4 1 (.array .int) := ⟨RX4, TX4, 5, tyX4, rfl, by decide, (fz_mem 85 (by decide +kernel) (by decide +kernel)), inX4, tyX4_ok, nmX4, rfl, rfl, by decide +kernel⟩
theorem fpf_X4_15 : FPF RX4 15 4 2 (.array .int) := ⟨RX4, TX4, 5, tyX4, rfl, by decide, (fz_mem 86 (by decide +kernel) (by decide +kernel)), inX4, tyX4_ok, nmX4, rfl, rfl, by decide +kernel⟩
theorem cn_X4_18 : CN RX4 18 2 [.int 0, .null, .null, .null, .null, .null, .null] 7 := ⟨RX2, TX2, tyX2, rfl, (fz_mem 55 (by decide +kernel) (by decide +kernel)), (fz_mem 56 (by decide +kernel) (by decide +kernel)), (fz_mem 33 (by decide +kernel) (by decide +kernel)), inX2, tyX2_ok, by decide⟩
theorem my_X2_init : MY yX2_init cX2_init 1 none 0 := ⟨(fz_mem 59 (by decide +kernel) (by decide +kernel)), (fz_mem 33 (by decide +kernel) (by decide +kernel)), by decide +kernel⟩
theorem mi_X2_init : Cond.instanceMethod yX2_init ∈ lw_g := (fz_mem 58 (by decide +kernel) (by decide +kernel))
theorem fpc_X4_21 : FP RX4 21 4 3 (.object "FindingHouse$FindingRow") := ⟨RX4, TX4, 5, tyX4, rfl, by decide, (fz_mem 87 (by decide +kernel) (by decide +kernel)), inX4, tyX4_ok, nmX4, rfl, by decide +kernel⟩
theorem fpc_X4_25 : FP RX4 25 4 4 (.object "FindingHouse$FindingRow") := ⟨RX4, TX4, 5, tyX4, rfl, by decide, (fz_mem 88 (by decide +kernel) (by decide +kernel)), inX4, tyX4_ok, nmX4, rfl, by decide +kernel⟩
theorem mlo_X6 : Cond.methodLink RX6 1 objectInit ∈ lw_g := (fz_mem 45 (by decide +kernel) (by decide +kernel))
theorem cl_X6_9 : Cond.classLink RX6 9 RX4 ∈ lw_g := (fz_mem 48 (by decide +kernel) (by decide +kernel))
theorem fpf_X6_11 : FPF RX6 11 6 0 (.array (.object "FindingHouse$Sheet")) := ⟨RX6, TX6, 10, tyX6, rfl, by decide, (fz_mem 166 (by decide +kernel) (by decide +kernel)), inX6, tyX6_ok, nmX6, rfl, rfl, by decide +kernel⟩
theorem flc_X6_11 : FL RX6 11 6 0 := ⟨RX6, TX6, 10, rfl, by decide, (fz_mem 166 (by decide +kernel) (by decide +kernel)), inX6⟩
theorem cn_X6_9 : CN RX6 9 4 [.int 0, .null, .null, .null, .null] 5 := ⟨RX4, TX4, tyX4, rfl, (fz_mem 48 (by decide +kernel) (by decide +kernel)), (fz_mem 50 (by decide +kernel) (by decide +kernel)), (fz_mem 32 (by decide +kernel) (by decide +kernel)), inX4, tyX4_ok, by decide⟩
theorem my_X4_init : MY yX4_init cX4_init 1 none 0 := ⟨(fz_mem 53 (by decide +kernel) (by decide +kernel)), (fz_mem 32 (by decide +kernel) (by decide +kernel)), by decide +kernel⟩
theorem mi_X4_init : Cond.instanceMethod yX4_init ∈ lw_g := (fz_mem 52 (by decide +kernel) (by decide +kernel))
theorem cn_X6_16 : CN RX6 16 5 [.int 0, .null] 2 := ⟨RX5, TX5, tyX5, rfl, (fz_mem 100 (by decide +kernel) (by decide +kernel)), (fz_mem 101 (by decide +kernel) (by decide +kernel)), (fz_mem 34 (by decide +kernel) (by decide +kernel)), inX5, tyX5_ok, by decide⟩
theorem my_X5_init : MY yX5_init cX5_init 1 none 0 := ⟨(fz_mem 104 (by decide +kernel) (by decide +kernel)), (fz_mem 34 (by decide +kernel) (by decide +kernel)), by decide +kernel⟩
theorem mi_X5_init : Cond.instanceMethod yX5_init ∈ lw_g := (fz_mem 103 (by decide +kernel) (by decide +kernel))
theorem fpf_X6_19 : FPF RX6 19 6 1 (.object "FindingHouse$Tape") := ⟨RX6, TX6, 10, tyX6, rfl, by decide, (fz_mem 167 (by decide +kernel) (by decide +kernel)), inX6, tyX6_ok, nmX6, rfl, rfl, by decide +kernel⟩
theorem cn_X6_23 : CN RX6 23 3 [.null, .null] 2 := ⟨RX3, TX3, tyX3, rfl, (fz_mem 113 (by decide +kernel) (by decide +kernel)), (fz_mem 114 (by decide +kernel) (by decide +kernel)), (fz_mem 35 (by decide +kernel) (by decide +kernel)), inX3, tyX3_ok, by decide⟩
theorem my_X3_init : MY yX3_init cX3_init 1 none 0 := ⟨(fz_mem 117 (by decide +kernel) (by decide +kernel)), (fz_mem 35 (by decide +kernel) (by decide +kernel)), by decide +kernel⟩
theorem mi_X3_init : Cond.instanceMethod yX3_init ∈ lw_g := (fz_mem 116 (by decide +kernel) (by decide +kernel))
theorem fpf_X6_26 : FPF RX6 26 6 2 (.object "FindingHouse$Retelling") := ⟨RX6, TX6, 10, tyX6, rfl, by decide, (fz_mem 168 (by decide +kernel) (by decide +kernel)), inX6, tyX6_ok, nmX6, rfl, rfl, by decide +kernel⟩
theorem cn_X6_30 : CN RX6 30 0 [.null, .null] 2 := ⟨RX0, TX0, tyX0, rfl, (fz_mem 128 (by decide +kernel) (by decide +kernel)), (fz_mem 129 (by decide +kernel) (by decide +kernel)), (fz_mem 36 (by decide +kernel) (by decide +kernel)), inX0, tyX0_ok, by decide⟩
theorem my_X0_init : MY yX0_init cX0_init 1 none 0 := ⟨(fz_mem 132 (by decide +kernel) (by decide +kernel)), (fz_mem 36 (by decide +kernel) (by decide +kernel)), by decide +kernel⟩
theorem mi_X0_init : Cond.instanceMethod yX0_init ∈ lw_g := (fz_mem 131 (by decide +kernel) (by decide +kernel))
theorem fpf_X6_33 : FPF RX6 33 6 3 (.object "FindingHouse$Checker") := ⟨RX6, TX6, 10, tyX6, rfl, by decide, (fz_mem 169 (by decide +kernel) (by decide +kernel)), inX6, tyX6_ok, nmX6, rfl, rfl, by decide +kernel⟩
theorem cn_X6_37 : CN RX6 37 1 [.int 0, .int 0, .null, .null, .null, .null] 6 := ⟨RX1, TX1, tyX1, rfl, (fz_mem 141 (by decide +kernel) (by decide +kernel)), (fz_mem 142 (by decide +kernel) (by decide +kernel)), (fz_mem 37 (by decide +kernel) (by decide +kernel)), inX1, tyX1_ok, by decide⟩
theorem my_X1_init : MY yX1_init cX1_init 1 none 0 := ⟨(fz_mem 145 (by decide +kernel) (by decide +kernel)), (fz_mem 37 (by decide +kernel) (by decide +kernel)), by decide +kernel⟩
theorem mi_X1_init : Cond.instanceMethod yX1_init ∈ lw_g := (fz_mem 144 (by decide +kernel) (by decide +kernel))
theorem fpf_X6_40 : FPF RX6 40 6 4 (.object "FindingHouse$EndedLog") := ⟨RX6, TX6, 10, tyX6, rfl, by decide, (fz_mem 170 (by decide +kernel) (by decide +kernel)), inX6, tyX6_ok, nmX6, rfl, rfl, by decide +kernel⟩
theorem mlo_X7 : Cond.methodLink RX7 1 objectInit ∈ lw_g := (fz_mem 541 (by decide +kernel) (by decide +kernel))
theorem fpf_X7_7 : FPF RX7 7 7 0 (.array .int) := ⟨RX7, TX7, 31, tyX7, rfl, by decide, (fz_mem 542 (by decide +kernel) (by decide +kernel)), inX7, tyX7_ok, nmX7, rfl, rfl, by decide +kernel⟩
theorem fpf_X7_13 : FPF RX7 13 7 1 (.array .int) := ⟨RX7, TX7, 31, tyX7, rfl, by decide, (fz_mem 543 (by decide +kernel) (by decide +kernel)), inX7, tyX7_ok, nmX7, rfl, rfl, by decide +kernel⟩
theorem fpf_X7_16 : FPF RX7 16 7 2 (.array .int) := ⟨RX7, TX7, 31, tyX7, rfl, by decide, (fz_mem 544 (by decide +kernel) (by decide +kernel)), inX7, tyX7_ok, nmX7, rfl, rfl, by decide +kernel⟩
theorem fpf_X7_19 : FPF RX7 19 7 10 (.array .int) := ⟨RX7, TX7, 31, tyX7, rfl, by decide, (fz_mem 552 (by decide +kernel) (by decide +kernel)), inX7, tyX7_ok, nmX7, rfl, rfl, by decide +kernel⟩
theorem fpf_X7_22 : FPF RX7 22 7 11 (.array .int) := ⟨RX7, TX7, 31, tyX7, rfl, by decide, (fz_mem 553 (by decide +kernel) (by decide +kernel)), inX7, tyX7_ok, nmX7, rfl, rfl, by decide +kernel⟩
theorem fpf_X7_25 : FPF RX7 25 7 12 (.array .int) := ⟨RX7, TX7, 31, tyX7, rfl, by decide, (fz_mem 554 (by decide +kernel) (by decide +kernel)), inX7, tyX7_ok, nmX7, rfl, rfl, by decide +kernel⟩
theorem fpf_X7_28 : FPF RX7 28 7 13 (.array .int) := ⟨RX7, TX7, 31, tyX7, rfl, by decide, (fz_mem 555 (by decide +kernel) (by decide +kernel)), inX7, tyX7_ok, nmX7, rfl, rfl, by decide +kernel⟩
theorem fpf_X7_31 : FPF RX7 31 7 14 (.array .int) := ⟨RX7, TX7, 31, tyX7, rfl, by decide, (fz_mem 556 (by decide +kernel) (by decide +kernel)), inX7, tyX7_ok, nmX7, rfl, rfl, by decide +kernel⟩
theorem fpf_X7_34 : FPF RX7 34 7 15 (.array .int) := ⟨RX7, TX7, 31, tyX7, rfl, by decide, (fz_mem 557 (by decide +kernel) (by decide +kernel)), inX7, tyX7_ok, nmX7, rfl, rfl, by decide +kernel⟩
theorem fpf_X7_37 : FPF RX7 37 7 16 (.array .int) := ⟨RX7, TX7, 31, tyX7, rfl, by decide, (fz_mem 558 (by decide +kernel) (by decide +kernel)), inX7, tyX7_ok, nmX7, rfl, rfl, by decide +kernel⟩
theorem fpf_X7_40 : FPF RX7 40 7 17 (.array .int) := ⟨RX7, TX7, 31, tyX7, rfl, by decide, (fz_mem 559 (by decide +kernel) (by decide +kernel)), inX7, tyX7_ok, nmX7, rfl, rfl, by decide +kernel⟩
theorem fpf_X7_43 : FPF RX7 43 7 18 (.array .int) := ⟨RX7, TX7, 31, tyX7, rfl, by decide, (fz_mem 560 (by decide +kernel) (by decide +kernel)), inX7, tyX7_ok, nmX7, rfl, rfl, by decide +kernel⟩
theorem fpf_X7_46 : FPF RX7 46 7 19 (.array .int) := ⟨RX7, TX7, 31, tyX7, rfl, by decide, (fz_mem 561 (by decide +kernel) (by decide +kernel)), inX7, tyX7_ok, nmX7, rfl, rfl, by decide +kernel⟩
theorem fpf_X7_49 : FPF RX7 49 7 20 (.array .int) := ⟨RX7, TX7, 31, tyX7, rfl, by decide, (fz_mem 562 (by decide +kernel) (by decide +kernel)), inX7, tyX7_ok, nmX7, rfl, rfl, by decide +kernel⟩
theorem fpf_X7_52 : FPF RX7 52 7 21 (.array .int) := ⟨RX7, TX7, 31, tyX7, rfl, by decide, (fz_mem 563 (by decide +kernel) (by decide +kernel)), inX7, tyX7_ok, nmX7, rfl, rfl, by decide +kernel⟩
theorem fpf_X7_55 : FPF RX7 55 7 23 (.array .int) := ⟨RX7, TX7, 31, tyX7, rfl, by decide, (fz_mem 565 (by decide +kernel) (by decide +kernel)), inX7, tyX7_ok, nmX7, rfl, rfl, by decide +kernel⟩
theorem fpf_X7_58 : FPF RX7 58 7 24 (.array .int) := ⟨RX7, TX7, 31, tyX7, rfl, by decide, (fz_mem 566 (by decide +kernel) (by decide +kernel)), inX7, tyX7_ok, nmX7, rfl, rfl, by decide +kernel⟩
theorem fpf_X7_61 : FPF RX7 61 7 25 (.array .int) := ⟨RX7, TX7, 31, tyX7, rfl, by decide, (fz_mem 567 (by decide +kernel) (by decide +kernel)), inX7, tyX7_ok, nmX7, rfl, rfl, by decide +kernel⟩
theorem fpf_X7_64 : FPF RX7 64 7 26 (.array .int) := ⟨RX7, TX7, 31, tyX7, rfl, by decide, (fz_mem 568 (by decide +kernel) (by decide +kernel)), inX7, tyX7_ok, nmX7, rfl, rfl, by decide +kernel⟩
theorem fpf_X7_67 : FPF RX7 67 7 27 (.array .int) := ⟨RX7, TX7, 31, tyX7, rfl, by decide, (fz_mem 569 (by decide +kernel) (by decide +kernel)), inX7, tyX7_ok, nmX7, rfl, rfl, by decide +kernel⟩
theorem fpf_X7_70 : FPF RX7 70 7 28 (.array .int) := ⟨RX7, TX7, 31, tyX7, rfl, by decide, (fz_mem 570 (by decide +kernel) (by decide +kernel)), inX7, tyX7_ok, nmX7, rfl, rfl, by decide +kernel⟩
theorem fpf_X7_73 : FPF RX7 73 7 29 (.array .int) := ⟨RX7, TX7, 31, tyX7, rfl, by decide, (fz_mem 571 (by decide +kernel) (by decide +kernel)), inX7, tyX7_ok, nmX7, rfl, rfl, by decide +kernel⟩
theorem cn_L_7 : CN RL 7 6 [.null, .null, .null, .null, .null, .int 0, .int 0, .int 0, .int 0, .int 0] 10 := ⟨RX6, TX6, tyX6, rfl, (fz_mem 40 (by decide +kernel) (by decide +kernel)), (fz_mem 41 (by decide +kernel) (by decide +kernel)), (fz_mem 31 (by decide +kernel) (by decide +kernel)), inX6, tyX6_ok, by decide⟩
theorem cn_L_10 : CN RL 10 7 [.null, .null, .null, .int 0, .int 0, .int 0, .int 0, .int 0, .int 0, .int 0, .null, .null, .null, .null, .null, .null, .null, .null, .null, .null, .null, .null, .int 0, .null, .null, .null, .null, .null, .null, .null, .int 0] 31 := ⟨RX7, TX7, tyX7, rfl, (fz_mem 536 (by decide +kernel) (by decide +kernel)), (fz_mem 537 (by decide +kernel) (by decide +kernel)), (fz_mem 38 (by decide +kernel) (by decide +kernel)), inX7, tyX7_ok, by decide⟩
def fX0_init (w : Fw) (z a0 : Nat) : Option (Fw × Nat) := ((nO w z (.inl (5, fun _ => 0))).bind fun w1 => ((pF w1 a0 0 0 (.ref z)).bind fun w2 => ((nO w2 (z + 1) (.inl (32, fun _ => 0))).bind fun w3 => ((pF w3 a0 0 1 (.ref (z + 1))).bind fun w4 => some (w4, (z + 2))))))
theorem zX0_init {w : Fw} {z a0 : Nat} {res : Fw × Nat} (h : fX0_init w z a0 = some res) : res.2 = z + 2 := by
  unfold fX0_init at h
  obtain ⟨_, -, h⟩ := bd h
  obtain ⟨_, -, h⟩ := bd h
  obtain ⟨_, -, h⟩ := bd h
  obtain ⟨_, -, h⟩ := bd h
  exact (congrArg Prod.snd (Option.some.inj h)).symm
set_option maxRecDepth 100000 in
set_option maxHeartbeats 4000000 in
theorem mX0_init (l : Launch) (D : va_G) (dA : Nat → ClassId) (A : Nat → Prop) {w : Fw} {z a0 : Nat} {res : Fw × Nat} (h : fX0_init w z a0 = some res) : Met l yX0_init (wz yX0_init cX0_init 1 none) (rc 1 2 37 20) (PzC D dA A w z [.ref a0]) (QzC D dA A res.1 res.2) 2 37 A := by
  refine Met.ofW (cc := cX0_init) (maxL := 1) (ret := none) (by decide) rfl ?_
  intro p e s m args below meth c s₁ B hml hv
  obtain ⟨rfl, hR, hK, hz, hA0⟩ := hv
  have hx := B.exec
  have hb := B.bytes
  have hr := B.returns
  have hts : ∀ w ∈ lw_g, w.before [Value.ref a0].toArray s = true := fun w hw => atoms_spec (ws := wz yX0_init cX0_init 1 none) B.pre w (List.mem_cons_of_mem _ hw)
  have hown : s.vm.findClass RX0 = some m.cls := findClass_of_methodNamed B.named
  have hlocks := B.notSynchronized
  have hin : meth.name = "<init>" := (name_of_methodNamed B.named B.method).1
  have hA : ∀ q, s.heap.size ≤ q → A q := fun q hq => hA0 q (hz ▸ hq)
  have hS : va_S A s.heap s.heap [] := va_S.rf
  have hl := lv_entry ([.ref a0]) (n := 1) (Nat.le_of_ble_eq_true rfl)
  rw [lg_entry_eq]
  generalize (lg_sl ([.ref a0]) ++ List.replicate (1 - (lg_sl ([.ref a0])).length) Slot.unset).toArray = ls at hl ⊢
  have hl : lv_has ls 1 [(0, .ref a0)] := hl
  unfold fX0_init at h
  show W p l e (rc 1 2 37 20) s m _ below meth c s.heap [] 0 0 _ _
  refine lv_aload_n hx hb dX0_init_0 rfl (lv_at hl 0 rfl) ?_
  refine W.objInit hx hb hown (hts _ mlo_X0) (hts _ mio) (hts _ mco) rfl (by rw [hml]; exact hl.1) rfl dX0_init_1 (Nat.le_of_ble_eq_true rfl) (Nat.le_of_ble_eq_true rfl) ?_
  refine W.eq (g2 := F0 m 4 ls []) rfl ?_
  refine lv_aload_n hx hb dX0_init_4 rfl (lv_at hl 0 rfl) ?_
  refine lv_iconst (v := 5) hx hb dX0_init_5 (by decide) ?_
  obtain ⟨w1, e, h⟩ := bd h
  refine fx_newa hx hb hts hK hR hS hz hA (N := 5) ac_int (by decide) (by decide) (by decide) e (Nat.le_of_ble_eq_true rfl) (Nat.le_of_ble_eq_true rfl) dX0_init_6 (fun H hR hS hz => ?_)
  refine W.cs (cells' := 1) (slots' := 5) rfl rfl ?_
  obtain ⟨w2, e, h⟩ := bd h
  refine fx_pf hx hb hts hown hK.1 hR hS hin fpf_X0_9 e rfl rfl dX0_init_8 (fun H locs hR hS hz1 => ?_)
  have hz := hz1.trans hz
  refine lv_aload_n hx hb dX0_init_11 rfl (lv_at hl 0 rfl) ?_
  refine lv_bipush (v := 32) hx hb dX0_init_12 (by decide) ?_
  obtain ⟨w3, e, h⟩ := bd h
  refine fx_newa hx hb hts hK hR hS hz hA (N := 32) ac_int (by decide) (by decide) (by decide) e (Nat.le_of_ble_eq_true rfl) (Nat.le_of_ble_eq_true rfl) dX0_init_14 (fun H hR hS hz => ?_)
  refine W.cs (cells' := 2) (slots' := 37) rfl rfl ?_
  obtain ⟨w4, e, h⟩ := bd h
  refine fx_pf hx hb hts hown hK.1 hR hS hin fpf_X0_15 e rfl rfl dX0_init_16 (fun H locs hR hS hz1 => ?_)
  have hz := hz1.trans hz
  exact fx_cret hx hb hr hlocks h hR hS hz dX0_init_19
def fX1_init (w : Fw) (z a0 : Nat) : Option (Fw × Nat) := ((nO w z (.inl (60, fun _ => 0))).bind fun w1 => ((pF w1 a0 1 2 (.ref z)).bind fun w2 => ((nO w2 (z + 1) (.inl (60, fun _ => 0))).bind fun w3 => ((pF w3 a0 1 3 (.ref (z + 1))).bind fun w4 => ((nO w4 (z + 2) (.inl (60, fun _ => 0))).bind fun w5 => ((pF w5 a0 1 4 (.ref (z + 2))).bind fun w6 => ((nO w6 (z + 3) (.inl (60, fun _ => 0))).bind fun w7 => ((pF w7 a0 1 5 (.ref (z + 3))).bind fun w8 => some (w8, (z + 4))))))))))
theorem zX1_init {w : Fw} {z a0 : Nat} {res : Fw × Nat} (h : fX1_init w z a0 = some res) : res.2 = z + 4 := by
  unfold fX1_init at h
  obtain ⟨_, -, h⟩ := bd h
  obtain ⟨_, -, h⟩ := bd h
  obtain ⟨_, -, h⟩ := bd h
  obtain ⟨_, -, h⟩ := bd h
  obtain ⟨_, -, h⟩ := bd h
  obtain ⟨_, -, h⟩ := bd h
  obtain ⟨_, -, h⟩ := bd h
  obtain ⟨_, -, h⟩ := bd h
  exact (congrArg Prod.snd (Option.some.inj h)).symm
set_option maxRecDepth 100000 in
set_option maxHeartbeats 4000000 in
theorem mX1_init (l : Launch) (D : va_G) (dA : Nat → ClassId) (A : Nat → Prop) {w : Fw} {z a0 : Nat} {res : Fw × Nat} (h : fX1_init w z a0 = some res) : Met l yX1_init (wz yX1_init cX1_init 1 none) (rc 1 4 240 20) (PzC D dA A w z [.ref a0]) (QzC D dA A res.1 res.2) 4 240 A := by
  refine Met.ofW (cc := cX1_init) (maxL := 1) (ret := none) (by decide) rfl ?_
  intro p e s m args below meth c s₁ B hml hv
  obtain ⟨rfl, hR, hK, hz, hA0⟩ := hv
  have hx := B.exec
  have hb := B.bytes
  have hr := B.returns
  have hts : ∀ w ∈ lw_g, w.before [Value.ref a0].toArray s = true := fun w hw => atoms_spec (ws := wz yX1_init cX1_init 1 none) B.pre w (List.mem_cons_of_mem _ hw)
  have hown : s.vm.findClass RX1 = some m.cls := findClass_of_methodNamed B.named
  have hlocks := B.notSynchronized
  have hin : meth.name = "<init>" := (name_of_methodNamed B.named B.method).1
  have hA : ∀ q, s.heap.size ≤ q → A q := fun q hq => hA0 q (hz ▸ hq)
  have hS : va_S A s.heap s.heap [] := va_S.rf
  have hl := lv_entry ([.ref a0]) (n := 1) (Nat.le_of_ble_eq_true rfl)
  rw [lg_entry_eq]
  generalize (lg_sl ([.ref a0]) ++ List.replicate (1 - (lg_sl ([.ref a0])).length) Slot.unset).toArray = ls at hl ⊢
  have hl : lv_has ls 1 [(0, .ref a0)] := hl
  unfold fX1_init at h
  show W p l e (rc 1 4 240 20) s m _ below meth c s.heap [] 0 0 _ _
  refine lv_aload_n hx hb dX1_init_0 rfl (lv_at hl 0 rfl) ?_
  refine W.objInit hx hb hown (hts _ mlo_X1) (hts _ mio) (hts _ mco) rfl (by rw [hml]; exact hl.1) rfl dX1_init_1 (Nat.le_of_ble_eq_true rfl) (Nat.le_of_ble_eq_true rfl) ?_
  refine W.eq (g2 := F0 m 4 ls []) rfl ?_
  refine lv_aload_n hx hb dX1_init_4 rfl (lv_at hl 0 rfl) ?_
  refine lv_bipush (v := 60) hx hb dX1_init_5 (by decide) ?_
  obtain ⟨w1, e, h⟩ := bd h
  refine fx_newa hx hb hts hK hR hS hz hA (N := 60) ac_int (by decide) (by decide) (by decide) e (Nat.le_of_ble_eq_true rfl) (Nat.le_of_ble_eq_true rfl) dX1_init_7 (fun H hR hS hz => ?_)
  refine W.cs (cells' := 1) (slots' := 60) rfl rfl ?_
  obtain ⟨w2, e, h⟩ := bd h
  refine fx_pf hx hb hts hown hK.1 hR hS hin fpf_X1_9 e rfl rfl dX1_init_9 (fun H locs hR hS hz1 => ?_)
  have hz := hz1.trans hz
  refine lv_aload_n hx hb dX1_init_12 rfl (lv_at hl 0 rfl) ?_
  refine lv_bipush (v := 60) hx hb dX1_init_13 (by decide) ?_
  obtain ⟨w3, e, h⟩ := bd h
  refine fx_newa hx hb hts hK hR hS hz hA (N := 60) ac_int (by decide) (by decide) (by decide) e (Nat.le_of_ble_eq_true rfl) (Nat.le_of_ble_eq_true rfl) dX1_init_15 (fun H hR hS hz => ?_)
  refine W.cs (cells' := 2) (slots' := 120) rfl rfl ?_
  obtain ⟨w4, e, h⟩ := bd h
  refine fx_pf hx hb hts hown hK.1 hR hS hin fpf_X1_15 e rfl rfl dX1_init_17 (fun H locs hR hS hz1 => ?_)
  have hz := hz1.trans hz
  refine lv_aload_n hx hb dX1_init_20 rfl (lv_at hl 0 rfl) ?_
  refine lv_bipush (v := 60) hx hb dX1_init_21 (by decide) ?_
  obtain ⟨w5, e, h⟩ := bd h
  refine fx_newa hx hb hts hK hR hS hz hA (N := 60) ac_int (by decide) (by decide) (by decide) e (Nat.le_of_ble_eq_true rfl) (Nat.le_of_ble_eq_true rfl) dX1_init_23 (fun H hR hS hz => ?_)
  refine W.cs (cells' := 3) (slots' := 180) rfl rfl ?_
  obtain ⟨w6, e, h⟩ := bd h
  refine fx_pf hx hb hts hown hK.1 hR hS hin fpf_X1_18 e rfl rfl dX1_init_25 (fun H locs hR hS hz1 => ?_)
  have hz := hz1.trans hz
  refine lv_aload_n hx hb dX1_init_28 rfl (lv_at hl 0 rfl) ?_
  refine lv_bipush (v := 60) hx hb dX1_init_29 (by decide) ?_
  obtain ⟨w7, e, h⟩ := bd h
  refine fx_newa hx hb hts hK hR hS hz hA (N := 60) ac_int (by decide) (by decide) (by decide) e (Nat.le_of_ble_eq_true rfl) (Nat.le_of_ble_eq_true rfl) dX1_init_31 (fun H hR hS hz => ?_)
  refine W.cs (cells' := 4) (slots' := 240) rfl rfl ?_
  obtain ⟨w8, e, h⟩ := bd h
  refine fx_pf hx hb hts hown hK.1 hR hS hin fpf_X1_21 e rfl rfl dX1_init_33 (fun H locs hR hS hz1 => ?_)
  have hz := hz1.trans hz
  exact fx_cret hx hb hr hlocks h hR hS hz dX1_init_36
def fX2_init (w : Fw) (z a0 : Nat) : Option (Fw × Nat) := ((nO w z (.inl (32, fun _ => 0))).bind fun w1 => ((pF w1 a0 2 1 (.ref z)).bind fun w2 => ((nO w2 (z + 1) (.inl (32, fun _ => 0))).bind fun w3 => ((pF w3 a0 2 2 (.ref (z + 1))).bind fun w4 => ((nO w4 (z + 2) (.inl (32, fun _ => 0))).bind fun w5 => ((pF w5 a0 2 3 (.ref (z + 2))).bind fun w6 => ((nO w6 (z + 3) (.inl (32, fun _ => 0))).bind fun w7 => ((pF w7 a0 2 4 (.ref (z + 3))).bind fun w8 => ((nO w8 (z + 4) (.inl (32, fun _ => 0))).bind fun w9 => ((pF w9 a0 2 5 (.ref (z + 4))).bind fun w10 => ((nO w10 (z + 5) (.inl (32, fun _ => 0))).bind fun w11 => ((pF w11 a0 2 6 (.ref (z + 5))).bind fun w12 => some (w12, (z + 6))))))))))))))
theorem zX2_init {w : Fw} {z a0 : Nat} {res : Fw × Nat} (h : fX2_init w z a0 = some res) : res.2 = z + 6 := by
  unfold fX2_init at h
  obtain ⟨_, -, h⟩ := bd h
  obtain ⟨_, -, h⟩ := bd h
  obtain ⟨_, -, h⟩ := bd h
  obtain ⟨_, -, h⟩ := bd h
  obtain ⟨_, -, h⟩ := bd h
  obtain ⟨_, -, h⟩ := bd h
  obtain ⟨_, -, h⟩ := bd h
  obtain ⟨_, -, h⟩ := bd h
  obtain ⟨_, -, h⟩ := bd h
  obtain ⟨_, -, h⟩ := bd h
  obtain ⟨_, -, h⟩ := bd h
  obtain ⟨_, -, h⟩ := bd h
  exact (congrArg Prod.snd (Option.some.inj h)).symm
set_option maxRecDepth 100000 in
set_option maxHeartbeats 4000000 in
theorem mX2_init (l : Launch) (D : va_G) (dA : Nat → ClassId) (A : Nat → Prop) {w : Fw} {z a0 : Nat} {res : Fw × Nat} (h : fX2_init w z a0 = some res) : Met l yX2_init (wz yX2_init cX2_init 1 none) (rc 1 6 192 20) (PzC D dA A w z [.ref a0]) (QzC D dA A res.1 res.2) 6 192 A := by
  refine Met.ofW (cc := cX2_init) (maxL := 1) (ret := none) (by decide) rfl ?_
  intro p e s m args below meth c s₁ B hml hv
  obtain ⟨rfl, hR, hK, hz, hA0⟩ := hv
  have hx := B.exec
  have hb := B.bytes
  have hr := B.returns
  have hts : ∀ w ∈ lw_g, w.before [Value.ref a0].toArray s = true := fun w hw => atoms_spec (ws := wz yX2_init cX2_init 1 none) B.pre w (List.mem_cons_of_mem _ hw)
  have hown : s.vm.findClass RX2 = some m.cls := findClass_of_methodNamed B.named
  have hlocks := B.notSynchronized
  have hin : meth.name = "<init>" := (name_of_methodNamed B.named B.method).1
  have hA : ∀ q, s.heap.size ≤ q → A q := fun q hq => hA0 q (hz ▸ hq)
  have hS : va_S A s.heap s.heap [] := va_S.rf
  have hl := lv_entry ([.ref a0]) (n := 1) (Nat.le_of_ble_eq_true rfl)
  rw [lg_entry_eq]
  generalize (lg_sl ([.ref a0]) ++ List.replicate (1 - (lg_sl ([.ref a0])).length) Slot.unset).toArray = ls at hl ⊢
  have hl : lv_has ls 1 [(0, .ref a0)] := hl
  unfold fX2_init at h
  show W p l e (rc 1 6 192 20) s m _ below meth c s.heap [] 0 0 _ _
  refine lv_aload_n hx hb dX2_init_0 rfl (lv_at hl 0 rfl) ?_
  refine W.objInit hx hb hown (hts _ mlo_X2) (hts _ mio) (hts _ mco) rfl (by rw [hml]; exact hl.1) rfl dX2_init_1 (Nat.le_of_ble_eq_true rfl) (Nat.le_of_ble_eq_true rfl) ?_
  refine W.eq (g2 := F0 m 4 ls []) rfl ?_
  refine lv_aload_n hx hb dX2_init_4 rfl (lv_at hl 0 rfl) ?_
  refine lv_bipush (v := 32) hx hb dX2_init_5 (by decide) ?_
  obtain ⟨w1, e, h⟩ := bd h
  refine fx_newa hx hb hts hK hR hS hz hA (N := 32) ac_int (by decide) (by decide) (by decide) e (Nat.le_of_ble_eq_true rfl) (Nat.le_of_ble_eq_true rfl) dX2_init_7 (fun H hR hS hz => ?_)
  refine W.cs (cells' := 1) (slots' := 32) rfl rfl ?_
  obtain ⟨w2, e, h⟩ := bd h
  refine fx_pf hx hb hts hown hK.1 hR hS hin fpf_X2_9 e rfl rfl dX2_init_9 (fun H locs hR hS hz1 => ?_)
  have hz := hz1.trans hz
  refine lv_aload_n hx hb dX2_init_12 rfl (lv_at hl 0 rfl) ?_
  refine lv_bipush (v := 32) hx hb dX2_init_13 (by decide) ?_
  obtain ⟨w3, e, h⟩ := bd h
  refine fx_newa hx hb hts hK hR hS hz hA (N := 32) ac_int (by decide) (by decide) (by decide) e (Nat.le_of_ble_eq_true rfl) (Nat.le_of_ble_eq_true rfl) dX2_init_15 (fun H hR hS hz => ?_)
  refine W.cs (cells' := 2) (slots' := 64) rfl rfl ?_
  obtain ⟨w4, e, h⟩ := bd h
  refine fx_pf hx hb hts hown hK.1 hR hS hin fpf_X2_15 e rfl rfl dX2_init_17 (fun H locs hR hS hz1 => ?_)
  have hz := hz1.trans hz
  refine lv_aload_n hx hb dX2_init_20 rfl (lv_at hl 0 rfl) ?_
  refine lv_bipush (v := 32) hx hb dX2_init_21 (by decide) ?_
  obtain ⟨w5, e, h⟩ := bd h
  refine fx_newa hx hb hts hK hR hS hz hA (N := 32) ac_int (by decide) (by decide) (by decide) e (Nat.le_of_ble_eq_true rfl) (Nat.le_of_ble_eq_true rfl) dX2_init_23 (fun H hR hS hz => ?_)
  refine W.cs (cells' := 3) (slots' := 96) rfl rfl ?_
  obtain ⟨w6, e, h⟩ := bd h
  refine fx_pf hx hb hts hown hK.1 hR hS hin fpf_X2_18 e rfl rfl dX2_init_25 (fun H locs hR hS hz1 => ?_)
  have hz := hz1.trans hz
  refine lv_aload_n hx hb dX2_init_28 rfl (lv_at hl 0 rfl) ?_
  refine lv_bipush (v := 32) hx hb dX2_init_29 (by decide) ?_
  obtain ⟨w7, e, h⟩ := bd h
  refine fx_newa hx hb hts hK hR hS hz hA (N := 32) ac_int (by decide) (by decide) (by decide) e (Nat.le_of_ble_eq_true rfl) (Nat.le_of_ble_eq_true rfl) dX2_init_31 (fun H hR hS hz => ?_)
  refine W.cs (cells' := 4) (slots' := 128) rfl rfl ?_
  obtain ⟨w8, e, h⟩ := bd h
  refine fx_pf hx hb hts hown hK.1 hR hS hin fpf_X2_21 e rfl rfl dX2_init_33 (fun H locs hR hS hz1 => ?_)
  have hz := hz1.trans hz
  refine lv_aload_n hx hb dX2_init_36 rfl (lv_at hl 0 rfl) ?_
  refine lv_bipush (v := 32) hx hb dX2_init_37 (by decide) ?_
  obtain ⟨w9, e, h⟩ := bd h
  refine fx_newa hx hb hts hK hR hS hz hA (N := 32) ac_int (by decide) (by decide) (by decide) e (Nat.le_of_ble_eq_true rfl) (Nat.le_of_ble_eq_true rfl) dX2_init_39 (fun H hR hS hz => ?_)
  refine W.cs (cells' := 5) (slots' := 160) rfl rfl ?_
  obtain ⟨w10, e, h⟩ := bd h
  refine fx_pf hx hb hts hown hK.1 hR hS hin fpf_X2_24 e rfl rfl dX2_init_41 (fun H locs hR hS hz1 => ?_)
  have hz := hz1.trans hz
  refine lv_aload_n hx hb dX2_init_44 rfl (lv_at hl 0 rfl) ?_
  refine lv_bipush (v := 32) hx hb dX2_init_45 (by decide) ?_
  obtain ⟨w11, e, h⟩ := bd h
  refine fx_newa hx hb hts hK hR hS hz hA (N := 32) ac_int (by decide) (by decide) (by decide) e (Nat.le_of_ble_eq_true rfl) (Nat.le_of_ble_eq_true rfl) dX2_init_47 (fun H hR hS hz => ?_)
  refine W.cs (cells' := 6) (slots' := 192) rfl rfl ?_
  obtain ⟨w12, e, h⟩ := bd h
  refine fx_pf hx hb hts hown hK.1 hR hS hin fpf_X2_27 e rfl rfl dX2_init_49 (fun H locs hR hS hz1 => ?_)
  have hz := hz1.trans hz
  exact fx_cret hx hb hr hlocks h hR hS hz dX2_init_52
def fX3_init (w : Fw) (z a0 : Nat) : Option (Fw × Nat) := ((nM w z).bind fun w1 => ((pF w1 a0 3 0 (.ref z)).bind fun w2 => ((nO w2 (z + 34) (.inl (32, fun _ => 0))).bind fun w3 => ((pF w3 a0 3 1 (.ref (z + 34))).bind fun w4 => some (w4, (z + 35))))))
theorem zX3_init {w : Fw} {z a0 : Nat} {res : Fw × Nat} (h : fX3_init w z a0 = some res) : res.2 = z + 35 := by
  unfold fX3_init at h
  obtain ⟨_, -, h⟩ := bd h
  obtain ⟨_, -, h⟩ := bd h
  obtain ⟨_, -, h⟩ := bd h
  obtain ⟨_, -, h⟩ := bd h
  exact (congrArg Prod.snd (Option.some.inj h)).symm
set_option maxRecDepth 100000 in
set_option maxHeartbeats 4000000 in
theorem mX3_init (l : Launch) (D : va_G) (dA : Nat → ClassId) (A : Nat → Prop) {w : Fw} {z a0 : Nat} {res : Fw × Nat} (h : fX3_init w z a0 = some res) : Met l yX3_init (wz yX3_init cX3_init 1 none) (rc 1 35 1154 20) (PzC D dA A w z [.ref a0]) (QzC D dA A res.1 res.2) 35 1154 A := by
  refine Met.ofW (cc := cX3_init) (maxL := 1) (ret := none) (by decide) rfl ?_
  intro p e s m args below meth c s₁ B hml hv
  obtain ⟨rfl, hR, hK, hz, hA0⟩ := hv
  have hx := B.exec
  have hb := B.bytes
  have hr := B.returns
  have hts : ∀ w ∈ lw_g, w.before [Value.ref a0].toArray s = true := fun w hw => atoms_spec (ws := wz yX3_init cX3_init 1 none) B.pre w (List.mem_cons_of_mem _ hw)
  have hown : s.vm.findClass RX3 = some m.cls := findClass_of_methodNamed B.named
  have hlocks := B.notSynchronized
  have hin : meth.name = "<init>" := (name_of_methodNamed B.named B.method).1
  have hA : ∀ q, s.heap.size ≤ q → A q := fun q hq => hA0 q (hz ▸ hq)
  have hS : va_S A s.heap s.heap [] := va_S.rf
  have hl := lv_entry ([.ref a0]) (n := 1) (Nat.le_of_ble_eq_true rfl)
  rw [lg_entry_eq]
  generalize (lg_sl ([.ref a0]) ++ List.replicate (1 - (lg_sl ([.ref a0])).length) Slot.unset).toArray = ls at hl ⊢
  have hl : lv_has ls 1 [(0, .ref a0)] := hl
  unfold fX3_init at h
  show W p l e (rc 1 35 1154 20) s m _ below meth c s.heap [] 0 0 _ _
  refine lv_aload_n hx hb dX3_init_0 rfl (lv_at hl 0 rfl) ?_
  refine W.objInit hx hb hown (hts _ mlo_X3) (hts _ mio) (hts _ mco) rfl (by rw [hml]; exact hl.1) rfl dX3_init_1 (Nat.le_of_ble_eq_true rfl) (Nat.le_of_ble_eq_true rfl) ?_
  refine W.eq (g2 := F0 m 4 ls []) rfl ?_
  refine lv_aload_n hx hb dX3_init_4 rfl (lv_at hl 0 rfl) ?_
  refine lv_bipush (v := 33) hx hb dX3_init_5 (by decide) ?_
  refine lv_bipush (v := 33) hx hb dX3_init_7 (by decide) ?_
  obtain ⟨w1, e, h⟩ := bd h
  refine fx_mna hx hb hts hown hK hR hS hz hA cl_X3_9 ac_int e (Nat.le_of_ble_eq_true rfl) (Nat.le_of_ble_eq_true rfl) dX3_init_9 (fun H locs hR hS hz => ?_)
  refine W.cs (cells' := 34) (slots' := 1122) rfl rfl ?_
  obtain ⟨w2, e, h⟩ := bd h
  refine fx_pf hx hb hts hown hK.1 hR hS hin fpf_X3_11 e rfl rfl dX3_init_13 (fun H locs hR hS hz1 => ?_)
  have hz := hz1.trans hz
  refine lv_aload_n hx hb dX3_init_16 rfl (lv_at hl 0 rfl) ?_
  refine lv_bipush (v := 32) hx hb dX3_init_17 (by decide) ?_
  obtain ⟨w3, e, h⟩ := bd h
  refine fx_newa hx hb hts hK hR hS hz hA (N := 32) ac_int (by decide) (by decide) (by decide) e (Nat.le_of_ble_eq_true rfl) (Nat.le_of_ble_eq_true rfl) dX3_init_19 (fun H hR hS hz => ?_)
  refine W.cs (cells' := 35) (slots' := 1154) rfl rfl ?_
  obtain ⟨w4, e, h⟩ := bd h
  refine fx_pf hx hb hts hown hK.1 hR hS hin fpf_X3_16 e rfl rfl dX3_init_21 (fun H locs hR hS hz1 => ?_)
  have hz := hz1.trans hz
  exact fx_cret hx hb hr hlocks h hR hS hz dX3_init_24
def fX5_init (w : Fw) (z a0 : Nat) : Option (Fw × Nat) := ((nO w z (.inl (40, fun _ => 0))).bind fun w1 => ((pF w1 a0 5 1 (.ref z)).bind fun w2 => some (w2, (z + 1))))
theorem zX5_init {w : Fw} {z a0 : Nat} {res : Fw × Nat} (h : fX5_init w z a0 = some res) : res.2 = z + 1 := by
  unfold fX5_init at h
  obtain ⟨_, -, h⟩ := bd h
  obtain ⟨_, -, h⟩ := bd h
  exact (congrArg Prod.snd (Option.some.inj h)).symm
set_option maxRecDepth 100000 in
set_option maxHeartbeats 4000000 in
theorem mX5_init (l : Launch) (D : va_G) (dA : Nat → ClassId) (A : Nat → Prop) {w : Fw} {z a0 : Nat} {res : Fw × Nat} (h : fX5_init w z a0 = some res) : Met l yX5_init (wz yX5_init cX5_init 1 none) (rc 1 1 40 20) (PzC D dA A w z [.ref a0]) (QzC D dA A res.1 res.2) 1 40 A := by
  refine Met.ofW (cc := cX5_init) (maxL := 1) (ret := none) (by decide) rfl ?_
  intro p e s m args below meth c s₁ B hml hv
  obtain ⟨rfl, hR, hK, hz, hA0⟩ := hv
  have hx := B.exec
  have hb := B.bytes
  have hr := B.returns
  have hts : ∀ w ∈ lw_g, w.before [Value.ref a0].toArray s = true := fun w hw => atoms_spec (ws := wz yX5_init cX5_init 1 none) B.pre w (List.mem_cons_of_mem _ hw)
  have hown : s.vm.findClass RX5 = some m.cls := findClass_of_methodNamed B.named
  have hlocks := B.notSynchronized
  have hin : meth.name = "<init>" := (name_of_methodNamed B.named B.method).1
  have hA : ∀ q, s.heap.size ≤ q → A q := fun q hq => hA0 q (hz ▸ hq)
  have hS : va_S A s.heap s.heap [] := va_S.rf
  have hl := lv_entry ([.ref a0]) (n := 1) (Nat.le_of_ble_eq_true rfl)
  rw [lg_entry_eq]
  generalize (lg_sl ([.ref a0]) ++ List.replicate (1 - (lg_sl ([.ref a0])).length) Slot.unset).toArray = ls at hl ⊢
  have hl : lv_has ls 1 [(0, .ref a0)] := hl
  unfold fX5_init at h
  show W p l e (rc 1 1 40 20) s m _ below meth c s.heap [] 0 0 _ _
  refine lv_aload_n hx hb dX5_init_0 rfl (lv_at hl 0 rfl) ?_
  refine W.objInit hx hb hown (hts _ mlo_X5) (hts _ mio) (hts _ mco) rfl (by rw [hml]; exact hl.1) rfl dX5_init_1 (Nat.le_of_ble_eq_true rfl) (Nat.le_of_ble_eq_true rfl) ?_
  refine W.eq (g2 := F0 m 4 ls []) rfl ?_
  refine lv_aload_n hx hb dX5_init_4 rfl (lv_at hl 0 rfl) ?_
  refine lv_bipush (v := 40) hx hb dX5_init_5 (by decide) ?_
  obtain ⟨w1, e, h⟩ := bd h
  refine fx_newa hx hb hts hK hR hS hz hA (N := 40) ac_int (by decide) (by decide) (by decide) e (Nat.le_of_ble_eq_true rfl) (Nat.le_of_ble_eq_true rfl) dX5_init_7 (fun H hR hS hz => ?_)
  refine W.cs (cells' := 1) (slots' := 40) rfl rfl ?_
  obtain ⟨w2, e, h⟩ := bd h
  refine fx_pf hx hb hts hown hK.1 hR hS hin fpf_X5_9 e rfl rfl dX5_init_9 (fun H locs hR hS hz1 => ?_)
  have hz := hz1.trans hz
  exact fx_cret hx hb hr hlocks h hR hS hz dX5_init_12
def fX4_init (w : Fw) (z a0 : Nat) : Option (Fw × Nat) := ((nO w z (.inl (32, fun _ => 0))).bind fun w1 => ((pF w1 a0 4 1 (.ref z)).bind fun w2 => ((nO w2 (z + 1) (.inl (32, fun _ => 0))).bind fun w3 => ((pF w3 a0 4 2 (.ref (z + 1))).bind fun w4 => ((nO w4 (z + 2) (.inr (.inr (2, [.int 0, .null, .null, .null, .null, .null, .null])))).bind fun w5 => ((fX2_init w5 (z + 3) (z + 2)).bind fun t6 => ((pF t6.1 a0 4 3 (.ref (z + 2))).bind fun w7 => ((nO w7 (z + 9) (.inr (.inr (2, [.int 0, .null, .null, .null, .null, .null, .null])))).bind fun w8 => ((fX2_init w8 (z + 10) (z + 9)).bind fun t9 => ((pF t9.1 a0 4 4 (.ref (z + 9))).bind fun w10 => some (w10, (z + 16))))))))))))
theorem zX4_init {w : Fw} {z a0 : Nat} {res : Fw × Nat} (h : fX4_init w z a0 = some res) : res.2 = z + 16 := by
  unfold fX4_init at h
  obtain ⟨_, -, h⟩ := bd h
  obtain ⟨_, -, h⟩ := bd h
  obtain ⟨_, -, h⟩ := bd h
  obtain ⟨_, -, h⟩ := bd h
  obtain ⟨_, -, h⟩ := bd h
  obtain ⟨_, -, h⟩ := bd h
  obtain ⟨_, -, h⟩ := bd h
  obtain ⟨_, -, h⟩ := bd h
  obtain ⟨_, -, h⟩ := bd h
  obtain ⟨_, -, h⟩ := bd h
  exact (congrArg Prod.snd (Option.some.inj h)).symm
set_option maxRecDepth 100000 in
set_option maxHeartbeats 4000000 in
theorem mX4_init (l : Launch) (D : va_G) (dA : Nat → ClassId) (A : Nat → Prop) {w : Fw} {z a0 : Nat} {res : Fw × Nat} (h : fX4_init w z a0 = some res) : Met l yX4_init (wz yX4_init cX4_init 1 none) (rc 2 16 462 40) (PzC D dA A w z [.ref a0]) (QzC D dA A res.1 res.2) 16 462 A := by
  refine Met.ofW (cc := cX4_init) (maxL := 1) (ret := none) (by decide) rfl ?_
  intro p e s m args below meth c s₁ B hml hv
  obtain ⟨rfl, hR, hK, hz, hA0⟩ := hv
  have hx := B.exec
  have hb := B.bytes
  have hr := B.returns
  have hts : ∀ w ∈ lw_g, w.before [Value.ref a0].toArray s = true := fun w hw => atoms_spec (ws := wz yX4_init cX4_init 1 none) B.pre w (List.mem_cons_of_mem _ hw)
  have hown : s.vm.findClass RX4 = some m.cls := findClass_of_methodNamed B.named
  have hlocks := B.notSynchronized
  have hin : meth.name = "<init>" := (name_of_methodNamed B.named B.method).1
  have hA : ∀ q, s.heap.size ≤ q → A q := fun q hq => hA0 q (hz ▸ hq)
  have hS : va_S A s.heap s.heap [] := va_S.rf
  have hl := lv_entry ([.ref a0]) (n := 1) (Nat.le_of_ble_eq_true rfl)
  rw [lg_entry_eq]
  generalize (lg_sl ([.ref a0]) ++ List.replicate (1 - (lg_sl ([.ref a0])).length) Slot.unset).toArray = ls at hl ⊢
  have hl : lv_has ls 1 [(0, .ref a0)] := hl
  unfold fX4_init at h
  show W p l e (rc 2 16 462 40) s m _ below meth c s.heap [] 0 0 _ _
  refine lv_aload_n hx hb dX4_init_0 rfl (lv_at hl 0 rfl) ?_
  refine W.objInit hx hb hown (hts _ mlo_X4) (hts _ mio) (hts _ mco) rfl (by rw [hml]; exact hl.1) rfl dX4_init_1 (Nat.le_of_ble_eq_true rfl) (Nat.le_of_ble_eq_true rfl) ?_
  refine W.eq (g2 := F0 m 4 ls []) rfl ?_
  refine lv_aload_n hx hb dX4_init_4 rfl (lv_at hl 0 rfl) ?_
  refine lv_bipush (v := 32) hx hb dX4_init_5 (by decide) ?_
  obtain ⟨w1, e, h⟩ := bd h
  refine fx_newa hx hb hts hK hR hS hz hA (N := 32) ac_int (by decide) (by decide) (by decide) e (Nat.le_of_ble_eq_true rfl) (Nat.le_of_ble_eq_true rfl) dX4_init_7 (fun H hR hS hz => ?_)
  refine W.cs (cells' := 1) (slots' := 32) rfl rfl ?_
  obtain ⟨w2, e, h⟩ := bd h
  refine fx_pf hx hb hts hown hK.1 hR hS hin fpf_X4_9 e rfl rfl dX4_init_9 (fun H locs hR hS hz1 => ?_)
  have hz := hz1.trans hz
  refine lv_aload_n hx hb dX4_init_12 rfl (lv_at hl 0 rfl) ?_
  refine lv_bipush (v := 32) hx hb dX4_init_13 (by decide) ?_
  obtain ⟨w3, e, h⟩ := bd h
  refine fx_newa hx hb hts hK hR hS hz hA (N := 32) ac_int (by decide) (by decide) (by decide) e (Nat.le_of_ble_eq_true rfl) (Nat.le_of_ble_eq_true rfl) dX4_init_15 (fun H hR hS hz => ?_)
  refine W.cs (cells' := 2) (slots' := 64) rfl rfl ?_
  obtain ⟨w4, e, h⟩ := bd h
  refine fx_pf hx hb hts hown hK.1 hR hS hin fpf_X4_15 e rfl rfl dX4_init_17 (fun H locs hR hS hz1 => ?_)
  have hz := hz1.trans hz
  refine lv_aload_n hx hb dX4_init_20 rfl (lv_at hl 0 rfl) ?_
  obtain ⟨w5, e, h⟩ := bd h
  refine fx_new hx hb hts hown hK hR hS hz hA cn_X4_18 e (Nat.le_of_ble_eq_true rfl) (Nat.le_of_ble_eq_true rfl) dX4_init_21 (fun H hR hS hz => ?_)
  refine W.cs (cells' := 3) (slots' := 71) rfl rfl ?_
  refine lv_dup hx hb dX4_init_24 rfl ?_
  obtain ⟨t6, e, h⟩ := bd h
  refine fx_iN (rest := [.ref (z + 2), .ref a0]) hx hb hml hts hown hK hR hS hz hA (mX2_init l D dA A e) my_X2_init rfl mi_X2_init (List.mem_of_getElem? (i := 1) rfl) hl.1 rfl (Nat.le_of_ble_eq_true rfl) dX4_init_25 ⟨Nat.le_of_ble_eq_true rfl, Nat.le_of_ble_eq_true rfl⟩ ⟨Nat.le_of_ble_eq_true rfl, Nat.le_of_ble_eq_true rfl⟩ (fun H locs hR hS hz => ?_)
  have hz : H.size = z + 9 := hz.trans ((zX2_init e).trans (by omega))
  refine W.cs (cells' := 9) (slots' := 263) rfl rfl ?_
  obtain ⟨w7, e, h⟩ := bd h
  refine fx_pz hx hb hts hown hK.1 hR hS fpc_X4_21 e rfl rfl dX4_init_28 (fun H locs hR hS hz1 => ?_)
  have hz := hz1.trans hz
  refine lv_aload_n hx hb dX4_init_31 rfl (lv_at hl 0 rfl) ?_
  obtain ⟨w8, e, h⟩ := bd h
  refine fx_new hx hb hts hown hK hR hS hz hA cn_X4_18 e (Nat.le_of_ble_eq_true rfl) (Nat.le_of_ble_eq_true rfl) dX4_init_32 (fun H hR hS hz => ?_)
  refine W.cs (cells' := 10) (slots' := 270) rfl rfl ?_
  refine lv_dup hx hb dX4_init_35 rfl ?_
  obtain ⟨t9, e, h⟩ := bd h
  refine fx_iN (rest := [.ref (z + 9), .ref a0]) hx hb hml hts hown hK hR hS hz hA (mX2_init l D dA A e) my_X2_init rfl mi_X2_init (List.mem_of_getElem? (i := 1) rfl) hl.1 rfl (Nat.le_of_ble_eq_true rfl) dX4_init_36 ⟨Nat.le_of_ble_eq_true rfl, Nat.le_of_ble_eq_true rfl⟩ ⟨Nat.le_of_ble_eq_true rfl, Nat.le_of_ble_eq_true rfl⟩ (fun H locs hR hS hz => ?_)
  have hz : H.size = z + 16 := hz.trans ((zX2_init e).trans (by omega))
  refine W.cs (cells' := 16) (slots' := 462) rfl rfl ?_
  obtain ⟨w10, e, h⟩ := bd h
  refine fx_pz hx hb hts hown hK.1 hR hS fpc_X4_25 e rfl rfl dX4_init_39 (fun H locs hR hS hz1 => ?_)
  have hz := hz1.trans hz
  exact fx_cret hx hb hr hlocks h hR hS hz dX4_init_42
def fX6_init (w : Fw) (z a0 : Nat) : Option (Fw × Nat) := ((nO w z (.inr (.inl (0, 6, fun _ => none)))).bind fun w1 => ((pF w1 a0 6 0 (.ref z)).bind fun w2 => ((gR w2 a0 6 0).bind fun r3 => ((nO w2 (z + 1) (.inr (.inr (4, [.int 0, .null, .null, .null, .null])))).bind fun w4 => ((fX4_init w4 (z + 2) (z + 1)).bind fun t5 => ((isO t5.1 (z + 1) 4).bind fun _ => (aS t5.1 0 r3 0 (z + 1)).bind fun w6 => ((gR w6 a0 6 0).bind fun r7 => ((nO w6 (z + 18) (.inr (.inr (4, [.int 0, .null, .null, .null, .null])))).bind fun w8 => ((fX4_init w8 (z + 19) (z + 18)).bind fun t9 => ((isO t9.1 (z + 18) 4).bind fun _ => (aS t9.1 0 r7 1 (z + 18)).bind fun w10 => ((gR w10 a0 6 0).bind fun r11 => ((nO w10 (z + 35) (.inr (.inr (4, [.int 0, .null, .null, .null, .null])))).bind fun w12 => ((fX4_init w12 (z + 36) (z + 35)).bind fun t13 => ((isO t13.1 (z + 35) 4).bind fun _ => (aS t13.1 0 r11 2 (z + 35)).bind fun w14 => ((gR w14 a0 6 0).bind fun r15 => ((nO w14 (z + 52) (.inr (.inr (4, [.int 0, .null, .null, .null, .null])))).bind fun w16 => ((fX4_init w16 (z + 53) (z + 52)).bind fun t17 => ((isO t17.1 (z + 52) 4).bind fun _ => (aS t17.1 0 r15 3 (z + 52)).bind fun w18 => ((gR w18 a0 6 0).bind fun r19 => ((nO w18 (z + 69) (.inr (.inr (4, [.int 0, .null, .null, .null, .null])))).bind fun w20 => ((fX4_init w20 (z + 70) (z + 69)).bind fun t21 => ((isO t21.1 (z + 69) 4).bind fun _ => (aS t21.1 0 r19 4 (z + 69)).bind fun w22 => ((gR w22 a0 6 0).bind fun r23 => ((nO w22 (z + 86) (.inr (.inr (4, [.int 0, .null, .null, .null, .null])))).bind fun w24 => ((fX4_init w24 (z + 87) (z + 86)).bind fun t25 => ((isO t25.1 (z + 86) 4).bind fun _ => (aS t25.1 0 r23 5 (z + 86)).bind fun w26 => ((nO w26 (z + 103) (.inr (.inr (5, [.int 0, .null])))).bind fun w27 => ((fX5_init w27 (z + 104) (z + 103)).bind fun t28 => ((pF t28.1 a0 6 1 (.ref (z + 103))).bind fun w29 => ((nO w29 (z + 105) (.inr (.inr (3, [.null, .null])))).bind fun w30 => ((fX3_init w30 (z + 106) (z + 105)).bind fun t31 => ((pF t31.1 a0 6 2 (.ref (z + 105))).bind fun w32 => ((nO w32 (z + 141) (.inr (.inr (0, [.null, .null])))).bind fun w33 => ((fX0_init w33 (z + 142) (z + 141)).bind fun t34 => ((pF t34.1 a0 6 3 (.ref (z + 141))).bind fun w35 => ((nO w35 (z + 144) (.inr (.inr (1, [.int 0, .int 0, .null, .null, .null, .null])))).bind fun w36 => ((fX1_init w36 (z + 145) (z + 144)).bind fun t37 => ((pF t37.1 a0 6 4 (.ref (z + 144))).bind fun w38 => some (w38, (z + 149))))))))))))))))))))))))))))))))))))))))
theorem zX6_init {w : Fw} {z a0 : Nat} {res : Fw × Nat} (h : fX6_init w z a0 = some res) : res.2 = z + 149 := by
  unfold fX6_init at h
  obtain ⟨_, -, h⟩ := bd h
  obtain ⟨_, -, h⟩ := bd h
  obtain ⟨_, -, h⟩ := bd h
  obtain ⟨_, -, h⟩ := bd h
  obtain ⟨_, -, h⟩ := bd h
  obtain ⟨_, -, h⟩ := bd h
  obtain ⟨_, -, h⟩ := bd h
  obtain ⟨_, -, h⟩ := bd h
  obtain ⟨_, -, h⟩ := bd h
  obtain ⟨_, -, h⟩ := bd h
  obtain ⟨_, -, h⟩ := bd h
  obtain ⟨_, -, h⟩ := bd h
  obtain ⟨_, -, h⟩ := bd h
  obtain ⟨_, -, h⟩ := bd h
  obtain ⟨_, -, h⟩ := bd h
  obtain ⟨_, -, h⟩ := bd h
  obtain ⟨_, -, h⟩ := bd h
  obtain ⟨_, -, h⟩ := bd h
  obtain ⟨_, -, h⟩ := bd h
  obtain ⟨_, -, h⟩ := bd h
  obtain ⟨_, -, h⟩ := bd h
  obtain ⟨_, -, h⟩ := bd h
  obtain ⟨_, -, h⟩ := bd h
  obtain ⟨_, -, h⟩ := bd h
  obtain ⟨_, -, h⟩ := bd h
  obtain ⟨_, -, h⟩ := bd h
  obtain ⟨_, -, h⟩ := bd h
  obtain ⟨_, -, h⟩ := bd h
  obtain ⟨_, -, h⟩ := bd h
  obtain ⟨_, -, h⟩ := bd h
  obtain ⟨_, -, h⟩ := bd h
  obtain ⟨_, -, h⟩ := bd h
  obtain ⟨_, -, h⟩ := bd h
  obtain ⟨_, -, h⟩ := bd h
  obtain ⟨_, -, h⟩ := bd h
  obtain ⟨_, -, h⟩ := bd h
  obtain ⟨_, -, h⟩ := bd h
  obtain ⟨_, -, h⟩ := bd h
  obtain ⟨_, -, h⟩ := bd h
  obtain ⟨_, -, h⟩ := bd h
  obtain ⟨_, -, h⟩ := bd h
  obtain ⟨_, -, h⟩ := bd h
  obtain ⟨_, -, h⟩ := bd h
  obtain ⟨_, -, h⟩ := bd h
  exact (congrArg Prod.snd (Option.some.inj h)).symm
set_option maxRecDepth 100000 in
set_option maxHeartbeats 4000000 in
theorem mX6_init (l : Launch) (D : va_G) (dA : Nat → ClassId) (A : Nat → Prop) {w : Fw} {z a0 : Nat} {res : Fw × Nat} (h : fX6_init w z a0 = some res) : Met l yX6_init (wz yX6_init cX6_init 2 none) (rc 3 149 4291 60) (PzC D dA A w z [.ref a0]) (QzC D dA A res.1 res.2) 149 4291 A := by
  refine Met.ofW (cc := cX6_init) (maxL := 2) (ret := none) (by decide) rfl ?_
  intro p e s m args below meth c s₁ B hml hv
  obtain ⟨rfl, hR, hK, hz, hA0⟩ := hv
  have hx := B.exec
  have hb := B.bytes
  have hr := B.returns
  have hts : ∀ w ∈ lw_g, w.before [Value.ref a0].toArray s = true := fun w hw => atoms_spec (ws := wz yX6_init cX6_init 2 none) B.pre w (List.mem_cons_of_mem _ hw)
  have hown : s.vm.findClass RX6 = some m.cls := findClass_of_methodNamed B.named
  have hlocks := B.notSynchronized
  have hin : meth.name = "<init>" := (name_of_methodNamed B.named B.method).1
  have hA : ∀ q, s.heap.size ≤ q → A q := fun q hq => hA0 q (hz ▸ hq)
  have hS : va_S A s.heap s.heap [] := va_S.rf
  have hl := lv_entry ([.ref a0]) (n := 2) (Nat.le_of_ble_eq_true rfl)
  rw [lg_entry_eq]
  generalize (lg_sl ([.ref a0]) ++ List.replicate (2 - (lg_sl ([.ref a0])).length) Slot.unset).toArray = ls at hl ⊢
  have hl : lv_has ls 2 [(0, .ref a0)] := hl
  unfold fX6_init at h
  show W p l e (rc 3 149 4291 60) s m _ below meth c s.heap [] 0 0 _ _
  refine lv_aload_n hx hb dX6_init_0 rfl (lv_at hl 0 rfl) ?_
  refine W.objInit hx hb hown (hts _ mlo_X6) (hts _ mio) (hts _ mco) rfl (by rw [hml]; exact hl.1) rfl dX6_init_1 (Nat.le_of_ble_eq_true rfl) (Nat.le_of_ble_eq_true rfl) ?_
  refine W.eq (g2 := F0 m 4 ls []) rfl ?_
  refine lv_aload_n hx hb dX6_init_4 rfl (lv_at hl 0 rfl) ?_
  refine lv_bipush (v := 6) hx hb dX6_init_5 (by decide) ?_
  obtain ⟨w1, e, h⟩ := bd h
  refine fx_anew hx hb hts hown hK hR hS hz hA (N := 6) cl_X6_9 (by decide) (by decide) (by decide) e (Nat.le_of_ble_eq_true rfl) (Nat.le_of_ble_eq_true rfl) dX6_init_7 (fun H hR hS hz => ?_)
  refine W.cs (cells' := 1) (slots' := 6) rfl rfl ?_
  obtain ⟨w2, e, h⟩ := bd h
  refine fx_pf hx hb hts hown hK.1 hR hS hin fpf_X6_11 e rfl rfl dX6_init_10 (fun H locs hR hS hz1 => ?_)
  have hz := hz1.trans hz
  refine lv_iconst (v := 0) hx hb dX6_init_13 (by decide) ?_
  refine lv_istore_n (lv' := [(1, .int 0), (0, .ref a0)]) hx hb dX6_init_14 rfl hl (by decide) rfl (fun ls hl => ?_)
  refine lv_iload_n hx hb dX6_init_15 rfl (lv_at hl 0 rfl) ?_
  refine lv_bipush (v := 6) hx hb dX6_init_16 (by decide) ?_
  refine lv_icmp_ge (tgt := 40) hx hb dX6_init_18 (by decide) (fun c => absurd c (by decide)) (fun _ => ?_)
  refine lv_aload_n hx hb dX6_init_21 rfl (lv_at hl 1 rfl) ?_
  obtain ⟨r3, e, h⟩ := bd h
  refine fx_gR hx hb hts hown hK.1 hR flc_X6_11 e dX6_init_22 ?_
  refine lv_iload_n hx hb dX6_init_25 rfl (lv_at hl 0 rfl) ?_
  obtain ⟨w4, e, h⟩ := bd h
  refine fx_new hx hb hts hown hK hR hS hz hA cn_X6_9 e (Nat.le_of_ble_eq_true rfl) (Nat.le_of_ble_eq_true rfl) dX6_init_26 (fun H hR hS hz => ?_)
  refine W.cs (cells' := 2) (slots' := 11) rfl rfl ?_
  refine lv_dup hx hb dX6_init_29 rfl ?_
  obtain ⟨t5, e, h⟩ := bd h
  refine fx_iN (rest := [.ref (z + 1), .int 0, .ref r3]) hx hb hml hts hown hK hR hS hz hA (mX4_init l D dA A e) my_X4_init rfl mi_X4_init (List.mem_of_getElem? (i := 0) rfl) hl.1 rfl (Nat.le_of_ble_eq_true rfl) dX6_init_30 ⟨Nat.le_of_ble_eq_true rfl, Nat.le_of_ble_eq_true rfl⟩ ⟨Nat.le_of_ble_eq_true rfl, Nat.le_of_ble_eq_true rfl⟩ (fun H locs hR hS hz => ?_)
  have hz : H.size = z + 18 := hz.trans ((zX4_init e).trans (by omega))
  refine W.cs (cells' := 18) (slots' := 473) rfl rfl ?_
  obtain ⟨_, eO, h⟩ := bd h
  obtain ⟨w6, e, h⟩ := bd h
  refine fx_aS hx hb hK.1 hR hS eO e dX6_init_33 (fun H locs hR hS hz1 => ?_)
  have hz := hz1.trans hz
  refine lv_iinc (v := 1) (lv' := [(1, .int 1), (0, .ref a0)]) hx hb dX6_init_34 hl (k := 0) rfl (by decide) (by decide) rfl (fun ls hl => ?_)
  refine lv_goto (tgt := 15) hx hb dX6_init_37 (by decide) ?_
  refine lv_iload_n hx hb dX6_init_15 rfl (lv_at hl 0 rfl) ?_
  refine lv_bipush (v := 6) hx hb dX6_init_16 (by decide) ?_
  refine lv_icmp_ge (tgt := 40) hx hb dX6_init_18 (by decide) (fun c => absurd c (by decide)) (fun _ => ?_)
  refine lv_aload_n hx hb dX6_init_21 rfl (lv_at hl 1 rfl) ?_
  obtain ⟨r7, e, h⟩ := bd h
  refine fx_gR hx hb hts hown hK.1 hR flc_X6_11 e dX6_init_22 ?_
  refine lv_iload_n hx hb dX6_init_25 rfl (lv_at hl 0 rfl) ?_
  obtain ⟨w8, e, h⟩ := bd h
  refine fx_new hx hb hts hown hK hR hS hz hA cn_X6_9 e (Nat.le_of_ble_eq_true rfl) (Nat.le_of_ble_eq_true rfl) dX6_init_26 (fun H hR hS hz => ?_)
  refine W.cs (cells' := 19) (slots' := 478) rfl rfl ?_
  refine lv_dup hx hb dX6_init_29 rfl ?_
  obtain ⟨t9, e, h⟩ := bd h
  refine fx_iN (rest := [.ref (z + 18), .int 1, .ref r7]) hx hb hml hts hown hK hR hS hz hA (mX4_init l D dA A e) my_X4_init rfl mi_X4_init (List.mem_of_getElem? (i := 0) rfl) hl.1 rfl (Nat.le_of_ble_eq_true rfl) dX6_init_30 ⟨Nat.le_of_ble_eq_true rfl, Nat.le_of_ble_eq_true rfl⟩ ⟨Nat.le_of_ble_eq_true rfl, Nat.le_of_ble_eq_true rfl⟩ (fun H locs hR hS hz => ?_)
  have hz : H.size = z + 35 := hz.trans ((zX4_init e).trans (by omega))
  refine W.cs (cells' := 35) (slots' := 940) rfl rfl ?_
  obtain ⟨_, eO, h⟩ := bd h
  obtain ⟨w10, e, h⟩ := bd h
  refine fx_aS hx hb hK.1 hR hS eO e dX6_init_33 (fun H locs hR hS hz1 => ?_)
  have hz := hz1.trans hz
  refine lv_iinc (v := 2) (lv' := [(1, .int 2), (0, .ref a0)]) hx hb dX6_init_34 hl (k := 0) rfl (by decide) (by decide) rfl (fun ls hl => ?_)
  refine lv_goto (tgt := 15) hx hb dX6_init_37 (by decide) ?_
  refine lv_iload_n hx hb dX6_init_15 rfl (lv_at hl 0 rfl) ?_
  refine lv_bipush (v := 6) hx hb dX6_init_16 (by decide) ?_
  refine lv_icmp_ge (tgt := 40) hx hb dX6_init_18 (by decide) (fun c => absurd c (by decide)) (fun _ => ?_)
  refine lv_aload_n hx hb dX6_init_21 rfl (lv_at hl 1 rfl) ?_
  obtain ⟨r11, e, h⟩ := bd h
  refine fx_gR hx hb hts hown hK.1 hR flc_X6_11 e dX6_init_22 ?_
  refine lv_iload_n hx hb dX6_init_25 rfl (lv_at hl 0 rfl) ?_
  obtain ⟨w12, e, h⟩ := bd h
  refine fx_new hx hb hts hown hK hR hS hz hA cn_X6_9 e (Nat.le_of_ble_eq_true rfl) (Nat.le_of_ble_eq_true rfl) dX6_init_26 (fun H hR hS hz => ?_)
  refine W.cs (cells' := 36) (slots' := 945) rfl rfl ?_
  refine lv_dup hx hb dX6_init_29 rfl ?_
  obtain ⟨t13, e, h⟩ := bd h
  refine fx_iN (rest := [.ref (z + 35), .int 2, .ref r11]) hx hb hml hts hown hK hR hS hz hA (mX4_init l D dA A e) my_X4_init rfl mi_X4_init (List.mem_of_getElem? (i := 0) rfl) hl.1 rfl (Nat.le_of_ble_eq_true rfl) dX6_init_30 ⟨Nat.le_of_ble_eq_true rfl, Nat.le_of_ble_eq_true rfl⟩ ⟨Nat.le_of_ble_eq_true rfl, Nat.le_of_ble_eq_true rfl⟩ (fun H locs hR hS hz => ?_)
  have hz : H.size = z + 52 := hz.trans ((zX4_init e).trans (by omega))
  refine W.cs (cells' := 52) (slots' := 1407) rfl rfl ?_
  obtain ⟨_, eO, h⟩ := bd h
  obtain ⟨w14, e, h⟩ := bd h
  refine fx_aS hx hb hK.1 hR hS eO e dX6_init_33 (fun H locs hR hS hz1 => ?_)
  have hz := hz1.trans hz
  refine lv_iinc (v := 3) (lv' := [(1, .int 3), (0, .ref a0)]) hx hb dX6_init_34 hl (k := 0) rfl (by decide) (by decide) rfl (fun ls hl => ?_)
  refine lv_goto (tgt := 15) hx hb dX6_init_37 (by decide) ?_
  refine lv_iload_n hx hb dX6_init_15 rfl (lv_at hl 0 rfl) ?_
  refine lv_bipush (v := 6) hx hb dX6_init_16 (by decide) ?_
  refine lv_icmp_ge (tgt := 40) hx hb dX6_init_18 (by decide) (fun c => absurd c (by decide)) (fun _ => ?_)
  refine lv_aload_n hx hb dX6_init_21 rfl (lv_at hl 1 rfl) ?_
  obtain ⟨r15, e, h⟩ := bd h
  refine fx_gR hx hb hts hown hK.1 hR flc_X6_11 e dX6_init_22 ?_
  refine lv_iload_n hx hb dX6_init_25 rfl (lv_at hl 0 rfl) ?_
  obtain ⟨w16, e, h⟩ := bd h
  refine fx_new hx hb hts hown hK hR hS hz hA cn_X6_9 e (Nat.le_of_ble_eq_true rfl) (Nat.le_of_ble_eq_true rfl) dX6_init_26 (fun H hR hS hz => ?_)
  refine W.cs (cells' := 53) (slots' := 1412) rfl rfl ?_
  refine lv_dup hx hb dX6_init_29 rfl ?_
  obtain ⟨t17, e, h⟩ := bd h
  refine fx_iN (rest := [.ref (z + 52), .int 3, .ref r15]) hx hb hml hts hown hK hR hS hz hA (mX4_init l D dA A e) my_X4_init rfl mi_X4_init (List.mem_of_getElem? (i := 0) rfl) hl.1 rfl (Nat.le_of_ble_eq_true rfl) dX6_init_30 ⟨Nat.le_of_ble_eq_true rfl, Nat.le_of_ble_eq_true rfl⟩ ⟨Nat.le_of_ble_eq_true rfl, Nat.le_of_ble_eq_true rfl⟩ (fun H locs hR hS hz => ?_)
  have hz : H.size = z + 69 := hz.trans ((zX4_init e).trans (by omega))
  refine W.cs (cells' := 69) (slots' := 1874) rfl rfl ?_
  obtain ⟨_, eO, h⟩ := bd h
  obtain ⟨w18, e, h⟩ := bd h
  refine fx_aS hx hb hK.1 hR hS eO e dX6_init_33 (fun H locs hR hS hz1 => ?_)
  have hz := hz1.trans hz
  refine lv_iinc (v := 4) (lv' := [(1, .int 4), (0, .ref a0)]) hx hb dX6_init_34 hl (k := 0) rfl (by decide) (by decide) rfl (fun ls hl => ?_)
  refine lv_goto (tgt := 15) hx hb dX6_init_37 (by decide) ?_
  refine lv_iload_n hx hb dX6_init_15 rfl (lv_at hl 0 rfl) ?_
  refine lv_bipush (v := 6) hx hb dX6_init_16 (by decide) ?_
  refine lv_icmp_ge (tgt := 40) hx hb dX6_init_18 (by decide) (fun c => absurd c (by decide)) (fun _ => ?_)
  refine lv_aload_n hx hb dX6_init_21 rfl (lv_at hl 1 rfl) ?_
  obtain ⟨r19, e, h⟩ := bd h
  refine fx_gR hx hb hts hown hK.1 hR flc_X6_11 e dX6_init_22 ?_
  refine lv_iload_n hx hb dX6_init_25 rfl (lv_at hl 0 rfl) ?_
  obtain ⟨w20, e, h⟩ := bd h
  refine fx_new hx hb hts hown hK hR hS hz hA cn_X6_9 e (Nat.le_of_ble_eq_true rfl) (Nat.le_of_ble_eq_true rfl) dX6_init_26 (fun H hR hS hz => ?_)
  refine W.cs (cells' := 70) (slots' := 1879) rfl rfl ?_
  refine lv_dup hx hb dX6_init_29 rfl ?_
  obtain ⟨t21, e, h⟩ := bd h
  refine fx_iN (rest := [.ref (z + 69), .int 4, .ref r19]) hx hb hml hts hown hK hR hS hz hA (mX4_init l D dA A e) my_X4_init rfl mi_X4_init (List.mem_of_getElem? (i := 0) rfl) hl.1 rfl (Nat.le_of_ble_eq_true rfl) dX6_init_30 ⟨Nat.le_of_ble_eq_true rfl, Nat.le_of_ble_eq_true rfl⟩ ⟨Nat.le_of_ble_eq_true rfl, Nat.le_of_ble_eq_true rfl⟩ (fun H locs hR hS hz => ?_)
  have hz : H.size = z + 86 := hz.trans ((zX4_init e).trans (by omega))
  refine W.cs (cells' := 86) (slots' := 2341) rfl rfl ?_
  obtain ⟨_, eO, h⟩ := bd h
  obtain ⟨w22, e, h⟩ := bd h
  refine fx_aS hx hb hK.1 hR hS eO e dX6_init_33 (fun H locs hR hS hz1 => ?_)
  have hz := hz1.trans hz
  refine lv_iinc (v := 5) (lv' := [(1, .int 5), (0, .ref a0)]) hx hb dX6_init_34 hl (k := 0) rfl (by decide) (by decide) rfl (fun ls hl => ?_)
  refine lv_goto (tgt := 15) hx hb dX6_init_37 (by decide) ?_
  refine lv_iload_n hx hb dX6_init_15 rfl (lv_at hl 0 rfl) ?_
  refine lv_bipush (v := 6) hx hb dX6_init_16 (by decide) ?_
  refine lv_icmp_ge (tgt := 40) hx hb dX6_init_18 (by decide) (fun c => absurd c (by decide)) (fun _ => ?_)
  refine lv_aload_n hx hb dX6_init_21 rfl (lv_at hl 1 rfl) ?_
  obtain ⟨r23, e, h⟩ := bd h
  refine fx_gR hx hb hts hown hK.1 hR flc_X6_11 e dX6_init_22 ?_
  refine lv_iload_n hx hb dX6_init_25 rfl (lv_at hl 0 rfl) ?_
  obtain ⟨w24, e, h⟩ := bd h
  refine fx_new hx hb hts hown hK hR hS hz hA cn_X6_9 e (Nat.le_of_ble_eq_true rfl) (Nat.le_of_ble_eq_true rfl) dX6_init_26 (fun H hR hS hz => ?_)
  refine W.cs (cells' := 87) (slots' := 2346) rfl rfl ?_
  refine lv_dup hx hb dX6_init_29 rfl ?_
  obtain ⟨t25, e, h⟩ := bd h
  refine fx_iN (rest := [.ref (z + 86), .int 5, .ref r23]) hx hb hml hts hown hK hR hS hz hA (mX4_init l D dA A e) my_X4_init rfl mi_X4_init (List.mem_of_getElem? (i := 0) rfl) hl.1 rfl (Nat.le_of_ble_eq_true rfl) dX6_init_30 ⟨Nat.le_of_ble_eq_true rfl, Nat.le_of_ble_eq_true rfl⟩ ⟨Nat.le_of_ble_eq_true rfl, Nat.le_of_ble_eq_true rfl⟩ (fun H locs hR hS hz => ?_)
  have hz : H.size = z + 103 := hz.trans ((zX4_init e).trans (by omega))
  refine W.cs (cells' := 103) (slots' := 2808) rfl rfl ?_
  obtain ⟨_, eO, h⟩ := bd h
  obtain ⟨w26, e, h⟩ := bd h
  refine fx_aS hx hb hK.1 hR hS eO e dX6_init_33 (fun H locs hR hS hz1 => ?_)
  have hz := hz1.trans hz
  refine lv_iinc (v := 6) (lv' := [(1, .int 6), (0, .ref a0)]) hx hb dX6_init_34 hl (k := 0) rfl (by decide) (by decide) rfl (fun ls hl => ?_)
  refine lv_goto (tgt := 15) hx hb dX6_init_37 (by decide) ?_
  refine lv_iload_n hx hb dX6_init_15 rfl (lv_at hl 0 rfl) ?_
  refine lv_bipush (v := 6) hx hb dX6_init_16 (by decide) ?_
  refine lv_icmp_ge (tgt := 40) hx hb dX6_init_18 (by decide) (fun _ => ?_) (fun c => absurd (by decide) c)
  refine lv_aload_n hx hb dX6_init_40 rfl (lv_at hl 1 rfl) ?_
  obtain ⟨w27, e, h⟩ := bd h
  refine fx_new hx hb hts hown hK hR hS hz hA cn_X6_16 e (Nat.le_of_ble_eq_true rfl) (Nat.le_of_ble_eq_true rfl) dX6_init_41 (fun H hR hS hz => ?_)
  refine W.cs (cells' := 104) (slots' := 2810) rfl rfl ?_
  refine lv_dup hx hb dX6_init_44 rfl ?_
  obtain ⟨t28, e, h⟩ := bd h
  refine fx_iN (rest := [.ref (z + 103), .ref a0]) hx hb hml hts hown hK hR hS hz hA (mX5_init l D dA A e) my_X5_init rfl mi_X5_init (List.mem_of_getElem? (i := 2) rfl) hl.1 rfl (Nat.le_of_ble_eq_true rfl) dX6_init_45 ⟨Nat.le_of_ble_eq_true rfl, Nat.le_of_ble_eq_true rfl⟩ ⟨Nat.le_of_ble_eq_true rfl, Nat.le_of_ble_eq_true rfl⟩ (fun H locs hR hS hz => ?_)
  have hz : H.size = z + 105 := hz.trans ((zX5_init e).trans (by omega))
  refine W.cs (cells' := 105) (slots' := 2850) rfl rfl ?_
  obtain ⟨w29, e, h⟩ := bd h
  refine fx_pf hx hb hts hown hK.1 hR hS hin fpf_X6_19 e rfl rfl dX6_init_48 (fun H locs hR hS hz1 => ?_)
  have hz := hz1.trans hz
  refine lv_aload_n hx hb dX6_init_51 rfl (lv_at hl 1 rfl) ?_
  obtain ⟨w30, e, h⟩ := bd h
  refine fx_new hx hb hts hown hK hR hS hz hA cn_X6_23 e (Nat.le_of_ble_eq_true rfl) (Nat.le_of_ble_eq_true rfl) dX6_init_52 (fun H hR hS hz => ?_)
  refine W.cs (cells' := 106) (slots' := 2852) rfl rfl ?_
  refine lv_dup hx hb dX6_init_55 rfl ?_
  obtain ⟨t31, e, h⟩ := bd h
  refine fx_iN (rest := [.ref (z + 105), .ref a0]) hx hb hml hts hown hK hR hS hz hA (mX3_init l D dA A e) my_X3_init rfl mi_X3_init (List.mem_of_getElem? (i := 3) rfl) hl.1 rfl (Nat.le_of_ble_eq_true rfl) dX6_init_56 ⟨Nat.le_of_ble_eq_true rfl, Nat.le_of_ble_eq_true rfl⟩ ⟨Nat.le_of_ble_eq_true rfl, Nat.le_of_ble_eq_true rfl⟩ (fun H locs hR hS hz => ?_)
  have hz : H.size = z + 141 := hz.trans ((zX3_init e).trans (by omega))
  refine W.cs (cells' := 141) (slots' := 4006) rfl rfl ?_
  obtain ⟨w32, e, h⟩ := bd h
  refine fx_pf hx hb hts hown hK.1 hR hS hin fpf_X6_26 e rfl rfl dX6_init_59 (fun H locs hR hS hz1 => ?_)
  have hz := hz1.trans hz
  refine lv_aload_n hx hb dX6_init_62 rfl (lv_at hl 1 rfl) ?_
  obtain ⟨w33, e, h⟩ := bd h
  refine fx_new hx hb hts hown hK hR hS hz hA cn_X6_30 e (Nat.le_of_ble_eq_true rfl) (Nat.le_of_ble_eq_true rfl) dX6_init_63 (fun H hR hS hz => ?_)
  refine W.cs (cells' := 142) (slots' := 4008) rfl rfl ?_
  refine lv_dup hx hb dX6_init_66 rfl ?_
  obtain ⟨t34, e, h⟩ := bd h
  refine fx_iN (rest := [.ref (z + 141), .ref a0]) hx hb hml hts hown hK hR hS hz hA (mX0_init l D dA A e) my_X0_init rfl mi_X0_init (List.mem_of_getElem? (i := 4) rfl) hl.1 rfl (Nat.le_of_ble_eq_true rfl) dX6_init_67 ⟨Nat.le_of_ble_eq_true rfl, Nat.le_of_ble_eq_true rfl⟩ ⟨Nat.le_of_ble_eq_true rfl, Nat.le_of_ble_eq_true rfl⟩ (fun H locs hR hS hz => ?_)
  have hz : H.size = z + 144 := hz.trans ((zX0_init e).trans (by omega))
  refine W.cs (cells' := 144) (slots' := 4045) rfl rfl ?_
  obtain ⟨w35, e, h⟩ := bd h
  refine fx_pf hx hb hts hown hK.1 hR hS hin fpf_X6_33 e rfl rfl dX6_init_70 (fun H locs hR hS hz1 => ?_)
  have hz := hz1.trans hz
  refine lv_aload_n hx hb dX6_init_73 rfl (lv_at hl 1 rfl) ?_
  obtain ⟨w36, e, h⟩ := bd h
  refine fx_new hx hb hts hown hK hR hS hz hA cn_X6_37 e (Nat.le_of_ble_eq_true rfl) (Nat.le_of_ble_eq_true rfl) dX6_init_74 (fun H hR hS hz => ?_)
  refine W.cs (cells' := 145) (slots' := 4051) rfl rfl ?_
  refine lv_dup hx hb dX6_init_77 rfl ?_
  obtain ⟨t37, e, h⟩ := bd h
  refine fx_iN (rest := [.ref (z + 144), .ref a0]) hx hb hml hts hown hK hR hS hz hA (mX1_init l D dA A e) my_X1_init rfl mi_X1_init (List.mem_of_getElem? (i := 5) rfl) hl.1 rfl (Nat.le_of_ble_eq_true rfl) dX6_init_78 ⟨Nat.le_of_ble_eq_true rfl, Nat.le_of_ble_eq_true rfl⟩ ⟨Nat.le_of_ble_eq_true rfl, Nat.le_of_ble_eq_true rfl⟩ (fun H locs hR hS hz => ?_)
  have hz : H.size = z + 149 := hz.trans ((zX1_init e).trans (by omega))
  refine W.cs (cells' := 149) (slots' := 4291) rfl rfl ?_
  obtain ⟨w38, e, h⟩ := bd h
  refine fx_pf hx hb hts hown hK.1 hR hS hin fpf_X6_40 e rfl rfl dX6_init_81 (fun H locs hR hS hz1 => ?_)
  have hz := hz1.trans hz
  exact fx_cret hx hb hr hlocks h hR hS hz dX6_init_84
def fX7_init (w : Fw) (z a0 : Nat) : Option (Fw × Nat) := ((nO w z (.inl (6, fun _ => 0))).bind fun w1 => ((pF w1 a0 7 0 (.ref z)).bind fun w2 => ((nO w2 (z + 1) (.inl (192, fun _ => 0))).bind fun w3 => ((pF w3 a0 7 1 (.ref (z + 1))).bind fun w4 => ((nO w4 (z + 2) (.inl (192, fun _ => 0))).bind fun w5 => ((pF w5 a0 7 2 (.ref (z + 2))).bind fun w6 => ((nO w6 (z + 3) (.inl (192, fun _ => 0))).bind fun w7 => ((pF w7 a0 7 10 (.ref (z + 3))).bind fun w8 => ((nO w8 (z + 4) (.inl (192, fun _ => 0))).bind fun w9 => ((pF w9 a0 7 11 (.ref (z + 4))).bind fun w10 => ((nO w10 (z + 5) (.inl (192, fun _ => 0))).bind fun w11 => ((pF w11 a0 7 12 (.ref (z + 5))).bind fun w12 => ((nO w12 (z + 6) (.inl (192, fun _ => 0))).bind fun w13 => ((pF w13 a0 7 13 (.ref (z + 6))).bind fun w14 => ((nO w14 (z + 7) (.inl (192, fun _ => 0))).bind fun w15 => ((pF w15 a0 7 14 (.ref (z + 7))).bind fun w16 => ((nO w16 (z + 8) (.inl (192, fun _ => 0))).bind fun w17 => ((pF w17 a0 7 15 (.ref (z + 8))).bind fun w18 => ((nO w18 (z + 9) (.inl (192, fun _ => 0))).bind fun w19 => ((pF w19 a0 7 16 (.ref (z + 9))).bind fun w20 => ((nO w20 (z + 10) (.inl (192, fun _ => 0))).bind fun w21 => ((pF w21 a0 7 17 (.ref (z + 10))).bind fun w22 => ((nO w22 (z + 11) (.inl (192, fun _ => 0))).bind fun w23 => ((pF w23 a0 7 18 (.ref (z + 11))).bind fun w24 => ((nO w24 (z + 12) (.inl (192, fun _ => 0))).bind fun w25 => ((pF w25 a0 7 19 (.ref (z + 12))).bind fun w26 => ((nO w26 (z + 13) (.inl (192, fun _ => 0))).bind fun w27 => ((pF w27 a0 7 20 (.ref (z + 13))).bind fun w28 => ((nO w28 (z + 14) (.inl (192, fun _ => 0))).bind fun w29 => ((pF w29 a0 7 21 (.ref (z + 14))).bind fun w30 => ((nO w30 (z + 15) (.inl (60, fun _ => 0))).bind fun w31 => ((pF w31 a0 7 23 (.ref (z + 15))).bind fun w32 => ((nO w32 (z + 16) (.inl (60, fun _ => 0))).bind fun w33 => ((pF w33 a0 7 24 (.ref (z + 16))).bind fun w34 => ((nO w34 (z + 17) (.inl (60, fun _ => 0))).bind fun w35 => ((pF w35 a0 7 25 (.ref (z + 17))).bind fun w36 => ((nO w36 (z + 18) (.inl (60, fun _ => 0))).bind fun w37 => ((pF w37 a0 7 26 (.ref (z + 18))).bind fun w38 => ((nO w38 (z + 19) (.inl (40, fun _ => 0))).bind fun w39 => ((pF w39 a0 7 27 (.ref (z + 19))).bind fun w40 => ((nO w40 (z + 20) (.inl (1089, fun _ => 0))).bind fun w41 => ((pF w41 a0 7 28 (.ref (z + 20))).bind fun w42 => ((nO w42 (z + 21) (.inl (32, fun _ => 0))).bind fun w43 => ((pF w43 a0 7 29 (.ref (z + 21))).bind fun w44 => some (w44, (z + 22))))))))))))))))))))))))))))))))))))))))))))))
theorem zX7_init {w : Fw} {z a0 : Nat} {res : Fw × Nat} (h : fX7_init w z a0 = some res) : res.2 = z + 22 := by
  unfold fX7_init at h
  obtain ⟨_, -, h⟩ := bd h
  obtain ⟨_, -, h⟩ := bd h
  obtain ⟨_, -, h⟩ := bd h
  obtain ⟨_, -, h⟩ := bd h
  obtain ⟨_, -, h⟩ := bd h
  obtain ⟨_, -, h⟩ := bd h
  obtain ⟨_, -, h⟩ := bd h
  obtain ⟨_, -, h⟩ := bd h
  obtain ⟨_, -, h⟩ := bd h
  obtain ⟨_, -, h⟩ := bd h
  obtain ⟨_, -, h⟩ := bd h
  obtain ⟨_, -, h⟩ := bd h
  obtain ⟨_, -, h⟩ := bd h
  obtain ⟨_, -, h⟩ := bd h
  obtain ⟨_, -, h⟩ := bd h
  obtain ⟨_, -, h⟩ := bd h
  obtain ⟨_, -, h⟩ := bd h
  obtain ⟨_, -, h⟩ := bd h
  obtain ⟨_, -, h⟩ := bd h
  obtain ⟨_, -, h⟩ := bd h
  obtain ⟨_, -, h⟩ := bd h
  obtain ⟨_, -, h⟩ := bd h
  obtain ⟨_, -, h⟩ := bd h
  obtain ⟨_, -, h⟩ := bd h
  obtain ⟨_, -, h⟩ := bd h
  obtain ⟨_, -, h⟩ := bd h
  obtain ⟨_, -, h⟩ := bd h
  obtain ⟨_, -, h⟩ := bd h
  obtain ⟨_, -, h⟩ := bd h
  obtain ⟨_, -, h⟩ := bd h
  obtain ⟨_, -, h⟩ := bd h
  obtain ⟨_, -, h⟩ := bd h
  obtain ⟨_, -, h⟩ := bd h
  obtain ⟨_, -, h⟩ := bd h
  obtain ⟨_, -, h⟩ := bd h
  obtain ⟨_, -, h⟩ := bd h
  obtain ⟨_, -, h⟩ := bd h
  obtain ⟨_, -, h⟩ := bd h
  obtain ⟨_, -, h⟩ := bd h
  obtain ⟨_, -, h⟩ := bd h
  obtain ⟨_, -, h⟩ := bd h
  obtain ⟨_, -, h⟩ := bd h
  obtain ⟨_, -, h⟩ := bd h
  obtain ⟨_, -, h⟩ := bd h
  exact (congrArg Prod.snd (Option.some.inj h)).symm
set_option maxRecDepth 100000 in
set_option maxHeartbeats 4000000 in
theorem mX7_init (l : Launch) (D : va_G) (dA : Nat → ClassId) (A : Nat → Prop) {w : Fw} {z a0 : Nat} {res : Fw × Nat} (h : fX7_init w z a0 = some res) : Met l yX7_init (wz yX7_init cX7_init 1 none) (rc 1 22 4095 20) (PzC D dA A w z [.ref a0]) (QzC D dA A res.1 res.2) 22 4095 A := by
  refine Met.ofW (cc := cX7_init) (maxL := 1) (ret := none) (by decide) rfl ?_
  intro p e s m args below meth c s₁ B hml hv
  obtain ⟨rfl, hR, hK, hz, hA0⟩ := hv
  have hx := B.exec
  have hb := B.bytes
  have hr := B.returns
  have hts : ∀ w ∈ lw_g, w.before [Value.ref a0].toArray s = true := fun w hw => atoms_spec (ws := wz yX7_init cX7_init 1 none) B.pre w (List.mem_cons_of_mem _ hw)
  have hown : s.vm.findClass RX7 = some m.cls := findClass_of_methodNamed B.named
  have hlocks := B.notSynchronized
  have hin : meth.name = "<init>" := (name_of_methodNamed B.named B.method).1
  have hA : ∀ q, s.heap.size ≤ q → A q := fun q hq => hA0 q (hz ▸ hq)
  have hS : va_S A s.heap s.heap [] := va_S.rf
  have hl := lv_entry ([.ref a0]) (n := 1) (Nat.le_of_ble_eq_true rfl)
  rw [lg_entry_eq]
  generalize (lg_sl ([.ref a0]) ++ List.replicate (1 - (lg_sl ([.ref a0])).length) Slot.unset).toArray = ls at hl ⊢
  have hl : lv_has ls 1 [(0, .ref a0)] := hl
  unfold fX7_init at h
  show W p l e (rc 1 22 4095 20) s m _ below meth c s.heap [] 0 0 _ _
  refine lv_aload_n hx hb dX7_init_0 rfl (lv_at hl 0 rfl) ?_
  refine W.objInit hx hb hown (hts _ mlo_X7) (hts _ mio) (hts _ mco) rfl (by rw [hml]; exact hl.1) rfl dX7_init_1 (Nat.le_of_ble_eq_true rfl) (Nat.le_of_ble_eq_true rfl) ?_
  refine W.eq (g2 := F0 m 4 ls []) rfl ?_
  refine lv_aload_n hx hb dX7_init_4 rfl (lv_at hl 0 rfl) ?_
  refine lv_bipush (v := 6) hx hb dX7_init_5 (by decide) ?_
  obtain ⟨w1, e, h⟩ := bd h
  refine fx_newa hx hb hts hK hR hS hz hA (N := 6) ac_int (by decide) (by decide) (by decide) e (Nat.le_of_ble_eq_true rfl) (Nat.le_of_ble_eq_true rfl) dX7_init_7 (fun H hR hS hz => ?_)
  refine W.cs (cells' := 1) (slots' := 6) rfl rfl ?_
  obtain ⟨w2, e, h⟩ := bd h
  refine fx_pf hx hb hts hown hK.1 hR hS hin fpf_X7_7 e rfl rfl dX7_init_9 (fun H locs hR hS hz1 => ?_)
  have hz := hz1.trans hz
  refine lv_aload_n hx hb dX7_init_12 rfl (lv_at hl 0 rfl) ?_
  refine lv_sipush (v := 192) hx hb dX7_init_13 (by decide) ?_
  obtain ⟨w3, e, h⟩ := bd h
  refine fx_newa hx hb hts hK hR hS hz hA (N := 192) ac_int (by decide) (by decide) (by decide) e (Nat.le_of_ble_eq_true rfl) (Nat.le_of_ble_eq_true rfl) dX7_init_16 (fun H hR hS hz => ?_)
  refine W.cs (cells' := 2) (slots' := 198) rfl rfl ?_
  obtain ⟨w4, e, h⟩ := bd h
  refine fx_pf hx hb hts hown hK.1 hR hS hin fpf_X7_13 e rfl rfl dX7_init_18 (fun H locs hR hS hz1 => ?_)
  have hz := hz1.trans hz
  refine lv_aload_n hx hb dX7_init_21 rfl (lv_at hl 0 rfl) ?_
  refine lv_sipush (v := 192) hx hb dX7_init_22 (by decide) ?_
  obtain ⟨w5, e, h⟩ := bd h
  refine fx_newa hx hb hts hK hR hS hz hA (N := 192) ac_int (by decide) (by decide) (by decide) e (Nat.le_of_ble_eq_true rfl) (Nat.le_of_ble_eq_true rfl) dX7_init_25 (fun H hR hS hz => ?_)
  refine W.cs (cells' := 3) (slots' := 390) rfl rfl ?_
  obtain ⟨w6, e, h⟩ := bd h
  refine fx_pf hx hb hts hown hK.1 hR hS hin fpf_X7_16 e rfl rfl dX7_init_27 (fun H locs hR hS hz1 => ?_)
  have hz := hz1.trans hz
  refine lv_aload_n hx hb dX7_init_30 rfl (lv_at hl 0 rfl) ?_
  refine lv_sipush (v := 192) hx hb dX7_init_31 (by decide) ?_
  obtain ⟨w7, e, h⟩ := bd h
  refine fx_newa hx hb hts hK hR hS hz hA (N := 192) ac_int (by decide) (by decide) (by decide) e (Nat.le_of_ble_eq_true rfl) (Nat.le_of_ble_eq_true rfl) dX7_init_34 (fun H hR hS hz => ?_)
  refine W.cs (cells' := 4) (slots' := 582) rfl rfl ?_
  obtain ⟨w8, e, h⟩ := bd h
  refine fx_pf hx hb hts hown hK.1 hR hS hin fpf_X7_19 e rfl rfl dX7_init_36 (fun H locs hR hS hz1 => ?_)
  have hz := hz1.trans hz
  refine lv_aload_n hx hb dX7_init_39 rfl (lv_at hl 0 rfl) ?_
  refine lv_sipush (v := 192) hx hb dX7_init_40 (by decide) ?_
  obtain ⟨w9, e, h⟩ := bd h
  refine fx_newa hx hb hts hK hR hS hz hA (N := 192) ac_int (by decide) (by decide) (by decide) e (Nat.le_of_ble_eq_true rfl) (Nat.le_of_ble_eq_true rfl) dX7_init_43 (fun H hR hS hz => ?_)
  refine W.cs (cells' := 5) (slots' := 774) rfl rfl ?_
  obtain ⟨w10, e, h⟩ := bd h
  refine fx_pf hx hb hts hown hK.1 hR hS hin fpf_X7_22 e rfl rfl dX7_init_45 (fun H locs hR hS hz1 => ?_)
  have hz := hz1.trans hz
  refine lv_aload_n hx hb dX7_init_48 rfl (lv_at hl 0 rfl) ?_
  refine lv_sipush (v := 192) hx hb dX7_init_49 (by decide) ?_
  obtain ⟨w11, e, h⟩ := bd h
  refine fx_newa hx hb hts hK hR hS hz hA (N := 192) ac_int (by decide) (by decide) (by decide) e (Nat.le_of_ble_eq_true rfl) (Nat.le_of_ble_eq_true rfl) dX7_init_52 (fun H hR hS hz => ?_)
  refine W.cs (cells' := 6) (slots' := 966) rfl rfl ?_
  obtain ⟨w12, e, h⟩ := bd h
  refine fx_pf hx hb hts hown hK.1 hR hS hin fpf_X7_25 e rfl rfl dX7_init_54 (fun H locs hR hS hz1 => ?_)
  have hz := hz1.trans hz
  refine lv_aload_n hx hb dX7_init_57 rfl (lv_at hl 0 rfl) ?_
  refine lv_sipush (v := 192) hx hb dX7_init_58 (by decide) ?_
  obtain ⟨w13, e, h⟩ := bd h
  refine fx_newa hx hb hts hK hR hS hz hA (N := 192) ac_int (by decide) (by decide) (by decide) e (Nat.le_of_ble_eq_true rfl) (Nat.le_of_ble_eq_true rfl) dX7_init_61 (fun H hR hS hz => ?_)
  refine W.cs (cells' := 7) (slots' := 1158) rfl rfl ?_
  obtain ⟨w14, e, h⟩ := bd h
  refine fx_pf hx hb hts hown hK.1 hR hS hin fpf_X7_28 e rfl rfl dX7_init_63 (fun H locs hR hS hz1 => ?_)
  have hz := hz1.trans hz
  refine lv_aload_n hx hb dX7_init_66 rfl (lv_at hl 0 rfl) ?_
  refine lv_sipush (v := 192) hx hb dX7_init_67 (by decide) ?_
  obtain ⟨w15, e, h⟩ := bd h
  refine fx_newa hx hb hts hK hR hS hz hA (N := 192) ac_int (by decide) (by decide) (by decide) e (Nat.le_of_ble_eq_true rfl) (Nat.le_of_ble_eq_true rfl) dX7_init_70 (fun H hR hS hz => ?_)
  refine W.cs (cells' := 8) (slots' := 1350) rfl rfl ?_
  obtain ⟨w16, e, h⟩ := bd h
  refine fx_pf hx hb hts hown hK.1 hR hS hin fpf_X7_31 e rfl rfl dX7_init_72 (fun H locs hR hS hz1 => ?_)
  have hz := hz1.trans hz
  refine lv_aload_n hx hb dX7_init_75 rfl (lv_at hl 0 rfl) ?_
  refine lv_sipush (v := 192) hx hb dX7_init_76 (by decide) ?_
  obtain ⟨w17, e, h⟩ := bd h
  refine fx_newa hx hb hts hK hR hS hz hA (N := 192) ac_int (by decide) (by decide) (by decide) e (Nat.le_of_ble_eq_true rfl) (Nat.le_of_ble_eq_true rfl) dX7_init_79 (fun H hR hS hz => ?_)
  refine W.cs (cells' := 9) (slots' := 1542) rfl rfl ?_
  obtain ⟨w18, e, h⟩ := bd h
  refine fx_pf hx hb hts hown hK.1 hR hS hin fpf_X7_34 e rfl rfl dX7_init_81 (fun H locs hR hS hz1 => ?_)
  have hz := hz1.trans hz
  refine lv_aload_n hx hb dX7_init_84 rfl (lv_at hl 0 rfl) ?_
  refine lv_sipush (v := 192) hx hb dX7_init_85 (by decide) ?_
  obtain ⟨w19, e, h⟩ := bd h
  refine fx_newa hx hb hts hK hR hS hz hA (N := 192) ac_int (by decide) (by decide) (by decide) e (Nat.le_of_ble_eq_true rfl) (Nat.le_of_ble_eq_true rfl) dX7_init_88 (fun H hR hS hz => ?_)
  refine W.cs (cells' := 10) (slots' := 1734) rfl rfl ?_
  obtain ⟨w20, e, h⟩ := bd h
  refine fx_pf hx hb hts hown hK.1 hR hS hin fpf_X7_37 e rfl rfl dX7_init_90 (fun H locs hR hS hz1 => ?_)
  have hz := hz1.trans hz
  refine lv_aload_n hx hb dX7_init_93 rfl (lv_at hl 0 rfl) ?_
  refine lv_sipush (v := 192) hx hb dX7_init_94 (by decide) ?_
  obtain ⟨w21, e, h⟩ := bd h
  refine fx_newa hx hb hts hK hR hS hz hA (N := 192) ac_int (by decide) (by decide) (by decide) e (Nat.le_of_ble_eq_true rfl) (Nat.le_of_ble_eq_true rfl) dX7_init_97 (fun H hR hS hz => ?_)
  refine W.cs (cells' := 11) (slots' := 1926) rfl rfl ?_
  obtain ⟨w22, e, h⟩ := bd h
  refine fx_pf hx hb hts hown hK.1 hR hS hin fpf_X7_40 e rfl rfl dX7_init_99 (fun H locs hR hS hz1 => ?_)
  have hz := hz1.trans hz
  refine lv_aload_n hx hb dX7_init_102 rfl (lv_at hl 0 rfl) ?_
  refine lv_sipush (v := 192) hx hb dX7_init_103 (by decide) ?_
  obtain ⟨w23, e, h⟩ := bd h
  refine fx_newa hx hb hts hK hR hS hz hA (N := 192) ac_int (by decide) (by decide) (by decide) e (Nat.le_of_ble_eq_true rfl) (Nat.le_of_ble_eq_true rfl) dX7_init_106 (fun H hR hS hz => ?_)
  refine W.cs (cells' := 12) (slots' := 2118) rfl rfl ?_
  obtain ⟨w24, e, h⟩ := bd h
  refine fx_pf hx hb hts hown hK.1 hR hS hin fpf_X7_43 e rfl rfl dX7_init_108 (fun H locs hR hS hz1 => ?_)
  have hz := hz1.trans hz
  refine lv_aload_n hx hb dX7_init_111 rfl (lv_at hl 0 rfl) ?_
  refine lv_sipush (v := 192) hx hb dX7_init_112 (by decide) ?_
  obtain ⟨w25, e, h⟩ := bd h
  refine fx_newa hx hb hts hK hR hS hz hA (N := 192) ac_int (by decide) (by decide) (by decide) e (Nat.le_of_ble_eq_true rfl) (Nat.le_of_ble_eq_true rfl) dX7_init_115 (fun H hR hS hz => ?_)
  refine W.cs (cells' := 13) (slots' := 2310) rfl rfl ?_
  obtain ⟨w26, e, h⟩ := bd h
  refine fx_pf hx hb hts hown hK.1 hR hS hin fpf_X7_46 e rfl rfl dX7_init_117 (fun H locs hR hS hz1 => ?_)
  have hz := hz1.trans hz
  refine lv_aload_n hx hb dX7_init_120 rfl (lv_at hl 0 rfl) ?_
  refine lv_sipush (v := 192) hx hb dX7_init_121 (by decide) ?_
  obtain ⟨w27, e, h⟩ := bd h
  refine fx_newa hx hb hts hK hR hS hz hA (N := 192) ac_int (by decide) (by decide) (by decide) e (Nat.le_of_ble_eq_true rfl) (Nat.le_of_ble_eq_true rfl) dX7_init_124 (fun H hR hS hz => ?_)
  refine W.cs (cells' := 14) (slots' := 2502) rfl rfl ?_
  obtain ⟨w28, e, h⟩ := bd h
  refine fx_pf hx hb hts hown hK.1 hR hS hin fpf_X7_49 e rfl rfl dX7_init_126 (fun H locs hR hS hz1 => ?_)
  have hz := hz1.trans hz
  refine lv_aload_n hx hb dX7_init_129 rfl (lv_at hl 0 rfl) ?_
  refine lv_sipush (v := 192) hx hb dX7_init_130 (by decide) ?_
  obtain ⟨w29, e, h⟩ := bd h
  refine fx_newa hx hb hts hK hR hS hz hA (N := 192) ac_int (by decide) (by decide) (by decide) e (Nat.le_of_ble_eq_true rfl) (Nat.le_of_ble_eq_true rfl) dX7_init_133 (fun H hR hS hz => ?_)
  refine W.cs (cells' := 15) (slots' := 2694) rfl rfl ?_
  obtain ⟨w30, e, h⟩ := bd h
  refine fx_pf hx hb hts hown hK.1 hR hS hin fpf_X7_52 e rfl rfl dX7_init_135 (fun H locs hR hS hz1 => ?_)
  have hz := hz1.trans hz
  refine lv_aload_n hx hb dX7_init_138 rfl (lv_at hl 0 rfl) ?_
  refine lv_bipush (v := 60) hx hb dX7_init_139 (by decide) ?_
  obtain ⟨w31, e, h⟩ := bd h
  refine fx_newa hx hb hts hK hR hS hz hA (N := 60) ac_int (by decide) (by decide) (by decide) e (Nat.le_of_ble_eq_true rfl) (Nat.le_of_ble_eq_true rfl) dX7_init_141 (fun H hR hS hz => ?_)
  refine W.cs (cells' := 16) (slots' := 2754) rfl rfl ?_
  obtain ⟨w32, e, h⟩ := bd h
  refine fx_pf hx hb hts hown hK.1 hR hS hin fpf_X7_55 e rfl rfl dX7_init_143 (fun H locs hR hS hz1 => ?_)
  have hz := hz1.trans hz
  refine lv_aload_n hx hb dX7_init_146 rfl (lv_at hl 0 rfl) ?_
  refine lv_bipush (v := 60) hx hb dX7_init_147 (by decide) ?_
  obtain ⟨w33, e, h⟩ := bd h
  refine fx_newa hx hb hts hK hR hS hz hA (N := 60) ac_int (by decide) (by decide) (by decide) e (Nat.le_of_ble_eq_true rfl) (Nat.le_of_ble_eq_true rfl) dX7_init_149 (fun H hR hS hz => ?_)
  refine W.cs (cells' := 17) (slots' := 2814) rfl rfl ?_
  obtain ⟨w34, e, h⟩ := bd h
  refine fx_pf hx hb hts hown hK.1 hR hS hin fpf_X7_58 e rfl rfl dX7_init_151 (fun H locs hR hS hz1 => ?_)
  have hz := hz1.trans hz
  refine lv_aload_n hx hb dX7_init_154 rfl (lv_at hl 0 rfl) ?_
  refine lv_bipush (v := 60) hx hb dX7_init_155 (by decide) ?_
  obtain ⟨w35, e, h⟩ := bd h
  refine fx_newa hx hb hts hK hR hS hz hA (N := 60) ac_int (by decide) (by decide) (by decide) e (Nat.le_of_ble_eq_true rfl) (Nat.le_of_ble_eq_true rfl) dX7_init_157 (fun H hR hS hz => ?_)
  refine W.cs (cells' := 18) (slots' := 2874) rfl rfl ?_
  obtain ⟨w36, e, h⟩ := bd h
  refine fx_pf hx hb hts hown hK.1 hR hS hin fpf_X7_61 e rfl rfl dX7_init_159 (fun H locs hR hS hz1 => ?_)
  have hz := hz1.trans hz
  refine lv_aload_n hx hb dX7_init_162 rfl (lv_at hl 0 rfl) ?_
  refine lv_bipush (v := 60) hx hb dX7_init_163 (by decide) ?_
  obtain ⟨w37, e, h⟩ := bd h
  refine fx_newa hx hb hts hK hR hS hz hA (N := 60) ac_int (by decide) (by decide) (by decide) e (Nat.le_of_ble_eq_true rfl) (Nat.le_of_ble_eq_true rfl) dX7_init_165 (fun H hR hS hz => ?_)
  refine W.cs (cells' := 19) (slots' := 2934) rfl rfl ?_
  obtain ⟨w38, e, h⟩ := bd h
  refine fx_pf hx hb hts hown hK.1 hR hS hin fpf_X7_64 e rfl rfl dX7_init_167 (fun H locs hR hS hz1 => ?_)
  have hz := hz1.trans hz
  refine lv_aload_n hx hb dX7_init_170 rfl (lv_at hl 0 rfl) ?_
  refine lv_bipush (v := 40) hx hb dX7_init_171 (by decide) ?_
  obtain ⟨w39, e, h⟩ := bd h
  refine fx_newa hx hb hts hK hR hS hz hA (N := 40) ac_int (by decide) (by decide) (by decide) e (Nat.le_of_ble_eq_true rfl) (Nat.le_of_ble_eq_true rfl) dX7_init_173 (fun H hR hS hz => ?_)
  refine W.cs (cells' := 20) (slots' := 2974) rfl rfl ?_
  obtain ⟨w40, e, h⟩ := bd h
  refine fx_pf hx hb hts hown hK.1 hR hS hin fpf_X7_67 e rfl rfl dX7_init_175 (fun H locs hR hS hz1 => ?_)
  have hz := hz1.trans hz
  refine lv_aload_n hx hb dX7_init_178 rfl (lv_at hl 0 rfl) ?_
  refine lv_sipush (v := 1089) hx hb dX7_init_179 (by decide) ?_
  obtain ⟨w41, e, h⟩ := bd h
  refine fx_newa hx hb hts hK hR hS hz hA (N := 1089) ac_int (by decide) (by decide) (by decide) e (Nat.le_of_ble_eq_true rfl) (Nat.le_of_ble_eq_true rfl) dX7_init_182 (fun H hR hS hz => ?_)
  refine W.cs (cells' := 21) (slots' := 4063) rfl rfl ?_
  obtain ⟨w42, e, h⟩ := bd h
  refine fx_pf hx hb hts hown hK.1 hR hS hin fpf_X7_70 e rfl rfl dX7_init_184 (fun H locs hR hS hz1 => ?_)
  have hz := hz1.trans hz
  refine lv_aload_n hx hb dX7_init_187 rfl (lv_at hl 0 rfl) ?_
  refine lv_bipush (v := 32) hx hb dX7_init_188 (by decide) ?_
  obtain ⟨w43, e, h⟩ := bd h
  refine fx_newa hx hb hts hK hR hS hz hA (N := 32) ac_int (by decide) (by decide) (by decide) e (Nat.le_of_ble_eq_true rfl) (Nat.le_of_ble_eq_true rfl) dX7_init_190 (fun H hR hS hz => ?_)
  refine W.cs (cells' := 22) (slots' := 4095) rfl rfl ?_
  obtain ⟨w44, e, h⟩ := bd h
  refine fx_pf hx hb hts hown hK.1 hR hS hin fpf_X7_73 e rfl rfl dX7_init_192 (fun H locs hR hS hz1 => ?_)
  have hz := hz1.trans hz
  exact fx_cret hx hb hr hlocks h hR hS hz dX7_init_195
