/-! THE CLAIM OUT OF ONE WALK OF THE LAW'S BODY. Your part is whole_start (and what it stands on); all else here is the same for every law, but numbers. -/
def R_law : String := "FindingHouseLaw"
def lw_P (b : Addr) (xs : List Int32) (args : Array Value) (s : State) : Prop := args = #[.ref b] ∧ s.IntsAt b xs ∧ xs.length ≤ 3072 ∧ (Jvm.Cond.and given_1 narrow_1).before args s = true
def lw_Q (_ : Array Value) (s : State) (o : Outcome) (t : State) : Prop := o = .returned (some (.int 1)) ∧ Framed s o t [] 600000 7302249
def lw_Z (below : List Frame) (a : Array Value) (s : State) : State → Prop := fun t => ∃ o, t.status = .running ∧ Ended t below o ∧ lw_Q a s o t
/-- the law's own end, with 1 on the stack, nothing written that was there before, its room as the claim has it -/
theorem lw_ret {p : Program} {l : Launch} {e : Env} {s : State} {m : MethodId} {below : List Frame} {meth : Method} {c : Code} {b : Nat} (hx : p.tables.exec = Jvm.exec) (hb : c.code = code) (hr : meth.sig.returnType = ret) (hlocks : meth.locks = false) {pc : Nat} {H : Heap} {ls : Array Slot} (hdg : decode code pc = .ok (.ireturn, 1)) : W p l e room_1 s m #[Value.ref b] below meth c H [] 600000 7302249 (lw_Z below #[Value.ref b] s) (F0 m pc ls [.int 1]) := by
  intro T hT X
  obtain ⟨fs, hret, hrun, hended, hW, hframe⟩ := X.leave (v := some (.int 1)) (hlocks := hlocks) (fun h => by rw [hr] at h; cases h)
  have hmeth' : T.vm.method? m = some meth := X.method'
  refine ⟨T.setFrames fs, ?_, .returned (some (.int 1)), hrun, hended, rfl, ⟨_, rfl⟩, hW, hframe⟩
  jvm_step X.here [X.here.top, hx, hb, hdg, hmeth', hr, ret, narrow_b1]
  (try refine ⟨rfl, ?_⟩); (try refine ⟨rfl, ?_⟩)
  first | (intro acts; rw [hret _ acts rfl rfl rfl]) | rw [hret _ _ rfl rfl rfl]
  exact Steps.refl _
/-- what holds at the law's entry: the machine, the code, the tables' words (any of lw_tbl by 'hts w (by decide +kernel)'), the script of L ints xs at the cell b, what the Statement gives of the start (any of its parts by flat_of_before) -/
def lw_At (p : Program) (s : State) (m : MethodId) (meth : Method) (c : Code) (b L : Nat) (xs : Nat → Int32) : Prop :=
  p.tables.exec = Jvm.exec ∧ c.code = code ∧ meth.sig.returnType = ret ∧ c.maxLocals = 4 ∧ s.vm.findClass R_law = some m.cls ∧ (∀ w ∈ lw_tbl, w.before #[Value.ref b] s = true) ∧ va_X b L xs s s.heap ∧ b < s.heap.size ∧ meth.locks = false ∧ (Jvm.Cond.and given_1 narrow_1).before #[Value.ref b] s = true
theorem ml_L_13 : Cond.methodLink RL 13 yX6_put ∈ lw_g := (fz_mem 197 (by decide +kernel) (by decide +kernel))
theorem ml_L_17 : Cond.methodLink RL 17 yX7_put ∈ lw_g := (fz_mem 647 (by decide +kernel) (by decide +kernel))
theorem ml_L_18 : Cond.methodLink RL 18 yX6_cut ∈ lw_g := (fz_mem 308 (by decide +kernel) (by decide +kernel))
theorem ml_L_22 : Cond.methodLink RL 22 yX7_cut ∈ lw_g := (fz_mem 714 (by decide +kernel) (by decide +kernel))
theorem ml_L_23 : Cond.methodLink RL 23 yX6_change ∈ lw_g := (fz_mem 324 (by decide +kernel) (by decide +kernel))
theorem ml_L_27 : Cond.methodLink RL 27 yX7_change ∈ lw_g := (fz_mem 722 (by decide +kernel) (by decide +kernel))
theorem ml_L_28 : Cond.methodLink RL 28 yX6_feed ∈ lw_g := (fz_mem 336 (by decide +kernel) (by decide +kernel))
theorem ml_L_32 : Cond.methodLink RL 32 yX7_feed ∈ lw_g := (fz_mem 730 (by decide +kernel) (by decide +kernel))
theorem ml_L_33 : Cond.methodLink RL 33 yX6_end ∈ lw_g := (fz_mem 348 (by decide +kernel) (by decide +kernel))
theorem ml_L_37 : Cond.methodLink RL 37 yX7_end ∈ lw_g := (fz_mem 734 (by decide +kernel) (by decide +kernel))
theorem ml_L_38 : Cond.methodLink RL 38 yX6_load ∈ lw_g := (fz_mem 356 (by decide +kernel) (by decide +kernel))
theorem ml_L_42 : Cond.methodLink RL 42 yX7_load ∈ lw_g := (fz_mem 738 (by decide +kernel) (by decide +kernel))
theorem ml_L_43 : Cond.methodLink RL 43 yX6_bad ∈ lw_g := (fz_mem 400 (by decide +kernel) (by decide +kernel))
theorem ml_L_46 : Cond.methodLink RL 46 yX7_bad ∈ lw_g := (fz_mem 726 (by decide +kernel) (by decide +kernel))
theorem ml_L_47 : Cond.methodLink RL 47 yX6_day ∈ lw_g := (fz_mem 404 (by decide +kernel) (by decide +kernel))
theorem ml_L_51 : Cond.methodLink RL 51 yX7_day ∈ lw_g := (fz_mem 747 (by decide +kernel) (by decide +kernel))
theorem ml_L_52 : Cond.methodLink RL 52 yX6_look ∈ lw_g := (fz_mem 408 (by decide +kernel) (by decide +kernel))
theorem ml_L_55 : Cond.methodLink RL 55 yX7_look ∈ lw_g := (fz_mem 767 (by decide +kernel) (by decide +kernel))
theorem ml_L_56 : Cond.methodLink RL 56 yX6_line ∈ lw_g := (fz_mem 445 (by decide +kernel) (by decide +kernel))
theorem ml_L_59 : Cond.methodLink RL 59 yX7_line ∈ lw_g := (fz_mem 771 (by decide +kernel) (by decide +kernel))
theorem ml_L_60 : Cond.methodLink RL 60 yX6_finding ∈ lw_g := (fz_mem 450 (by decide +kernel) (by decide +kernel))
theorem ml_L_64 : Cond.methodLink RL 64 yX7_finding ∈ lw_g := (fz_mem 775 (by decide +kernel) (by decide +kernel))
theorem ml_L_65 : Cond.methodLink RL 65 yX6_find ∈ lw_g := (fz_mem 483 (by decide +kernel) (by decide +kernel))
theorem ml_L_68 : Cond.methodLink RL 68 yX7_find ∈ lw_g := (fz_mem 636 (by decide +kernel) (by decide +kernel))
theorem ml_L_69 : Cond.methodLink RL 69 yX6_silence ∈ lw_g := (fz_mem 488 (by decide +kernel) (by decide +kernel))
theorem ml_L_72 : Cond.methodLink RL 72 yX7_silence ∈ lw_g := (fz_mem 751 (by decide +kernel) (by decide +kernel))
theorem ml_L_73 : Cond.methodLink RL 73 yX6_speak ∈ lw_g := (fz_mem 496 (by decide +kernel) (by decide +kernel))
theorem ml_L_76 : Cond.methodLink RL 76 yX7_speak ∈ lw_g := (fz_mem 759 (by decide +kernel) (by decide +kernel))
theorem ml_L_77 : Cond.methodLink RL 77 yX6_since ∈ lw_g := (fz_mem 504 (by decide +kernel) (by decide +kernel))
theorem ml_L_80 : Cond.methodLink RL 80 yX7_since ∈ lw_g := (fz_mem 779 (by decide +kernel) (by decide +kernel))
theorem ml_L_81 : Cond.methodLink RL 81 yX6_log ∈ lw_g := (fz_mem 512 (by decide +kernel) (by decide +kernel))
theorem ml_L_84 : Cond.methodLink RL 84 yX7_log ∈ lw_g := (fz_mem 640 (by decide +kernel) (by decide +kernel))
theorem my_X6_put : MY yX6_put cX6_put 6 (some .int) 3 := ⟨(fz_mem 200 (by decide +kernel) (by decide +kernel)), (fz_mem 31 (by decide +kernel) (by decide +kernel)), by decide +kernel⟩
theorem mv_X6_put : MV yX6_put RX6 := ⟨(fz_mem 198 (by decide +kernel) (by decide +kernel)), (fz_mem 199 (by decide +kernel) (by decide +kernel))⟩
theorem my_X7_put : MY yX7_put cX7_put 6 (some .int) 3 := ⟨(fz_mem 650 (by decide +kernel) (by decide +kernel)), (fz_mem 38 (by decide +kernel) (by decide +kernel)), by decide +kernel⟩
theorem mv_X7_put : MV yX7_put RX7 := ⟨(fz_mem 648 (by decide +kernel) (by decide +kernel)), (fz_mem 649 (by decide +kernel) (by decide +kernel))⟩
theorem my_X6_cut : MY yX6_cut cX6_cut 4 (some .boolean) 2 := ⟨(fz_mem 311 (by decide +kernel) (by decide +kernel)), (fz_mem 31 (by decide +kernel) (by decide +kernel)), by decide +kernel⟩
theorem mv_X6_cut : MV yX6_cut RX6 := ⟨(fz_mem 309 (by decide +kernel) (by decide +kernel)), (fz_mem 310 (by decide +kernel) (by decide +kernel))⟩
theorem my_X7_cut : MY yX7_cut cX7_cut 5 (some .boolean) 2 := ⟨(fz_mem 717 (by decide +kernel) (by decide +kernel)), (fz_mem 38 (by decide +kernel) (by decide +kernel)), by decide +kernel⟩
theorem mv_X7_cut : MV yX7_cut RX7 := ⟨(fz_mem 715 (by decide +kernel) (by decide +kernel)), (fz_mem 716 (by decide +kernel) (by decide +kernel))⟩
theorem my_X6_change : MY yX6_change cX6_change 5 (some .boolean) 3 := ⟨(fz_mem 327 (by decide +kernel) (by decide +kernel)), (fz_mem 31 (by decide +kernel) (by decide +kernel)), by decide +kernel⟩
theorem mv_X6_change : MV yX6_change RX6 := ⟨(fz_mem 325 (by decide +kernel) (by decide +kernel)), (fz_mem 326 (by decide +kernel) (by decide +kernel))⟩
theorem my_X7_change : MY yX7_change cX7_change 5 (some .boolean) 3 := ⟨(fz_mem 725 (by decide +kernel) (by decide +kernel)), (fz_mem 38 (by decide +kernel) (by decide +kernel)), by decide +kernel⟩
theorem mv_X7_change : MV yX7_change RX7 := ⟨(fz_mem 723 (by decide +kernel) (by decide +kernel)), (fz_mem 724 (by decide +kernel) (by decide +kernel))⟩
theorem my_X6_feed : MY yX6_feed cX6_feed 6 (some .int) 5 := ⟨(fz_mem 339 (by decide +kernel) (by decide +kernel)), (fz_mem 31 (by decide +kernel) (by decide +kernel)), by decide +kernel⟩
theorem mv_X6_feed : MV yX6_feed RX6 := ⟨(fz_mem 337 (by decide +kernel) (by decide +kernel)), (fz_mem 338 (by decide +kernel) (by decide +kernel))⟩
theorem my_X7_feed : MY yX7_feed cX7_feed 8 (some .int) 5 := ⟨(fz_mem 733 (by decide +kernel) (by decide +kernel)), (fz_mem 38 (by decide +kernel) (by decide +kernel)), by decide +kernel⟩
theorem mv_X7_feed : MV yX7_feed RX7 := ⟨(fz_mem 731 (by decide +kernel) (by decide +kernel)), (fz_mem 732 (by decide +kernel) (by decide +kernel))⟩
theorem my_X6_end : MY yX6_end cX6_end 2 (some .boolean) 1 := ⟨(fz_mem 351 (by decide +kernel) (by decide +kernel)), (fz_mem 31 (by decide +kernel) (by decide +kernel)), by decide +kernel⟩
theorem mv_X6_end : MV yX6_end RX6 := ⟨(fz_mem 349 (by decide +kernel) (by decide +kernel)), (fz_mem 350 (by decide +kernel) (by decide +kernel))⟩
theorem my_X7_end : MY yX7_end cX7_end 2 (some .boolean) 1 := ⟨(fz_mem 737 (by decide +kernel) (by decide +kernel)), (fz_mem 38 (by decide +kernel) (by decide +kernel)), by decide +kernel⟩
theorem mv_X7_end : MV yX7_end RX7 := ⟨(fz_mem 735 (by decide +kernel) (by decide +kernel)), (fz_mem 736 (by decide +kernel) (by decide +kernel))⟩
theorem my_X6_load : MY yX6_load cX6_load 5 (some .int) 1 := ⟨(fz_mem 359 (by decide +kernel) (by decide +kernel)), (fz_mem 31 (by decide +kernel) (by decide +kernel)), by decide +kernel⟩
theorem mv_X6_load : MV yX6_load RX6 := ⟨(fz_mem 357 (by decide +kernel) (by decide +kernel)), (fz_mem 358 (by decide +kernel) (by decide +kernel))⟩
theorem my_X7_load : MY yX7_load cX7_load 8 (some .int) 1 := ⟨(fz_mem 741 (by decide +kernel) (by decide +kernel)), (fz_mem 38 (by decide +kernel) (by decide +kernel)), by decide +kernel⟩
theorem mv_X7_load : MV yX7_load RX7 := ⟨(fz_mem 739 (by decide +kernel) (by decide +kernel)), (fz_mem 740 (by decide +kernel) (by decide +kernel))⟩
theorem my_X6_bad : MY yX6_bad cX6_bad 5 (some .boolean) 1 := ⟨(fz_mem 403 (by decide +kernel) (by decide +kernel)), (fz_mem 31 (by decide +kernel) (by decide +kernel)), by decide +kernel⟩
theorem mv_X6_bad : MV yX6_bad RX6 := ⟨(fz_mem 401 (by decide +kernel) (by decide +kernel)), (fz_mem 402 (by decide +kernel) (by decide +kernel))⟩
theorem my_X7_bad : MY yX7_bad cX7_bad 5 (some .boolean) 1 := ⟨(fz_mem 729 (by decide +kernel) (by decide +kernel)), (fz_mem 38 (by decide +kernel) (by decide +kernel)), by decide +kernel⟩
theorem mv_X7_bad : MV yX7_bad RX7 := ⟨(fz_mem 727 (by decide +kernel) (by decide +kernel)), (fz_mem 728 (by decide +kernel) (by decide +kernel))⟩
theorem my_X6_day : MY yX6_day cX6_day 1 (some .int) 0 := ⟨(fz_mem 407 (by decide +kernel) (by decide +kernel)), (fz_mem 31 (by decide +kernel) (by decide +kernel)), by decide +kernel⟩
theorem mv_X6_day : MV yX6_day RX6 := ⟨(fz_mem 405 (by decide +kernel) (by decide +kernel)), (fz_mem 406 (by decide +kernel) (by decide +kernel))⟩
theorem my_X7_day : MY yX7_day cX7_day 1 (some .int) 0 := ⟨(fz_mem 750 (by decide +kernel) (by decide +kernel)), (fz_mem 38 (by decide +kernel) (by decide +kernel)), by decide +kernel⟩
theorem mv_X7_day : MV yX7_day RX7 := ⟨(fz_mem 748 (by decide +kernel) (by decide +kernel)), (fz_mem 749 (by decide +kernel) (by decide +kernel))⟩
theorem my_X6_look : MY yX6_look cX6_look 2 (some .int) 1 := ⟨(fz_mem 411 (by decide +kernel) (by decide +kernel)), (fz_mem 31 (by decide +kernel) (by decide +kernel)), by decide +kernel⟩
theorem mv_X6_look : MV yX6_look RX6 := ⟨(fz_mem 409 (by decide +kernel) (by decide +kernel)), (fz_mem 410 (by decide +kernel) (by decide +kernel))⟩
theorem my_X7_look : MY yX7_look cX7_look 4 (some .int) 1 := ⟨(fz_mem 770 (by decide +kernel) (by decide +kernel)), (fz_mem 38 (by decide +kernel) (by decide +kernel)), by decide +kernel⟩
theorem mv_X7_look : MV yX7_look RX7 := ⟨(fz_mem 768 (by decide +kernel) (by decide +kernel)), (fz_mem 769 (by decide +kernel) (by decide +kernel))⟩
theorem my_X6_line : MY yX6_line cX6_line 4 (some .int) 3 := ⟨(fz_mem 448 (by decide +kernel) (by decide +kernel)), (fz_mem 31 (by decide +kernel) (by decide +kernel)), by decide +kernel⟩
theorem mv_X6_line : MV yX6_line RX6 := ⟨(fz_mem 446 (by decide +kernel) (by decide +kernel)), (fz_mem 447 (by decide +kernel) (by decide +kernel))⟩
theorem my_X7_line : MY yX7_line cX7_line 4 (some .int) 3 := ⟨(fz_mem 774 (by decide +kernel) (by decide +kernel)), (fz_mem 38 (by decide +kernel) (by decide +kernel)), by decide +kernel⟩
theorem mv_X7_line : MV yX7_line RX7 := ⟨(fz_mem 772 (by decide +kernel) (by decide +kernel)), (fz_mem 773 (by decide +kernel) (by decide +kernel))⟩
theorem my_X6_finding : MY yX6_finding cX6_finding 6 (some .int) 2 := ⟨(fz_mem 453 (by decide +kernel) (by decide +kernel)), (fz_mem 31 (by decide +kernel) (by decide +kernel)), by decide +kernel⟩
theorem mv_X6_finding : MV yX6_finding RX6 := ⟨(fz_mem 451 (by decide +kernel) (by decide +kernel)), (fz_mem 452 (by decide +kernel) (by decide +kernel))⟩
theorem my_X7_finding : MY yX7_finding cX7_finding 3 (some .int) 2 := ⟨(fz_mem 778 (by decide +kernel) (by decide +kernel)), (fz_mem 38 (by decide +kernel) (by decide +kernel)), by decide +kernel⟩
theorem mv_X7_finding : MV yX7_finding RX7 := ⟨(fz_mem 776 (by decide +kernel) (by decide +kernel)), (fz_mem 777 (by decide +kernel) (by decide +kernel))⟩
theorem my_X6_find : MY yX6_find cX6_find 5 (some .int) 2 := ⟨(fz_mem 486 (by decide +kernel) (by decide +kernel)), (fz_mem 31 (by decide +kernel) (by decide +kernel)), by decide +kernel⟩
theorem mv_X6_find : MV yX6_find RX6 := ⟨(fz_mem 484 (by decide +kernel) (by decide +kernel)), (fz_mem 485 (by decide +kernel) (by decide +kernel))⟩
theorem my_X6_silence : MY yX6_silence cX6_silence 7 (some .boolean) 3 := ⟨(fz_mem 491 (by decide +kernel) (by decide +kernel)), (fz_mem 31 (by decide +kernel) (by decide +kernel)), by decide +kernel⟩
theorem mv_X6_silence : MV yX6_silence RX6 := ⟨(fz_mem 489 (by decide +kernel) (by decide +kernel)), (fz_mem 490 (by decide +kernel) (by decide +kernel))⟩
theorem my_X7_silence : MY yX7_silence cX7_silence 4 (some .boolean) 3 := ⟨(fz_mem 754 (by decide +kernel) (by decide +kernel)), (fz_mem 38 (by decide +kernel) (by decide +kernel)), by decide +kernel⟩
theorem mv_X7_silence : MV yX7_silence RX7 := ⟨(fz_mem 752 (by decide +kernel) (by decide +kernel)), (fz_mem 753 (by decide +kernel) (by decide +kernel))⟩
theorem my_X6_speak : MY yX6_speak cX6_speak 5 (some .boolean) 1 := ⟨(fz_mem 499 (by decide +kernel) (by decide +kernel)), (fz_mem 31 (by decide +kernel) (by decide +kernel)), by decide +kernel⟩
theorem mv_X6_speak : MV yX6_speak RX6 := ⟨(fz_mem 497 (by decide +kernel) (by decide +kernel)), (fz_mem 498 (by decide +kernel) (by decide +kernel))⟩
theorem my_X7_speak : MY yX7_speak cX7_speak 2 (some .boolean) 1 := ⟨(fz_mem 762 (by decide +kernel) (by decide +kernel)), (fz_mem 38 (by decide +kernel) (by decide +kernel)), by decide +kernel⟩
theorem mv_X7_speak : MV yX7_speak RX7 := ⟨(fz_mem 760 (by decide +kernel) (by decide +kernel)), (fz_mem 761 (by decide +kernel) (by decide +kernel))⟩
theorem my_X6_since : MY yX6_since cX6_since 5 (some .int) 2 := ⟨(fz_mem 507 (by decide +kernel) (by decide +kernel)), (fz_mem 31 (by decide +kernel) (by decide +kernel)), by decide +kernel⟩
theorem mv_X6_since : MV yX6_since RX6 := ⟨(fz_mem 505 (by decide +kernel) (by decide +kernel)), (fz_mem 506 (by decide +kernel) (by decide +kernel))⟩
theorem my_X7_since : MY yX7_since cX7_since 5 (some .int) 2 := ⟨(fz_mem 782 (by decide +kernel) (by decide +kernel)), (fz_mem 38 (by decide +kernel) (by decide +kernel)), by decide +kernel⟩
theorem mv_X7_since : MV yX7_since RX7 := ⟨(fz_mem 780 (by decide +kernel) (by decide +kernel)), (fz_mem 781 (by decide +kernel) (by decide +kernel))⟩
theorem my_X6_log : MY yX6_log cX6_log 4 (some .int) 2 := ⟨(fz_mem 515 (by decide +kernel) (by decide +kernel)), (fz_mem 31 (by decide +kernel) (by decide +kernel)), by decide +kernel⟩
theorem mv_X6_log : MV yX6_log RX6 := ⟨(fz_mem 513 (by decide +kernel) (by decide +kernel)), (fz_mem 514 (by decide +kernel) (by decide +kernel))⟩
theorem my_X7_log : MY yX7_log cX7_log 4 (some .int) 2 := ⟨(fz_mem 643 (by decide +kernel) (by decide +kernel)), (fz_mem 38 (by decide +kernel) (by decide +kernel)), by decide +kernel⟩
theorem mv_X7_log : MV yX7_log RX7 := ⟨(fz_mem 641 (by decide +kernel) (by decide +kernel)), (fz_mem 642 (by decide +kernel) (by decide +kernel))⟩
/-- what the law asks of the two sides: they go through every call and answer alike -/
def SysOK (h m : Nat) (Inv : Nat → Fw → Prop) : Prop := (∀ j w, Inv j w → isO w h 6 = some () ∧ isO w m 7 = some ()) ∧ (∀ j w, Inv j w → Inv (j + 1) w) ∧
  (∀ (j : Nat) (w : Fw) (x1 x2 x3 : Int32), j < 512 → Inv j w → ∃ (r : Int32) (w1 w2 : Fw), fX6_put w h x1 x2 x3 = some (r, w1) ∧ isO w1 m 7 = some () ∧ fX7_put w1 m x1 x2 x3 = some (r, w2) ∧ Inv (j + 1) w2) ∧
  (∀ (j : Nat) (w : Fw) (x1 x2 : Int32), j < 512 → Inv j w → ∃ (r : Int32) (w1 w2 : Fw), fX6_cut w h x1 x2 = some (r, w1) ∧ isO w1 m 7 = some () ∧ fX7_cut w1 m x1 x2 = some (r, w2) ∧ Inv (j + 1) w2) ∧
  (∀ (j : Nat) (w : Fw) (x1 x2 x3 : Int32), j < 512 → Inv j w → ∃ (r : Int32) (w1 w2 : Fw), fX6_change w h x1 x2 x3 = some (r, w1) ∧ isO w1 m 7 = some () ∧ fX7_change w1 m x1 x2 x3 = some (r, w2) ∧ Inv (j + 1) w2) ∧
  (∀ (j : Nat) (w : Fw) (x1 x2 x3 x4 x5 : Int32), j < 512 → Inv j w → ∃ (r : Int32) (w1 w2 : Fw), fX6_feed w h x1 x2 x3 x4 x5 = some (r, w1) ∧ isO w1 m 7 = some () ∧ fX7_feed w1 m x1 x2 x3 x4 x5 = some (r, w2) ∧ Inv (j + 1) w2) ∧
  (∀ (j : Nat) (w : Fw) (x1 : Int32), j < 512 → Inv j w → ∃ (r : Int32) (w1 w2 : Fw), fX6_end w h x1 = some (r, w1) ∧ isO w1 m 7 = some () ∧ fX7_end w1 m x1 = some (r, w2) ∧ Inv (j + 1) w2) ∧
  (∀ (j : Nat) (w : Fw) (x1 : Int32), j < 512 → Inv j w → ∃ (r : Int32) (w1 w2 : Fw), fX6_load w h x1 = some (r, w1) ∧ isO w1 m 7 = some () ∧ fX7_load w1 m x1 = some (r, w2) ∧ Inv (j + 1) w2) ∧
  (∀ (j : Nat) (w : Fw) (x1 : Int32), j < 512 → Inv j w → ∃ (r : Int32) (w1 w2 : Fw), fX6_bad w h x1 = some (r, w1) ∧ isO w1 m 7 = some () ∧ fX7_bad w1 m x1 = some (r, w2) ∧ Inv (j + 1) w2) ∧
  (∀ (j : Nat) (w : Fw), j < 512 → Inv j w → ∃ (r : Int32) (w1 w2 : Fw), fX6_day w h  = some (r, w1) ∧ isO w1 m 7 = some () ∧ fX7_day w1 m  = some (r, w2) ∧ Inv (j + 1) w2) ∧
  (∀ (j : Nat) (w : Fw) (x1 : Int32), j < 512 → Inv j w → ∃ r : Int32, fX6_look w h x1 = some r ∧ fX7_look w m x1 = some r) ∧
  (∀ (j : Nat) (w : Fw) (x1 x2 x3 : Int32), j < 512 → Inv j w → ∃ r : Int32, fX6_line w h x1 x2 x3 = some r ∧ fX7_line w m x1 x2 x3 = some r) ∧
  (∀ (j : Nat) (w : Fw) (x1 x2 : Int32), j < 512 → Inv j w → ∃ r : Int32, fX6_finding w h x1 x2 = some r ∧ fX7_finding w m x1 x2 = some r) ∧
  (∀ (j : Nat) (w : Fw) (x1 x2 : Int32), j < 512 → Inv j w → ∃ r : Int32, fX6_find w h x1 x2 = some r ∧ fX7_find w m x1 x2 = some r) ∧
  (∀ (j : Nat) (w : Fw) (x1 x2 x3 : Int32), j < 512 → Inv j w → ∃ (r : Int32) (w1 w2 : Fw), fX6_silence w h x1 x2 x3 = some (r, w1) ∧ isO w1 m 7 = some () ∧ fX7_silence w1 m x1 x2 x3 = some (r, w2) ∧ Inv (j + 1) w2) ∧
  (∀ (j : Nat) (w : Fw) (x1 : Int32), j < 512 → Inv j w → ∃ (r : Int32) (w1 w2 : Fw), fX6_speak w h x1 = some (r, w1) ∧ isO w1 m 7 = some () ∧ fX7_speak w1 m x1 = some (r, w2) ∧ Inv (j + 1) w2) ∧
  (∀ (j : Nat) (w : Fw) (x1 x2 : Int32), j < 512 → Inv j w → ∃ r : Int32, fX6_since w h x1 x2 = some r ∧ fX7_since w m x1 x2 = some r) ∧
  (∀ (j : Nat) (w : Fw) (x1 x2 : Int32), j < 512 → Inv j w → ∃ r : Int32, fX6_log w h x1 x2 = some r ∧ fX7_log w m x1 x2 = some r)
/-- and of their beginning -/
def StartOK (z : Nat) (P : Fw → Prop) : Prop := ∃ w1 w2 w3 w4 : Fw, nO (fun _ => none) z (.inr (.inr (6, [.null, .null, .null, .null, .null, .int 0, .int 0, .int 0, .int 0, .int 0]))) = some w1 ∧ fX6_init w1 (z + 1) z = some (w2, z + 150) ∧ nO w2 (z + 150) (.inr (.inr (7, [.null, .null, .null, .int 0, .int 0, .int 0, .int 0, .int 0, .int 0, .int 0, .null, .null, .null, .null, .null, .null, .null, .null, .null, .null, .null, .null, .int 0, .null, .null, .null, .null, .null, .null, .null, .int 0]))) = some w3 ∧ fX7_init w3 (z + 151) (z + 150) = some (w4, z + 173) ∧ P w4
theorem law_lt {L j : Nat} {x3 : Int32} (hL : L ≤ 3072) (hjL : 6 * j ≤ L) (ex3 : x3 = nI (6 * j)) (c : ¬ Int32.ofNat L - 6 < x3) : 6 * j + 6 ≤ L := by
  rcases Nat.lt_or_ge L (6 * j + 6) with h | h
  · refine absurd ?_ c
    rw [ex3, Int32.lt_iff_toInt_lt]
    have h1 : (nI L - nI 6).toInt = (L : Int) - (6 : Nat) := pk_sub_toInt (by omega) (by omega)
    have h2 : (Int32.ofNat L - 6).toInt = (L : Int) - (6 : Nat) := h1
    rw [h2, nI_toInt (by omega)]
    omega
  · exact h
theorem law_in {L j : Nat} {x3 : Int32} (hL : L ≤ 3072) (hlt : 6 * j + 6 ≤ L) (ex3 : x3 = nI (6 * j)) {k : Int32} (hk : 0 ≤ k.toInt ∧ k.toInt < 6) : vp_in (x3 + k) L := by
  have hk2 : k = nI k.toInt.toNat := by
    apply Int32.toInt_inj.mp
    rw [nI_toInt (by omega)]
    omega
  rw [ex3, hk2, nI_add]
  exact vp_in_nI (by omega) (by omega)
set_option maxRecDepth 100000 in
set_option maxHeartbeats 4000000 in
theorem law_c0 {p : Program} {l : Launch} {e : Env} {s : State} {m : MethodId} {below : List Frame} {meth : Method} {c : Code} {b L h mm : Nat} {xs : Nat → Int32} {D : va_G} {dA : Nat → ClassId} (hL : L ≤ 3072) (C0 : lw_At p s m meth c b L xs) (hK : Kp D dA s) {Inv : Nat → Fw → Prop} (hsys : SysOK h mm Inv) {A : Nat → Prop} (hA : (fun q : Nat => s.heap.size ≤ q) = A) {j : Nat} {x3 : Int32} {w : Fw} (ex3 : x3 = nI (6 * j)) (hj : j < 512) (hin : ∀ k : Int32, 0 ≤ k.toInt ∧ k.toInt < 6 → vp_in (x3 + k) L) (hnext : ∀ (w2 : Fw) {H : Heap} {locs : List Loc} {ls : Array Slot}, Rp D dA A w2 H → va_S A s.heap H locs → lv_has ls 4 [(0, .ref b), (1, .ref h), (2, .ref mm), (3, .int x3)] → Inv (j + 1) w2 → W p l e room_1 s m #[Value.ref b] below meth c H locs 173 8427 (lw_Z below #[Value.ref b] s) (F0 m 640 ls [])) (hI : Inv j w) {H : Heap} {locs : List Loc} {ls : Array Slot} (hR : Rp D dA A w H) (hS : va_S A s.heap H locs) (hl : lv_has ls 4 [(0, .ref b), (1, .ref h), (2, .ref mm), (3, .int x3)]) : W p l e room_1 s m #[Value.ref b] below meth c H locs 173 8427 (lw_Z below #[Value.ref b] s) (F0 m 112 ls []) := by
  obtain ⟨hx, hb, hr, hml, hown, hts0, hX, hbl, hlocks, hgv⟩ := id C0
  have hts : ∀ w ∈ lw_g, w.before #[Value.ref b] s = true := fun w hw => hts0 w (List.mem_filter.mp hw).1
  have hbA : ¬ A b := by rw [← hA]; exact Nat.not_le.mpr hbl
  have hI0 := hI
  obtain ⟨r, w1, w2, e1, eO, e2, hI⟩ := hsys.2.2.1 j w (xs (x3 + 1).toNatClampNeg) (xs (x3 + 2).toNatClampNeg) (xs (x3 + 3).toNatClampNeg) hj hI
  refine lv_aload_n hx hb dL_law_112 rfl (lv_at hl 1 rfl) ?_
  refine lv_aload_n hx hb dL_law_113 rfl (lv_at hl 0 rfl) ?_
  refine lv_iload_n hx hb dL_law_114 rfl (lv_at hl 3 rfl) ?_
  refine lv_iconst (v := 1) hx hb dL_law_115 (by decide) ?_
  refine lv_iadd hx hb dL_law_116 ?_
  refine va_sld hx hb hX hbl hbA hS (hin 1 (by decide)) dL_law_117 ?_
  refine lv_aload_n hx hb dL_law_118 rfl (lv_at hl 0 rfl) ?_
  refine lv_iload_n hx hb dL_law_119 rfl (lv_at hl 3 rfl) ?_
  refine lv_iconst (v := 2) hx hb dL_law_120 (by decide) ?_
  refine lv_iadd hx hb dL_law_121 ?_
  refine va_sld hx hb hX hbl hbA hS (hin 2 (by decide)) dL_law_122 ?_
  refine lv_aload_n hx hb dL_law_123 rfl (lv_at hl 0 rfl) ?_
  refine lv_iload_n hx hb dL_law_124 rfl (lv_at hl 3 rfl) ?_
  refine lv_iconst (v := 3) hx hb dL_law_125 (by decide) ?_
  refine lv_iadd hx hb dL_law_126 ?_
  refine va_sld hx hb hX hbl hbA hS (hin 3 (by decide)) dL_law_127 ?_
  refine fx_vI (As := [.int (xs (x3 + 1).toNatClampNeg), .int (xs (x3 + 2).toNatClampNeg), .int (xs (x3 + 3).toNatClampNeg)]) (rest := []) hx hb hml hts hown hK hR hS (hsys.1 j w hI0).1 (mX6_put l D dA A e1) my_X6_put mv_X6_put rfl ml_L_13 rfl hl.1 rfl (Nat.le_of_ble_eq_true rfl) dL_law_128 ⟨Nat.le_of_ble_eq_true rfl, Nat.le_of_ble_eq_true rfl⟩ ⟨Nat.le_of_ble_eq_true rfl, Nat.le_of_ble_eq_true rfl⟩ (fun H locs hR hS => ?_)
  refine lv_aload_n hx hb dL_law_131 rfl (lv_at hl 2 rfl) ?_
  refine lv_aload_n hx hb dL_law_132 rfl (lv_at hl 0 rfl) ?_
  refine lv_iload_n hx hb dL_law_133 rfl (lv_at hl 3 rfl) ?_
  refine lv_iconst (v := 1) hx hb dL_law_134 (by decide) ?_
  refine lv_iadd hx hb dL_law_135 ?_
  refine va_sld hx hb hX hbl hbA hS (hin 1 (by decide)) dL_law_136 ?_
  refine lv_aload_n hx hb dL_law_137 rfl (lv_at hl 0 rfl) ?_
  refine lv_iload_n hx hb dL_law_138 rfl (lv_at hl 3 rfl) ?_
  refine lv_iconst (v := 2) hx hb dL_law_139 (by decide) ?_
  refine lv_iadd hx hb dL_law_140 ?_
  refine va_sld hx hb hX hbl hbA hS (hin 2 (by decide)) dL_law_141 ?_
  refine lv_aload_n hx hb dL_law_142 rfl (lv_at hl 0 rfl) ?_
  refine lv_iload_n hx hb dL_law_143 rfl (lv_at hl 3 rfl) ?_
  refine lv_iconst (v := 3) hx hb dL_law_144 (by decide) ?_
  refine lv_iadd hx hb dL_law_145 ?_
  refine va_sld hx hb hX hbl hbA hS (hin 3 (by decide)) dL_law_146 ?_
  refine fx_vI (As := [.int (xs (x3 + 1).toNatClampNeg), .int (xs (x3 + 2).toNatClampNeg), .int (xs (x3 + 3).toNatClampNeg)]) (rest := [.int r]) hx hb hml hts hown hK hR hS eO (mX7_put l D dA A e2) my_X7_put mv_X7_put rfl ml_L_17 rfl hl.1 rfl (Nat.le_of_ble_eq_true rfl) dL_law_147 ⟨Nat.le_of_ble_eq_true rfl, Nat.le_of_ble_eq_true rfl⟩ ⟨Nat.le_of_ble_eq_true rfl, Nat.le_of_ble_eq_true rfl⟩ (fun H locs hR hS => ?_)
  refine lv_icmp_eq (tgt := 640) hx hb dL_law_150 (by decide) (fun c => ?_) (fun c => absurd rfl c)
  exact hnext w2 hR hS hl hI
set_option maxRecDepth 100000 in
set_option maxHeartbeats 4000000 in
theorem law_c1 {p : Program} {l : Launch} {e : Env} {s : State} {m : MethodId} {below : List Frame} {meth : Method} {c : Code} {b L h mm : Nat} {xs : Nat → Int32} {D : va_G} {dA : Nat → ClassId} (hL : L ≤ 3072) (C0 : lw_At p s m meth c b L xs) (hK : Kp D dA s) {Inv : Nat → Fw → Prop} (hsys : SysOK h mm Inv) {A : Nat → Prop} (hA : (fun q : Nat => s.heap.size ≤ q) = A) {j : Nat} {x3 : Int32} {w : Fw} (ex3 : x3 = nI (6 * j)) (hj : j < 512) (hin : ∀ k : Int32, 0 ≤ k.toInt ∧ k.toInt < 6 → vp_in (x3 + k) L) (hnext : ∀ (w2 : Fw) {H : Heap} {locs : List Loc} {ls : Array Slot}, Rp D dA A w2 H → va_S A s.heap H locs → lv_has ls 4 [(0, .ref b), (1, .ref h), (2, .ref mm), (3, .int x3)] → Inv (j + 1) w2 → W p l e room_1 s m #[Value.ref b] below meth c H locs 173 8427 (lw_Z below #[Value.ref b] s) (F0 m 640 ls [])) (hI : Inv j w) {H : Heap} {locs : List Loc} {ls : Array Slot} (hR : Rp D dA A w H) (hS : va_S A s.heap H locs) (hl : lv_has ls 4 [(0, .ref b), (1, .ref h), (2, .ref mm), (3, .int x3)]) : W p l e room_1 s m #[Value.ref b] below meth c H locs 173 8427 (lw_Z below #[Value.ref b] s) (F0 m 155 ls []) := by
  obtain ⟨hx, hb, hr, hml, hown, hts0, hX, hbl, hlocks, hgv⟩ := id C0
  have hts : ∀ w ∈ lw_g, w.before #[Value.ref b] s = true := fun w hw => hts0 w (List.mem_filter.mp hw).1
  have hbA : ¬ A b := by rw [← hA]; exact Nat.not_le.mpr hbl
  have hI0 := hI
  obtain ⟨r, w1, w2, e1, eO, e2, hI⟩ := hsys.2.2.2.1 j w (xs (x3 + 1).toNatClampNeg) (xs (x3 + 2).toNatClampNeg) hj hI
  refine lv_aload_n hx hb dL_law_155 rfl (lv_at hl 1 rfl) ?_
  refine lv_aload_n hx hb dL_law_156 rfl (lv_at hl 0 rfl) ?_
  refine lv_iload_n hx hb dL_law_157 rfl (lv_at hl 3 rfl) ?_
  refine lv_iconst (v := 1) hx hb dL_law_158 (by decide) ?_
  refine lv_iadd hx hb dL_law_159 ?_
  refine va_sld hx hb hX hbl hbA hS (hin 1 (by decide)) dL_law_160 ?_
  refine lv_aload_n hx hb dL_law_161 rfl (lv_at hl 0 rfl) ?_
  refine lv_iload_n hx hb dL_law_162 rfl (lv_at hl 3 rfl) ?_
  refine lv_iconst (v := 2) hx hb dL_law_163 (by decide) ?_
  refine lv_iadd hx hb dL_law_164 ?_
  refine va_sld hx hb hX hbl hbA hS (hin 2 (by decide)) dL_law_165 ?_
  refine fx_vI (As := [.int (xs (x3 + 1).toNatClampNeg), .int (xs (x3 + 2).toNatClampNeg)]) (rest := []) hx hb hml hts hown hK hR hS (hsys.1 j w hI0).1 (mX6_cut l D dA A e1) my_X6_cut mv_X6_cut rfl ml_L_18 rfl hl.1 rfl (Nat.le_of_ble_eq_true rfl) dL_law_166 ⟨Nat.le_of_ble_eq_true rfl, Nat.le_of_ble_eq_true rfl⟩ ⟨Nat.le_of_ble_eq_true rfl, Nat.le_of_ble_eq_true rfl⟩ (fun H locs hR hS => ?_)
  refine lv_aload_n hx hb dL_law_169 rfl (lv_at hl 2 rfl) ?_
  refine lv_aload_n hx hb dL_law_170 rfl (lv_at hl 0 rfl) ?_
  refine lv_iload_n hx hb dL_law_171 rfl (lv_at hl 3 rfl) ?_
  refine lv_iconst (v := 1) hx hb dL_law_172 (by decide) ?_
  refine lv_iadd hx hb dL_law_173 ?_
  refine va_sld hx hb hX hbl hbA hS (hin 1 (by decide)) dL_law_174 ?_
  refine lv_aload_n hx hb dL_law_175 rfl (lv_at hl 0 rfl) ?_
  refine lv_iload_n hx hb dL_law_176 rfl (lv_at hl 3 rfl) ?_
  refine lv_iconst (v := 2) hx hb dL_law_177 (by decide) ?_
  refine lv_iadd hx hb dL_law_178 ?_
  refine va_sld hx hb hX hbl hbA hS (hin 2 (by decide)) dL_law_179 ?_
  refine fx_vI (As := [.int (xs (x3 + 1).toNatClampNeg), .int (xs (x3 + 2).toNatClampNeg)]) (rest := [.int r]) hx hb hml hts hown hK hR hS eO (mX7_cut l D dA A e2) my_X7_cut mv_X7_cut rfl ml_L_22 rfl hl.1 rfl (Nat.le_of_ble_eq_true rfl) dL_law_180 ⟨Nat.le_of_ble_eq_true rfl, Nat.le_of_ble_eq_true rfl⟩ ⟨Nat.le_of_ble_eq_true rfl, Nat.le_of_ble_eq_true rfl⟩ (fun H locs hR hS => ?_)
  refine lv_icmp_eq (tgt := 640) hx hb dL_law_183 (by decide) (fun c => ?_) (fun c => absurd rfl c)
  exact hnext w2 hR hS hl hI
set_option maxRecDepth 100000 in
set_option maxHeartbeats 4000000 in
theorem law_c2 {p : Program} {l : Launch} {e : Env} {s : State} {m : MethodId} {below : List Frame} {meth : Method} {c : Code} {b L h mm : Nat} {xs : Nat → Int32} {D : va_G} {dA : Nat → ClassId} (hL : L ≤ 3072) (C0 : lw_At p s m meth c b L xs) (hK : Kp D dA s) {Inv : Nat → Fw → Prop} (hsys : SysOK h mm Inv) {A : Nat → Prop} (hA : (fun q : Nat => s.heap.size ≤ q) = A) {j : Nat} {x3 : Int32} {w : Fw} (ex3 : x3 = nI (6 * j)) (hj : j < 512) (hin : ∀ k : Int32, 0 ≤ k.toInt ∧ k.toInt < 6 → vp_in (x3 + k) L) (hnext : ∀ (w2 : Fw) {H : Heap} {locs : List Loc} {ls : Array Slot}, Rp D dA A w2 H → va_S A s.heap H locs → lv_has ls 4 [(0, .ref b), (1, .ref h), (2, .ref mm), (3, .int x3)] → Inv (j + 1) w2 → W p l e room_1 s m #[Value.ref b] below meth c H locs 173 8427 (lw_Z below #[Value.ref b] s) (F0 m 640 ls [])) (hI : Inv j w) {H : Heap} {locs : List Loc} {ls : Array Slot} (hR : Rp D dA A w H) (hS : va_S A s.heap H locs) (hl : lv_has ls 4 [(0, .ref b), (1, .ref h), (2, .ref mm), (3, .int x3)]) : W p l e room_1 s m #[Value.ref b] below meth c H locs 173 8427 (lw_Z below #[Value.ref b] s) (F0 m 188 ls []) := by
  obtain ⟨hx, hb, hr, hml, hown, hts0, hX, hbl, hlocks, hgv⟩ := id C0
  have hts : ∀ w ∈ lw_g, w.before #[Value.ref b] s = true := fun w hw => hts0 w (List.mem_filter.mp hw).1
  have hbA : ¬ A b := by rw [← hA]; exact Nat.not_le.mpr hbl
  have hI0 := hI
  obtain ⟨r, w1, w2, e1, eO, e2, hI⟩ := hsys.2.2.2.2.1 j w (xs (x3 + 1).toNatClampNeg) (xs (x3 + 2).toNatClampNeg) (xs (x3 + 3).toNatClampNeg) hj hI
  refine lv_aload_n hx hb dL_law_188 rfl (lv_at hl 1 rfl) ?_
  refine lv_aload_n hx hb dL_law_189 rfl (lv_at hl 0 rfl) ?_
  refine lv_iload_n hx hb dL_law_190 rfl (lv_at hl 3 rfl) ?_
  refine lv_iconst (v := 1) hx hb dL_law_191 (by decide) ?_
  refine lv_iadd hx hb dL_law_192 ?_
  refine va_sld hx hb hX hbl hbA hS (hin 1 (by decide)) dL_law_193 ?_
  refine lv_aload_n hx hb dL_law_194 rfl (lv_at hl 0 rfl) ?_
  refine lv_iload_n hx hb dL_law_195 rfl (lv_at hl 3 rfl) ?_
  refine lv_iconst (v := 2) hx hb dL_law_196 (by decide) ?_
  refine lv_iadd hx hb dL_law_197 ?_
  refine va_sld hx hb hX hbl hbA hS (hin 2 (by decide)) dL_law_198 ?_
  refine lv_aload_n hx hb dL_law_199 rfl (lv_at hl 0 rfl) ?_
  refine lv_iload_n hx hb dL_law_200 rfl (lv_at hl 3 rfl) ?_
  refine lv_iconst (v := 3) hx hb dL_law_201 (by decide) ?_
  refine lv_iadd hx hb dL_law_202 ?_
  refine va_sld hx hb hX hbl hbA hS (hin 3 (by decide)) dL_law_203 ?_
  refine fx_vI (As := [.int (xs (x3 + 1).toNatClampNeg), .int (xs (x3 + 2).toNatClampNeg), .int (xs (x3 + 3).toNatClampNeg)]) (rest := []) hx hb hml hts hown hK hR hS (hsys.1 j w hI0).1 (mX6_change l D dA A e1) my_X6_change mv_X6_change rfl ml_L_23 rfl hl.1 rfl (Nat.le_of_ble_eq_true rfl) dL_law_204 ⟨Nat.le_of_ble_eq_true rfl, Nat.le_of_ble_eq_true rfl⟩ ⟨Nat.le_of_ble_eq_true rfl, Nat.le_of_ble_eq_true rfl⟩ (fun H locs hR hS => ?_)
  refine lv_aload_n hx hb dL_law_207 rfl (lv_at hl 2 rfl) ?_
  refine lv_aload_n hx hb dL_law_208 rfl (lv_at hl 0 rfl) ?_
  refine lv_iload_n hx hb dL_law_209 rfl (lv_at hl 3 rfl) ?_
  refine lv_iconst (v := 1) hx hb dL_law_210 (by decide) ?_
  refine lv_iadd hx hb dL_law_211 ?_
  refine va_sld hx hb hX hbl hbA hS (hin 1 (by decide)) dL_law_212 ?_
  refine lv_aload_n hx hb dL_law_213 rfl (lv_at hl 0 rfl) ?_
  refine lv_iload_n hx hb dL_law_214 rfl (lv_at hl 3 rfl) ?_
  refine lv_iconst (v := 2) hx hb dL_law_215 (by decide) ?_
  refine lv_iadd hx hb dL_law_216 ?_
  refine va_sld hx hb hX hbl hbA hS (hin 2 (by decide)) dL_law_217 ?_
  refine lv_aload_n hx hb dL_law_218 rfl (lv_at hl 0 rfl) ?_
  refine lv_iload_n hx hb dL_law_219 rfl (lv_at hl 3 rfl) ?_
  refine lv_iconst (v := 3) hx hb dL_law_220 (by decide) ?_
  refine lv_iadd hx hb dL_law_221 ?_
  refine va_sld hx hb hX hbl hbA hS (hin 3 (by decide)) dL_law_222 ?_
  refine fx_vI (As := [.int (xs (x3 + 1).toNatClampNeg), .int (xs (x3 + 2).toNatClampNeg), .int (xs (x3 + 3).toNatClampNeg)]) (rest := [.int r]) hx hb hml hts hown hK hR hS eO (mX7_change l D dA A e2) my_X7_change mv_X7_change rfl ml_L_27 rfl hl.1 rfl (Nat.le_of_ble_eq_true rfl) dL_law_223 ⟨Nat.le_of_ble_eq_true rfl, Nat.le_of_ble_eq_true rfl⟩ ⟨Nat.le_of_ble_eq_true rfl, Nat.le_of_ble_eq_true rfl⟩ (fun H locs hR hS => ?_)
  refine lv_icmp_eq (tgt := 640) hx hb dL_law_226 (by decide) (fun c => ?_) (fun c => absurd rfl c)
  exact hnext w2 hR hS hl hI
set_option maxRecDepth 100000 in
set_option maxHeartbeats 4000000 in
theorem law_c3 {p : Program} {l : Launch} {e : Env} {s : State} {m : MethodId} {below : List Frame} {meth : Method} {c : Code} {b L h mm : Nat} {xs : Nat → Int32} {D : va_G} {dA : Nat → ClassId} (hL : L ≤ 3072) (C0 : lw_At p s m meth c b L xs) (hK : Kp D dA s) {Inv : Nat → Fw → Prop} (hsys : SysOK h mm Inv) {A : Nat → Prop} (hA : (fun q : Nat => s.heap.size ≤ q) = A) {j : Nat} {x3 : Int32} {w : Fw} (ex3 : x3 = nI (6 * j)) (hj : j < 512) (hin : ∀ k : Int32, 0 ≤ k.toInt ∧ k.toInt < 6 → vp_in (x3 + k) L) (hnext : ∀ (w2 : Fw) {H : Heap} {locs : List Loc} {ls : Array Slot}, Rp D dA A w2 H → va_S A s.heap H locs → lv_has ls 4 [(0, .ref b), (1, .ref h), (2, .ref mm), (3, .int x3)] → Inv (j + 1) w2 → W p l e room_1 s m #[Value.ref b] below meth c H locs 173 8427 (lw_Z below #[Value.ref b] s) (F0 m 640 ls [])) (hI : Inv j w) {H : Heap} {locs : List Loc} {ls : Array Slot} (hR : Rp D dA A w H) (hS : va_S A s.heap H locs) (hl : lv_has ls 4 [(0, .ref b), (1, .ref h), (2, .ref mm), (3, .int x3)]) : W p l e room_1 s m #[Value.ref b] below meth c H locs 173 8427 (lw_Z below #[Value.ref b] s) (F0 m 231 ls []) := by
  obtain ⟨hx, hb, hr, hml, hown, hts0, hX, hbl, hlocks, hgv⟩ := id C0
  have hts : ∀ w ∈ lw_g, w.before #[Value.ref b] s = true := fun w hw => hts0 w (List.mem_filter.mp hw).1
  have hbA : ¬ A b := by rw [← hA]; exact Nat.not_le.mpr hbl
  have hI0 := hI
  obtain ⟨r, w1, w2, e1, eO, e2, hI⟩ := hsys.2.2.2.2.2.1 j w (xs (x3 + 1).toNatClampNeg) (xs (x3 + 2).toNatClampNeg) (xs (x3 + 3).toNatClampNeg) (xs (x3 + 4).toNatClampNeg) (xs (x3 + 5).toNatClampNeg) hj hI
  refine lv_aload_n hx hb dL_law_231 rfl (lv_at hl 1 rfl) ?_
  refine lv_aload_n hx hb dL_law_232 rfl (lv_at hl 0 rfl) ?_
  refine lv_iload_n hx hb dL_law_233 rfl (lv_at hl 3 rfl) ?_
  refine lv_iconst (v := 1) hx hb dL_law_234 (by decide) ?_
  refine lv_iadd hx hb dL_law_235 ?_
  refine va_sld hx hb hX hbl hbA hS (hin 1 (by decide)) dL_law_236 ?_
  refine lv_aload_n hx hb dL_law_237 rfl (lv_at hl 0 rfl) ?_
  refine lv_iload_n hx hb dL_law_238 rfl (lv_at hl 3 rfl) ?_
  refine lv_iconst (v := 2) hx hb dL_law_239 (by decide) ?_
  refine lv_iadd hx hb dL_law_240 ?_
  refine va_sld hx hb hX hbl hbA hS (hin 2 (by decide)) dL_law_241 ?_
  refine lv_aload_n hx hb dL_law_242 rfl (lv_at hl 0 rfl) ?_
  refine lv_iload_n hx hb dL_law_243 rfl (lv_at hl 3 rfl) ?_
  refine lv_iconst (v := 3) hx hb dL_law_244 (by decide) ?_
  refine lv_iadd hx hb dL_law_245 ?_
  refine va_sld hx hb hX hbl hbA hS (hin 3 (by decide)) dL_law_246 ?_
  refine lv_aload_n hx hb dL_law_247 rfl (lv_at hl 0 rfl) ?_
  refine lv_iload_n hx hb dL_law_248 rfl (lv_at hl 3 rfl) ?_
  refine lv_iconst (v := 4) hx hb dL_law_249 (by decide) ?_
  refine lv_iadd hx hb dL_law_250 ?_
  refine va_sld hx hb hX hbl hbA hS (hin 4 (by decide)) dL_law_251 ?_
  refine lv_aload_n hx hb dL_law_252 rfl (lv_at hl 0 rfl) ?_
  refine lv_iload_n hx hb dL_law_253 rfl (lv_at hl 3 rfl) ?_
  refine lv_iconst (v := 5) hx hb dL_law_254 (by decide) ?_
  refine lv_iadd hx hb dL_law_255 ?_
  refine va_sld hx hb hX hbl hbA hS (hin 5 (by decide)) dL_law_256 ?_
  refine fx_vI (As := [.int (xs (x3 + 1).toNatClampNeg), .int (xs (x3 + 2).toNatClampNeg), .int (xs (x3 + 3).toNatClampNeg), .int (xs (x3 + 4).toNatClampNeg), .int (xs (x3 + 5).toNatClampNeg)]) (rest := []) hx hb hml hts hown hK hR hS (hsys.1 j w hI0).1 (mX6_feed l D dA A e1) my_X6_feed mv_X6_feed rfl ml_L_28 rfl hl.1 rfl (Nat.le_of_ble_eq_true rfl) dL_law_257 ⟨Nat.le_of_ble_eq_true rfl, Nat.le_of_ble_eq_true rfl⟩ ⟨Nat.le_of_ble_eq_true rfl, Nat.le_of_ble_eq_true rfl⟩ (fun H locs hR hS => ?_)
  refine lv_aload_n hx hb dL_law_260 rfl (lv_at hl 2 rfl) ?_
  refine lv_aload_n hx hb dL_law_261 rfl (lv_at hl 0 rfl) ?_
  refine lv_iload_n hx hb dL_law_262 rfl (lv_at hl 3 rfl) ?_
  refine lv_iconst (v := 1) hx hb dL_law_263 (by decide) ?_
  refine lv_iadd hx hb dL_law_264 ?_
  refine va_sld hx hb hX hbl hbA hS (hin 1 (by decide)) dL_law_265 ?_
  refine lv_aload_n hx hb dL_law_266 rfl (lv_at hl 0 rfl) ?_
  refine lv_iload_n hx hb dL_law_267 rfl (lv_at hl 3 rfl) ?_
  refine lv_iconst (v := 2) hx hb dL_law_268 (by decide) ?_
  refine lv_iadd hx hb dL_law_269 ?_
  refine va_sld hx hb hX hbl hbA hS (hin 2 (by decide)) dL_law_270 ?_
  refine lv_aload_n hx hb dL_law_271 rfl (lv_at hl 0 rfl) ?_
  refine lv_iload_n hx hb dL_law_272 rfl (lv_at hl 3 rfl) ?_
  refine lv_iconst (v := 3) hx hb dL_law_273 (by decide) ?_
  refine lv_iadd hx hb dL_law_274 ?_
  refine va_sld hx hb hX hbl hbA hS (hin 3 (by decide)) dL_law_275 ?_
  refine lv_aload_n hx hb dL_law_276 rfl (lv_at hl 0 rfl) ?_
  refine lv_iload_n hx hb dL_law_277 rfl (lv_at hl 3 rfl) ?_
  refine lv_iconst (v := 4) hx hb dL_law_278 (by decide) ?_
  refine lv_iadd hx hb dL_law_279 ?_
  refine va_sld hx hb hX hbl hbA hS (hin 4 (by decide)) dL_law_280 ?_
  refine lv_aload_n hx hb dL_law_281 rfl (lv_at hl 0 rfl) ?_
  refine lv_iload_n hx hb dL_law_282 rfl (lv_at hl 3 rfl) ?_
  refine lv_iconst (v := 5) hx hb dL_law_283 (by decide) ?_
  refine lv_iadd hx hb dL_law_284 ?_
  refine va_sld hx hb hX hbl hbA hS (hin 5 (by decide)) dL_law_285 ?_
  refine fx_vI (As := [.int (xs (x3 + 1).toNatClampNeg), .int (xs (x3 + 2).toNatClampNeg), .int (xs (x3 + 3).toNatClampNeg), .int (xs (x3 + 4).toNatClampNeg), .int (xs (x3 + 5).toNatClampNeg)]) (rest := [.int r]) hx hb hml hts hown hK hR hS eO (mX7_feed l D dA A e2) my_X7_feed mv_X7_feed rfl ml_L_32 rfl hl.1 rfl (Nat.le_of_ble_eq_true rfl) dL_law_286 ⟨Nat.le_of_ble_eq_true rfl, Nat.le_of_ble_eq_true rfl⟩ ⟨Nat.le_of_ble_eq_true rfl, Nat.le_of_ble_eq_true rfl⟩ (fun H locs hR hS => ?_)
  refine lv_icmp_eq (tgt := 640) hx hb dL_law_289 (by decide) (fun c => ?_) (fun c => absurd rfl c)
  exact hnext w2 hR hS hl hI
set_option maxRecDepth 100000 in
set_option maxHeartbeats 4000000 in
theorem law_c4 {p : Program} {l : Launch} {e : Env} {s : State} {m : MethodId} {below : List Frame} {meth : Method} {c : Code} {b L h mm : Nat} {xs : Nat → Int32} {D : va_G} {dA : Nat → ClassId} (hL : L ≤ 3072) (C0 : lw_At p s m meth c b L xs) (hK : Kp D dA s) {Inv : Nat → Fw → Prop} (hsys : SysOK h mm Inv) {A : Nat → Prop} (hA : (fun q : Nat => s.heap.size ≤ q) = A) {j : Nat} {x3 : Int32} {w : Fw} (ex3 : x3 = nI (6 * j)) (hj : j < 512) (hin : ∀ k : Int32, 0 ≤ k.toInt ∧ k.toInt < 6 → vp_in (x3 + k) L) (hnext : ∀ (w2 : Fw) {H : Heap} {locs : List Loc} {ls : Array Slot}, Rp D dA A w2 H → va_S A s.heap H locs → lv_has ls 4 [(0, .ref b), (1, .ref h), (2, .ref mm), (3, .int x3)] → Inv (j + 1) w2 → W p l e room_1 s m #[Value.ref b] below meth c H locs 173 8427 (lw_Z below #[Value.ref b] s) (F0 m 640 ls [])) (hI : Inv j w) {H : Heap} {locs : List Loc} {ls : Array Slot} (hR : Rp D dA A w H) (hS : va_S A s.heap H locs) (hl : lv_has ls 4 [(0, .ref b), (1, .ref h), (2, .ref mm), (3, .int x3)]) : W p l e room_1 s m #[Value.ref b] below meth c H locs 173 8427 (lw_Z below #[Value.ref b] s) (F0 m 294 ls []) := by
  obtain ⟨hx, hb, hr, hml, hown, hts0, hX, hbl, hlocks, hgv⟩ := id C0
  have hts : ∀ w ∈ lw_g, w.before #[Value.ref b] s = true := fun w hw => hts0 w (List.mem_filter.mp hw).1
  have hbA : ¬ A b := by rw [← hA]; exact Nat.not_le.mpr hbl
  have hI0 := hI
  obtain ⟨r, w1, w2, e1, eO, e2, hI⟩ := hsys.2.2.2.2.2.2.1 j w (xs (x3 + 1).toNatClampNeg) hj hI
  refine lv_aload_n hx hb dL_law_294 rfl (lv_at hl 1 rfl) ?_
  refine lv_aload_n hx hb dL_law_295 rfl (lv_at hl 0 rfl) ?_
  refine lv_iload_n hx hb dL_law_296 rfl (lv_at hl 3 rfl) ?_
  refine lv_iconst (v := 1) hx hb dL_law_297 (by decide) ?_
  refine lv_iadd hx hb dL_law_298 ?_
  refine va_sld hx hb hX hbl hbA hS (hin 1 (by decide)) dL_law_299 ?_
  refine fx_vI (As := [.int (xs (x3 + 1).toNatClampNeg)]) (rest := []) hx hb hml hts hown hK hR hS (hsys.1 j w hI0).1 (mX6_end l D dA A e1) my_X6_end mv_X6_end rfl ml_L_33 rfl hl.1 rfl (Nat.le_of_ble_eq_true rfl) dL_law_300 ⟨Nat.le_of_ble_eq_true rfl, Nat.le_of_ble_eq_true rfl⟩ ⟨Nat.le_of_ble_eq_true rfl, Nat.le_of_ble_eq_true rfl⟩ (fun H locs hR hS => ?_)
  refine lv_aload_n hx hb dL_law_303 rfl (lv_at hl 2 rfl) ?_
  refine lv_aload_n hx hb dL_law_304 rfl (lv_at hl 0 rfl) ?_
  refine lv_iload_n hx hb dL_law_305 rfl (lv_at hl 3 rfl) ?_
  refine lv_iconst (v := 1) hx hb dL_law_306 (by decide) ?_
  refine lv_iadd hx hb dL_law_307 ?_
  refine va_sld hx hb hX hbl hbA hS (hin 1 (by decide)) dL_law_308 ?_
  refine fx_vI (As := [.int (xs (x3 + 1).toNatClampNeg)]) (rest := [.int r]) hx hb hml hts hown hK hR hS eO (mX7_end l D dA A e2) my_X7_end mv_X7_end rfl ml_L_37 rfl hl.1 rfl (Nat.le_of_ble_eq_true rfl) dL_law_309 ⟨Nat.le_of_ble_eq_true rfl, Nat.le_of_ble_eq_true rfl⟩ ⟨Nat.le_of_ble_eq_true rfl, Nat.le_of_ble_eq_true rfl⟩ (fun H locs hR hS => ?_)
  refine lv_icmp_eq (tgt := 640) hx hb dL_law_312 (by decide) (fun c => ?_) (fun c => absurd rfl c)
  exact hnext w2 hR hS hl hI
set_option maxRecDepth 100000 in
set_option maxHeartbeats 4000000 in
theorem law_c5 {p : Program} {l : Launch} {e : Env} {s : State} {m : MethodId} {below : List Frame} {meth : Method} {c : Code} {b L h mm : Nat} {xs : Nat → Int32} {D : va_G} {dA : Nat → ClassId} (hL : L ≤ 3072) (C0 : lw_At p s m meth c b L xs) (hK : Kp D dA s) {Inv : Nat → Fw → Prop} (hsys : SysOK h mm Inv) {A : Nat → Prop} (hA : (fun q : Nat => s.heap.size ≤ q) = A) {j : Nat} {x3 : Int32} {w : Fw} (ex3 : x3 = nI (6 * j)) (hj : j < 512) (hin : ∀ k : Int32, 0 ≤ k.toInt ∧ k.toInt < 6 → vp_in (x3 + k) L) (hnext : ∀ (w2 : Fw) {H : Heap} {locs : List Loc} {ls : Array Slot}, Rp D dA A w2 H → va_S A s.heap H locs → lv_has ls 4 [(0, .ref b), (1, .ref h), (2, .ref mm), (3, .int x3)] → Inv (j + 1) w2 → W p l e room_1 s m #[Value.ref b] below meth c H locs 173 8427 (lw_Z below #[Value.ref b] s) (F0 m 640 ls [])) (hI : Inv j w) {H : Heap} {locs : List Loc} {ls : Array Slot} (hR : Rp D dA A w H) (hS : va_S A s.heap H locs) (hl : lv_has ls 4 [(0, .ref b), (1, .ref h), (2, .ref mm), (3, .int x3)]) : W p l e room_1 s m #[Value.ref b] below meth c H locs 173 8427 (lw_Z below #[Value.ref b] s) (F0 m 317 ls []) := by
  obtain ⟨hx, hb, hr, hml, hown, hts0, hX, hbl, hlocks, hgv⟩ := id C0
  have hts : ∀ w ∈ lw_g, w.before #[Value.ref b] s = true := fun w hw => hts0 w (List.mem_filter.mp hw).1
  have hbA : ¬ A b := by rw [← hA]; exact Nat.not_le.mpr hbl
  have hI0 := hI
  obtain ⟨r, w1, w2, e1, eO, e2, hI⟩ := hsys.2.2.2.2.2.2.2.1 j w (xs (x3 + 1).toNatClampNeg) hj hI
  refine lv_aload_n hx hb dL_law_317 rfl (lv_at hl 1 rfl) ?_
  refine lv_aload_n hx hb dL_law_318 rfl (lv_at hl 0 rfl) ?_
  refine lv_iload_n hx hb dL_law_319 rfl (lv_at hl 3 rfl) ?_
  refine lv_iconst (v := 1) hx hb dL_law_320 (by decide) ?_
  refine lv_iadd hx hb dL_law_321 ?_
  refine va_sld hx hb hX hbl hbA hS (hin 1 (by decide)) dL_law_322 ?_
  refine fx_vI (As := [.int (xs (x3 + 1).toNatClampNeg)]) (rest := []) hx hb hml hts hown hK hR hS (hsys.1 j w hI0).1 (mX6_load l D dA A e1) my_X6_load mv_X6_load rfl ml_L_38 rfl hl.1 rfl (Nat.le_of_ble_eq_true rfl) dL_law_323 ⟨Nat.le_of_ble_eq_true rfl, Nat.le_of_ble_eq_true rfl⟩ ⟨Nat.le_of_ble_eq_true rfl, Nat.le_of_ble_eq_true rfl⟩ (fun H locs hR hS => ?_)
  refine lv_aload_n hx hb dL_law_326 rfl (lv_at hl 2 rfl) ?_
  refine lv_aload_n hx hb dL_law_327 rfl (lv_at hl 0 rfl) ?_
  refine lv_iload_n hx hb dL_law_328 rfl (lv_at hl 3 rfl) ?_
  refine lv_iconst (v := 1) hx hb dL_law_329 (by decide) ?_
  refine lv_iadd hx hb dL_law_330 ?_
  refine va_sld hx hb hX hbl hbA hS (hin 1 (by decide)) dL_law_331 ?_
  refine fx_vI (As := [.int (xs (x3 + 1).toNatClampNeg)]) (rest := [.int r]) hx hb hml hts hown hK hR hS eO (mX7_load l D dA A e2) my_X7_load mv_X7_load rfl ml_L_42 rfl hl.1 rfl (Nat.le_of_ble_eq_true rfl) dL_law_332 ⟨Nat.le_of_ble_eq_true rfl, Nat.le_of_ble_eq_true rfl⟩ ⟨Nat.le_of_ble_eq_true rfl, Nat.le_of_ble_eq_true rfl⟩ (fun H locs hR hS => ?_)
  refine lv_icmp_eq (tgt := 640) hx hb dL_law_335 (by decide) (fun c => ?_) (fun c => absurd rfl c)
  exact hnext w2 hR hS hl hI
set_option maxRecDepth 100000 in
set_option maxHeartbeats 4000000 in
theorem law_c6 {p : Program} {l : Launch} {e : Env} {s : State} {m : MethodId} {below : List Frame} {meth : Method} {c : Code} {b L h mm : Nat} {xs : Nat → Int32} {D : va_G} {dA : Nat → ClassId} (hL : L ≤ 3072) (C0 : lw_At p s m meth c b L xs) (hK : Kp D dA s) {Inv : Nat → Fw → Prop} (hsys : SysOK h mm Inv) {A : Nat → Prop} (hA : (fun q : Nat => s.heap.size ≤ q) = A) {j : Nat} {x3 : Int32} {w : Fw} (ex3 : x3 = nI (6 * j)) (hj : j < 512) (hin : ∀ k : Int32, 0 ≤ k.toInt ∧ k.toInt < 6 → vp_in (x3 + k) L) (hnext : ∀ (w2 : Fw) {H : Heap} {locs : List Loc} {ls : Array Slot}, Rp D dA A w2 H → va_S A s.heap H locs → lv_has ls 4 [(0, .ref b), (1, .ref h), (2, .ref mm), (3, .int x3)] → Inv (j + 1) w2 → W p l e room_1 s m #[Value.ref b] below meth c H locs 173 8427 (lw_Z below #[Value.ref b] s) (F0 m 640 ls [])) (hI : Inv j w) {H : Heap} {locs : List Loc} {ls : Array Slot} (hR : Rp D dA A w H) (hS : va_S A s.heap H locs) (hl : lv_has ls 4 [(0, .ref b), (1, .ref h), (2, .ref mm), (3, .int x3)]) : W p l e room_1 s m #[Value.ref b] below meth c H locs 173 8427 (lw_Z below #[Value.ref b] s) (F0 m 340 ls []) := by
  obtain ⟨hx, hb, hr, hml, hown, hts0, hX, hbl, hlocks, hgv⟩ := id C0
  have hts : ∀ w ∈ lw_g, w.before #[Value.ref b] s = true := fun w hw => hts0 w (List.mem_filter.mp hw).1
  have hbA : ¬ A b := by rw [← hA]; exact Nat.not_le.mpr hbl
  have hI0 := hI
  obtain ⟨r, w1, w2, e1, eO, e2, hI⟩ := hsys.2.2.2.2.2.2.2.2.1 j w (xs (x3 + 1).toNatClampNeg) hj hI
  refine lv_aload_n hx hb dL_law_340 rfl (lv_at hl 1 rfl) ?_
  refine lv_aload_n hx hb dL_law_341 rfl (lv_at hl 0 rfl) ?_
  refine lv_iload_n hx hb dL_law_342 rfl (lv_at hl 3 rfl) ?_
  refine lv_iconst (v := 1) hx hb dL_law_343 (by decide) ?_
  refine lv_iadd hx hb dL_law_344 ?_
  refine va_sld hx hb hX hbl hbA hS (hin 1 (by decide)) dL_law_345 ?_
  refine fx_vI (As := [.int (xs (x3 + 1).toNatClampNeg)]) (rest := []) hx hb hml hts hown hK hR hS (hsys.1 j w hI0).1 (mX6_bad l D dA A e1) my_X6_bad mv_X6_bad rfl ml_L_43 rfl hl.1 rfl (Nat.le_of_ble_eq_true rfl) dL_law_346 ⟨Nat.le_of_ble_eq_true rfl, Nat.le_of_ble_eq_true rfl⟩ ⟨Nat.le_of_ble_eq_true rfl, Nat.le_of_ble_eq_true rfl⟩ (fun H locs hR hS => ?_)
  refine lv_aload_n hx hb dL_law_349 rfl (lv_at hl 2 rfl) ?_
  refine lv_aload_n hx hb dL_law_350 rfl (lv_at hl 0 rfl) ?_
  refine lv_iload_n hx hb dL_law_351 rfl (lv_at hl 3 rfl) ?_
  refine lv_iconst (v := 1) hx hb dL_law_352 (by decide) ?_
  refine lv_iadd hx hb dL_law_353 ?_
  refine va_sld hx hb hX hbl hbA hS (hin 1 (by decide)) dL_law_354 ?_
  refine fx_vI (As := [.int (xs (x3 + 1).toNatClampNeg)]) (rest := [.int r]) hx hb hml hts hown hK hR hS eO (mX7_bad l D dA A e2) my_X7_bad mv_X7_bad rfl ml_L_46 rfl hl.1 rfl (Nat.le_of_ble_eq_true rfl) dL_law_355 ⟨Nat.le_of_ble_eq_true rfl, Nat.le_of_ble_eq_true rfl⟩ ⟨Nat.le_of_ble_eq_true rfl, Nat.le_of_ble_eq_true rfl⟩ (fun H locs hR hS => ?_)
  refine lv_icmp_eq (tgt := 640) hx hb dL_law_358 (by decide) (fun c => ?_) (fun c => absurd rfl c)
  exact hnext w2 hR hS hl hI
set_option maxRecDepth 100000 in
set_option maxHeartbeats 4000000 in
theorem law_c7 {p : Program} {l : Launch} {e : Env} {s : State} {m : MethodId} {below : List Frame} {meth : Method} {c : Code} {b L h mm : Nat} {xs : Nat → Int32} {D : va_G} {dA : Nat → ClassId} (hL : L ≤ 3072) (C0 : lw_At p s m meth c b L xs) (hK : Kp D dA s) {Inv : Nat → Fw → Prop} (hsys : SysOK h mm Inv) {A : Nat → Prop} (hA : (fun q : Nat => s.heap.size ≤ q) = A) {j : Nat} {x3 : Int32} {w : Fw} (ex3 : x3 = nI (6 * j)) (hj : j < 512) (hin : ∀ k : Int32, 0 ≤ k.toInt ∧ k.toInt < 6 → vp_in (x3 + k) L) (hnext : ∀ (w2 : Fw) {H : Heap} {locs : List Loc} {ls : Array Slot}, Rp D dA A w2 H → va_S A s.heap H locs → lv_has ls 4 [(0, .ref b), (1, .ref h), (2, .ref mm), (3, .int x3)] → Inv (j + 1) w2 → W p l e room_1 s m #[Value.ref b] below meth c H locs 173 8427 (lw_Z below #[Value.ref b] s) (F0 m 640 ls [])) (hI : Inv j w) {H : Heap} {locs : List Loc} {ls : Array Slot} (hR : Rp D dA A w H) (hS : va_S A s.heap H locs) (hl : lv_has ls 4 [(0, .ref b), (1, .ref h), (2, .ref mm), (3, .int x3)]) : W p l e room_1 s m #[Value.ref b] below meth c H locs 173 8427 (lw_Z below #[Value.ref b] s) (F0 m 363 ls []) := by
  obtain ⟨hx, hb, hr, hml, hown, hts0, hX, hbl, hlocks, hgv⟩ := id C0
  have hts : ∀ w ∈ lw_g, w.before #[Value.ref b] s = true := fun w hw => hts0 w (List.mem_filter.mp hw).1
  have hbA : ¬ A b := by rw [← hA]; exact Nat.not_le.mpr hbl
  have hI0 := hI
  obtain ⟨r, w1, w2, e1, eO, e2, hI⟩ := hsys.2.2.2.2.2.2.2.2.2.1 j w  hj hI
  refine lv_aload_n hx hb dL_law_363 rfl (lv_at hl 1 rfl) ?_
  refine fx_vI (As := []) (rest := []) hx hb hml hts hown hK hR hS (hsys.1 j w hI0).1 (mX6_day l D dA A e1) my_X6_day mv_X6_day rfl ml_L_47 rfl hl.1 rfl (Nat.le_of_ble_eq_true rfl) dL_law_364 ⟨Nat.le_of_ble_eq_true rfl, Nat.le_of_ble_eq_true rfl⟩ ⟨Nat.le_of_ble_eq_true rfl, Nat.le_of_ble_eq_true rfl⟩ (fun H locs hR hS => ?_)
  refine lv_aload_n hx hb dL_law_367 rfl (lv_at hl 2 rfl) ?_
  refine fx_vI (As := []) (rest := [.int r]) hx hb hml hts hown hK hR hS eO (mX7_day l D dA A e2) my_X7_day mv_X7_day rfl ml_L_51 rfl hl.1 rfl (Nat.le_of_ble_eq_true rfl) dL_law_368 ⟨Nat.le_of_ble_eq_true rfl, Nat.le_of_ble_eq_true rfl⟩ ⟨Nat.le_of_ble_eq_true rfl, Nat.le_of_ble_eq_true rfl⟩ (fun H locs hR hS => ?_)
  refine lv_icmp_eq (tgt := 640) hx hb dL_law_371 (by decide) (fun c => ?_) (fun c => absurd rfl c)
  exact hnext w2 hR hS hl hI
set_option maxRecDepth 100000 in
set_option maxHeartbeats 4000000 in
theorem law_c8 {p : Program} {l : Launch} {e : Env} {s : State} {m : MethodId} {below : List Frame} {meth : Method} {c : Code} {b L h mm : Nat} {xs : Nat → Int32} {D : va_G} {dA : Nat → ClassId} (hL : L ≤ 3072) (C0 : lw_At p s m meth c b L xs) (hK : Kp D dA s) {Inv : Nat → Fw → Prop} (hsys : SysOK h mm Inv) {A : Nat → Prop} (hA : (fun q : Nat => s.heap.size ≤ q) = A) {j : Nat} {x3 : Int32} {w : Fw} (ex3 : x3 = nI (6 * j)) (hj : j < 512) (hin : ∀ k : Int32, 0 ≤ k.toInt ∧ k.toInt < 6 → vp_in (x3 + k) L) (hnext : ∀ (w2 : Fw) {H : Heap} {locs : List Loc} {ls : Array Slot}, Rp D dA A w2 H → va_S A s.heap H locs → lv_has ls 4 [(0, .ref b), (1, .ref h), (2, .ref mm), (3, .int x3)] → Inv (j + 1) w2 → W p l e room_1 s m #[Value.ref b] below meth c H locs 173 8427 (lw_Z below #[Value.ref b] s) (F0 m 640 ls [])) (hI : Inv j w) {H : Heap} {locs : List Loc} {ls : Array Slot} (hR : Rp D dA A w H) (hS : va_S A s.heap H locs) (hl : lv_has ls 4 [(0, .ref b), (1, .ref h), (2, .ref mm), (3, .int x3)]) : W p l e room_1 s m #[Value.ref b] below meth c H locs 173 8427 (lw_Z below #[Value.ref b] s) (F0 m 376 ls []) := by
  obtain ⟨hx, hb, hr, hml, hown, hts0, hX, hbl, hlocks, hgv⟩ := id C0
  have hts : ∀ w ∈ lw_g, w.before #[Value.ref b] s = true := fun w hw => hts0 w (List.mem_filter.mp hw).1
  have hbA : ¬ A b := by rw [← hA]; exact Nat.not_le.mpr hbl
  have hI0 := hI
  obtain ⟨r, e1, e2⟩ := hsys.2.2.2.2.2.2.2.2.2.2.1 j w (xs (x3 + 1).toNatClampNeg) hj hI
  refine lv_aload_n hx hb dL_law_376 rfl (lv_at hl 1 rfl) ?_
  refine lv_aload_n hx hb dL_law_377 rfl (lv_at hl 0 rfl) ?_
  refine lv_iload_n hx hb dL_law_378 rfl (lv_at hl 3 rfl) ?_
  refine lv_iconst (v := 1) hx hb dL_law_379 (by decide) ?_
  refine lv_iadd hx hb dL_law_380 ?_
  refine va_sld hx hb hX hbl hbA hS (hin 1 (by decide)) dL_law_381 ?_
  refine fx_vI (As := [.int (xs (x3 + 1).toNatClampNeg)]) (rest := []) hx hb hml hts hown hK hR hS (hsys.1 j w hI0).1 (mX6_look l D dA A e1) my_X6_look mv_X6_look rfl ml_L_52 rfl hl.1 rfl (Nat.le_of_ble_eq_true rfl) dL_law_382 ⟨Nat.le_of_ble_eq_true rfl, Nat.le_of_ble_eq_true rfl⟩ ⟨Nat.le_of_ble_eq_true rfl, Nat.le_of_ble_eq_true rfl⟩ (fun H locs hR hS => ?_)
  refine lv_aload_n hx hb dL_law_385 rfl (lv_at hl 2 rfl) ?_
  refine lv_aload_n hx hb dL_law_386 rfl (lv_at hl 0 rfl) ?_
  refine lv_iload_n hx hb dL_law_387 rfl (lv_at hl 3 rfl) ?_
  refine lv_iconst (v := 1) hx hb dL_law_388 (by decide) ?_
  refine lv_iadd hx hb dL_law_389 ?_
  refine va_sld hx hb hX hbl hbA hS (hin 1 (by decide)) dL_law_390 ?_
  refine fx_vI (As := [.int (xs (x3 + 1).toNatClampNeg)]) (rest := [.int r]) hx hb hml hts hown hK hR hS (hsys.1 j w hI0).2 (mX7_look l D dA A e2) my_X7_look mv_X7_look rfl ml_L_55 rfl hl.1 rfl (Nat.le_of_ble_eq_true rfl) dL_law_391 ⟨Nat.le_of_ble_eq_true rfl, Nat.le_of_ble_eq_true rfl⟩ ⟨Nat.le_of_ble_eq_true rfl, Nat.le_of_ble_eq_true rfl⟩ (fun H locs hR hS => ?_)
  refine lv_icmp_eq (tgt := 640) hx hb dL_law_394 (by decide) (fun c => ?_) (fun c => absurd rfl c)
  exact hnext w hR hS hl (hsys.2.1 j w hI)
set_option maxRecDepth 100000 in
set_option maxHeartbeats 4000000 in
theorem law_c9 {p : Program} {l : Launch} {e : Env} {s : State} {m : MethodId} {below : List Frame} {meth : Method} {c : Code} {b L h mm : Nat} {xs : Nat → Int32} {D : va_G} {dA : Nat → ClassId} (hL : L ≤ 3072) (C0 : lw_At p s m meth c b L xs) (hK : Kp D dA s) {Inv : Nat → Fw → Prop} (hsys : SysOK h mm Inv) {A : Nat → Prop} (hA : (fun q : Nat => s.heap.size ≤ q) = A) {j : Nat} {x3 : Int32} {w : Fw} (ex3 : x3 = nI (6 * j)) (hj : j < 512) (hin : ∀ k : Int32, 0 ≤ k.toInt ∧ k.toInt < 6 → vp_in (x3 + k) L) (hnext : ∀ (w2 : Fw) {H : Heap} {locs : List Loc} {ls : Array Slot}, Rp D dA A w2 H → va_S A s.heap H locs → lv_has ls 4 [(0, .ref b), (1, .ref h), (2, .ref mm), (3, .int x3)] → Inv (j + 1) w2 → W p l e room_1 s m #[Value.ref b] below meth c H locs 173 8427 (lw_Z below #[Value.ref b] s) (F0 m 640 ls [])) (hI : Inv j w) {H : Heap} {locs : List Loc} {ls : Array Slot} (hR : Rp D dA A w H) (hS : va_S A s.heap H locs) (hl : lv_has ls 4 [(0, .ref b), (1, .ref h), (2, .ref mm), (3, .int x3)]) : W p l e room_1 s m #[Value.ref b] below meth c H locs 173 8427 (lw_Z below #[Value.ref b] s) (F0 m 399 ls []) := by
  obtain ⟨hx, hb, hr, hml, hown, hts0, hX, hbl, hlocks, hgv⟩ := id C0
  have hts : ∀ w ∈ lw_g, w.before #[Value.ref b] s = true := fun w hw => hts0 w (List.mem_filter.mp hw).1
  have hbA : ¬ A b := by rw [← hA]; exact Nat.not_le.mpr hbl
  have hI0 := hI
  obtain ⟨r, e1, e2⟩ := hsys.2.2.2.2.2.2.2.2.2.2.2.1 j w (xs (x3 + 1).toNatClampNeg) (xs (x3 + 2).toNatClampNeg) (xs (x3 + 3).toNatClampNeg) hj hI
  refine lv_aload_n hx hb dL_law_399 rfl (lv_at hl 1 rfl) ?_
  refine lv_aload_n hx hb dL_law_400 rfl (lv_at hl 0 rfl) ?_
  refine lv_iload_n hx hb dL_law_401 rfl (lv_at hl 3 rfl) ?_
  refine lv_iconst (v := 1) hx hb dL_law_402 (by decide) ?_
  refine lv_iadd hx hb dL_law_403 ?_
  refine va_sld hx hb hX hbl hbA hS (hin 1 (by decide)) dL_law_404 ?_
  refine lv_aload_n hx hb dL_law_405 rfl (lv_at hl 0 rfl) ?_
  refine lv_iload_n hx hb dL_law_406 rfl (lv_at hl 3 rfl) ?_
  refine lv_iconst (v := 2) hx hb dL_law_407 (by decide) ?_
  refine lv_iadd hx hb dL_law_408 ?_
  refine va_sld hx hb hX hbl hbA hS (hin 2 (by decide)) dL_law_409 ?_
  refine lv_aload_n hx hb dL_law_410 rfl (lv_at hl 0 rfl) ?_
  refine lv_iload_n hx hb dL_law_411 rfl (lv_at hl 3 rfl) ?_
  refine lv_iconst (v := 3) hx hb dL_law_412 (by decide) ?_
  refine lv_iadd hx hb dL_law_413 ?_
  refine va_sld hx hb hX hbl hbA hS (hin 3 (by decide)) dL_law_414 ?_
  refine fx_vI (As := [.int (xs (x3 + 1).toNatClampNeg), .int (xs (x3 + 2).toNatClampNeg), .int (xs (x3 + 3).toNatClampNeg)]) (rest := []) hx hb hml hts hown hK hR hS (hsys.1 j w hI0).1 (mX6_line l D dA A e1) my_X6_line mv_X6_line rfl ml_L_56 rfl hl.1 rfl (Nat.le_of_ble_eq_true rfl) dL_law_415 ⟨Nat.le_of_ble_eq_true rfl, Nat.le_of_ble_eq_true rfl⟩ ⟨Nat.le_of_ble_eq_true rfl, Nat.le_of_ble_eq_true rfl⟩ (fun H locs hR hS => ?_)
  refine lv_aload_n hx hb dL_law_418 rfl (lv_at hl 2 rfl) ?_
  refine lv_aload_n hx hb dL_law_419 rfl (lv_at hl 0 rfl) ?_
  refine lv_iload_n hx hb dL_law_420 rfl (lv_at hl 3 rfl) ?_
  refine lv_iconst (v := 1) hx hb dL_law_421 (by decide) ?_
  refine lv_iadd hx hb dL_law_422 ?_
  refine va_sld hx hb hX hbl hbA hS (hin 1 (by decide)) dL_law_423 ?_
  refine lv_aload_n hx hb dL_law_424 rfl (lv_at hl 0 rfl) ?_
  refine lv_iload_n hx hb dL_law_425 rfl (lv_at hl 3 rfl) ?_
  refine lv_iconst (v := 2) hx hb dL_law_426 (by decide) ?_
  refine lv_iadd hx hb dL_law_427 ?_
  refine va_sld hx hb hX hbl hbA hS (hin 2 (by decide)) dL_law_428 ?_
  refine lv_aload_n hx hb dL_law_429 rfl (lv_at hl 0 rfl) ?_
  refine lv_iload_n hx hb dL_law_430 rfl (lv_at hl 3 rfl) ?_
  refine lv_iconst (v := 3) hx hb dL_law_431 (by decide) ?_
  refine lv_iadd hx hb dL_law_432 ?_
  refine va_sld hx hb hX hbl hbA hS (hin 3 (by decide)) dL_law_433 ?_
  refine fx_vI (As := [.int (xs (x3 + 1).toNatClampNeg), .int (xs (x3 + 2).toNatClampNeg), .int (xs (x3 + 3).toNatClampNeg)]) (rest := [.int r]) hx hb hml hts hown hK hR hS (hsys.1 j w hI0).2 (mX7_line l D dA A e2) my_X7_line mv_X7_line rfl ml_L_59 rfl hl.1 rfl (Nat.le_of_ble_eq_true rfl) dL_law_434 ⟨Nat.le_of_ble_eq_true rfl, Nat.le_of_ble_eq_true rfl⟩ ⟨Nat.le_of_ble_eq_true rfl, Nat.le_of_ble_eq_true rfl⟩ (fun H locs hR hS => ?_)
  refine lv_icmp_eq (tgt := 640) hx hb dL_law_437 (by decide) (fun c => ?_) (fun c => absurd rfl c)
  exact hnext w hR hS hl (hsys.2.1 j w hI)
set_option maxRecDepth 100000 in
set_option maxHeartbeats 4000000 in
theorem law_c10 {p : Program} {l : Launch} {e : Env} {s : State} {m : MethodId} {below : List Frame} {meth : Method} {c : Code} {b L h mm : Nat} {xs : Nat → Int32} {D : va_G} {dA : Nat → ClassId} (hL : L ≤ 3072) (C0 : lw_At p s m meth c b L xs) (hK : Kp D dA s) {Inv : Nat → Fw → Prop} (hsys : SysOK h mm Inv) {A : Nat → Prop} (hA : (fun q : Nat => s.heap.size ≤ q) = A) {j : Nat} {x3 : Int32} {w : Fw} (ex3 : x3 = nI (6 * j)) (hj : j < 512) (hin : ∀ k : Int32, 0 ≤ k.toInt ∧ k.toInt < 6 → vp_in (x3 + k) L) (hnext : ∀ (w2 : Fw) {H : Heap} {locs : List Loc} {ls : Array Slot}, Rp D dA A w2 H → va_S A s.heap H locs → lv_has ls 4 [(0, .ref b), (1, .ref h), (2, .ref mm), (3, .int x3)] → Inv (j + 1) w2 → W p l e room_1 s m #[Value.ref b] below meth c H locs 173 8427 (lw_Z below #[Value.ref b] s) (F0 m 640 ls [])) (hI : Inv j w) {H : Heap} {locs : List Loc} {ls : Array Slot} (hR : Rp D dA A w H) (hS : va_S A s.heap H locs) (hl : lv_has ls 4 [(0, .ref b), (1, .ref h), (2, .ref mm), (3, .int x3)]) : W p l e room_1 s m #[Value.ref b] below meth c H locs 173 8427 (lw_Z below #[Value.ref b] s) (F0 m 442 ls []) := by
  obtain ⟨hx, hb, hr, hml, hown, hts0, hX, hbl, hlocks, hgv⟩ := id C0
  have hts : ∀ w ∈ lw_g, w.before #[Value.ref b] s = true := fun w hw => hts0 w (List.mem_filter.mp hw).1
  have hbA : ¬ A b := by rw [← hA]; exact Nat.not_le.mpr hbl
  have hI0 := hI
  obtain ⟨r, e1, e2⟩ := hsys.2.2.2.2.2.2.2.2.2.2.2.2.1 j w (xs (x3 + 1).toNatClampNeg) (xs (x3 + 2).toNatClampNeg) hj hI
  refine lv_aload_n hx hb dL_law_442 rfl (lv_at hl 1 rfl) ?_
  refine lv_aload_n hx hb dL_law_443 rfl (lv_at hl 0 rfl) ?_
  refine lv_iload_n hx hb dL_law_444 rfl (lv_at hl 3 rfl) ?_
  refine lv_iconst (v := 1) hx hb dL_law_445 (by decide) ?_
  refine lv_iadd hx hb dL_law_446 ?_
  refine va_sld hx hb hX hbl hbA hS (hin 1 (by decide)) dL_law_447 ?_
  refine lv_aload_n hx hb dL_law_448 rfl (lv_at hl 0 rfl) ?_
  refine lv_iload_n hx hb dL_law_449 rfl (lv_at hl 3 rfl) ?_
  refine lv_iconst (v := 2) hx hb dL_law_450 (by decide) ?_
  refine lv_iadd hx hb dL_law_451 ?_
  refine va_sld hx hb hX hbl hbA hS (hin 2 (by decide)) dL_law_452 ?_
  refine fx_vI (As := [.int (xs (x3 + 1).toNatClampNeg), .int (xs (x3 + 2).toNatClampNeg)]) (rest := []) hx hb hml hts hown hK hR hS (hsys.1 j w hI0).1 (mX6_finding l D dA A e1) my_X6_finding mv_X6_finding rfl ml_L_60 rfl hl.1 rfl (Nat.le_of_ble_eq_true rfl) dL_law_453 ⟨Nat.le_of_ble_eq_true rfl, Nat.le_of_ble_eq_true rfl⟩ ⟨Nat.le_of_ble_eq_true rfl, Nat.le_of_ble_eq_true rfl⟩ (fun H locs hR hS => ?_)
  refine lv_aload_n hx hb dL_law_456 rfl (lv_at hl 2 rfl) ?_
  refine lv_aload_n hx hb dL_law_457 rfl (lv_at hl 0 rfl) ?_
  refine lv_iload_n hx hb dL_law_458 rfl (lv_at hl 3 rfl) ?_
  refine lv_iconst (v := 1) hx hb dL_law_459 (by decide) ?_
  refine lv_iadd hx hb dL_law_460 ?_
  refine va_sld hx hb hX hbl hbA hS (hin 1 (by decide)) dL_law_461 ?_
  refine lv_aload_n hx hb dL_law_462 rfl (lv_at hl 0 rfl) ?_
  refine lv_iload_n hx hb dL_law_463 rfl (lv_at hl 3 rfl) ?_
  refine lv_iconst (v := 2) hx hb dL_law_464 (by decide) ?_
  refine lv_iadd hx hb dL_law_465 ?_
  refine va_sld hx hb hX hbl hbA hS (hin 2 (by decide)) dL_law_466 ?_
  refine fx_vI (As := [.int (xs (x3 + 1).toNatClampNeg), .int (xs (x3 + 2).toNatClampNeg)]) (rest := [.int r]) hx hb hml hts hown hK hR hS (hsys.1 j w hI0).2 (mX7_finding l D dA A e2) my_X7_finding mv_X7_finding rfl ml_L_64 rfl hl.1 rfl (Nat.le_of_ble_eq_true rfl) dL_law_467 ⟨Nat.le_of_ble_eq_true rfl, Nat.le_of_ble_eq_true rfl⟩ ⟨Nat.le_of_ble_eq_true rfl, Nat.le_of_ble_eq_true rfl⟩ (fun H locs hR hS => ?_)
  refine lv_icmp_eq (tgt := 640) hx hb dL_law_470 (by decide) (fun c => ?_) (fun c => absurd rfl c)
  exact hnext w hR hS hl (hsys.2.1 j w hI)
set_option maxRecDepth 100000 in
set_option maxHeartbeats 4000000 in
theorem law_c11 {p : Program} {l : Launch} {e : Env} {s : State} {m : MethodId} {below : List Frame} {meth : Method} {c : Code} {b L h mm : Nat} {xs : Nat → Int32} {D : va_G} {dA : Nat → ClassId} (hL : L ≤ 3072) (C0 : lw_At p s m meth c b L xs) (hK : Kp D dA s) {Inv : Nat → Fw → Prop} (hsys : SysOK h mm Inv) {A : Nat → Prop} (hA : (fun q : Nat => s.heap.size ≤ q) = A) {j : Nat} {x3 : Int32} {w : Fw} (ex3 : x3 = nI (6 * j)) (hj : j < 512) (hin : ∀ k : Int32, 0 ≤ k.toInt ∧ k.toInt < 6 → vp_in (x3 + k) L) (hnext : ∀ (w2 : Fw) {H : Heap} {locs : List Loc} {ls : Array Slot}, Rp D dA A w2 H → va_S A s.heap H locs → lv_has ls 4 [(0, .ref b), (1, .ref h), (2, .ref mm), (3, .int x3)] → Inv (j + 1) w2 → W p l e room_1 s m #[Value.ref b] below meth c H locs 173 8427 (lw_Z below #[Value.ref b] s) (F0 m 640 ls [])) (hI : Inv j w) {H : Heap} {locs : List Loc} {ls : Array Slot} (hR : Rp D dA A w H) (hS : va_S A s.heap H locs) (hl : lv_has ls 4 [(0, .ref b), (1, .ref h), (2, .ref mm), (3, .int x3)]) : W p l e room_1 s m #[Value.ref b] below meth c H locs 173 8427 (lw_Z below #[Value.ref b] s) (F0 m 475 ls []) := by
  obtain ⟨hx, hb, hr, hml, hown, hts0, hX, hbl, hlocks, hgv⟩ := id C0
  have hts : ∀ w ∈ lw_g, w.before #[Value.ref b] s = true := fun w hw => hts0 w (List.mem_filter.mp hw).1
  have hbA : ¬ A b := by rw [← hA]; exact Nat.not_le.mpr hbl
  have hI0 := hI
  obtain ⟨r, e1, e2⟩ := hsys.2.2.2.2.2.2.2.2.2.2.2.2.2.1 j w (xs (x3 + 1).toNatClampNeg) (xs (x3 + 2).toNatClampNeg) hj hI
  refine lv_aload_n hx hb dL_law_475 rfl (lv_at hl 1 rfl) ?_
  refine lv_aload_n hx hb dL_law_476 rfl (lv_at hl 0 rfl) ?_
  refine lv_iload_n hx hb dL_law_477 rfl (lv_at hl 3 rfl) ?_
  refine lv_iconst (v := 1) hx hb dL_law_478 (by decide) ?_
  refine lv_iadd hx hb dL_law_479 ?_
  refine va_sld hx hb hX hbl hbA hS (hin 1 (by decide)) dL_law_480 ?_
  refine lv_aload_n hx hb dL_law_481 rfl (lv_at hl 0 rfl) ?_
  refine lv_iload_n hx hb dL_law_482 rfl (lv_at hl 3 rfl) ?_
  refine lv_iconst (v := 2) hx hb dL_law_483 (by decide) ?_
  refine lv_iadd hx hb dL_law_484 ?_
  refine va_sld hx hb hX hbl hbA hS (hin 2 (by decide)) dL_law_485 ?_
  refine fx_vI (As := [.int (xs (x3 + 1).toNatClampNeg), .int (xs (x3 + 2).toNatClampNeg)]) (rest := []) hx hb hml hts hown hK hR hS (hsys.1 j w hI0).1 (mX6_find l D dA A e1) my_X6_find mv_X6_find rfl ml_L_65 rfl hl.1 rfl (Nat.le_of_ble_eq_true rfl) dL_law_486 ⟨Nat.le_of_ble_eq_true rfl, Nat.le_of_ble_eq_true rfl⟩ ⟨Nat.le_of_ble_eq_true rfl, Nat.le_of_ble_eq_true rfl⟩ (fun H locs hR hS => ?_)
  refine lv_aload_n hx hb dL_law_489 rfl (lv_at hl 2 rfl) ?_
  refine lv_aload_n hx hb dL_law_490 rfl (lv_at hl 0 rfl) ?_
  refine lv_iload_n hx hb dL_law_491 rfl (lv_at hl 3 rfl) ?_
  refine lv_iconst (v := 1) hx hb dL_law_492 (by decide) ?_
  refine lv_iadd hx hb dL_law_493 ?_
  refine va_sld hx hb hX hbl hbA hS (hin 1 (by decide)) dL_law_494 ?_
  refine lv_aload_n hx hb dL_law_495 rfl (lv_at hl 0 rfl) ?_
  refine lv_iload_n hx hb dL_law_496 rfl (lv_at hl 3 rfl) ?_
  refine lv_iconst (v := 2) hx hb dL_law_497 (by decide) ?_
  refine lv_iadd hx hb dL_law_498 ?_
  refine va_sld hx hb hX hbl hbA hS (hin 2 (by decide)) dL_law_499 ?_
  refine fx_vI (As := [.int (xs (x3 + 1).toNatClampNeg), .int (xs (x3 + 2).toNatClampNeg)]) (rest := [.int r]) hx hb hml hts hown hK hR hS (hsys.1 j w hI0).2 (mX7_find l D dA A e2) my_X7_find mv_X7_find rfl ml_L_68 rfl hl.1 rfl (Nat.le_of_ble_eq_true rfl) dL_law_500 ⟨Nat.le_of_ble_eq_true rfl, Nat.le_of_ble_eq_true rfl⟩ ⟨Nat.le_of_ble_eq_true rfl, Nat.le_of_ble_eq_true rfl⟩ (fun H locs hR hS => ?_)
  refine lv_icmp_eq (tgt := 640) hx hb dL_law_503 (by decide) (fun c => ?_) (fun c => absurd rfl c)
  exact hnext w hR hS hl (hsys.2.1 j w hI)
set_option maxRecDepth 100000 in
set_option maxHeartbeats 4000000 in
theorem law_c12 {p : Program} {l : Launch} {e : Env} {s : State} {m : MethodId} {below : List Frame} {meth : Method} {c : Code} {b L h mm : Nat} {xs : Nat → Int32} {D : va_G} {dA : Nat → ClassId} (hL : L ≤ 3072) (C0 : lw_At p s m meth c b L xs) (hK : Kp D dA s) {Inv : Nat → Fw → Prop} (hsys : SysOK h mm Inv) {A : Nat → Prop} (hA : (fun q : Nat => s.heap.size ≤ q) = A) {j : Nat} {x3 : Int32} {w : Fw} (ex3 : x3 = nI (6 * j)) (hj : j < 512) (hin : ∀ k : Int32, 0 ≤ k.toInt ∧ k.toInt < 6 → vp_in (x3 + k) L) (hnext : ∀ (w2 : Fw) {H : Heap} {locs : List Loc} {ls : Array Slot}, Rp D dA A w2 H → va_S A s.heap H locs → lv_has ls 4 [(0, .ref b), (1, .ref h), (2, .ref mm), (3, .int x3)] → Inv (j + 1) w2 → W p l e room_1 s m #[Value.ref b] below meth c H locs 173 8427 (lw_Z below #[Value.ref b] s) (F0 m 640 ls [])) (hI : Inv j w) {H : Heap} {locs : List Loc} {ls : Array Slot} (hR : Rp D dA A w H) (hS : va_S A s.heap H locs) (hl : lv_has ls 4 [(0, .ref b), (1, .ref h), (2, .ref mm), (3, .int x3)]) : W p l e room_1 s m #[Value.ref b] below meth c H locs 173 8427 (lw_Z below #[Value.ref b] s) (F0 m 508 ls []) := by
  obtain ⟨hx, hb, hr, hml, hown, hts0, hX, hbl, hlocks, hgv⟩ := id C0
  have hts : ∀ w ∈ lw_g, w.before #[Value.ref b] s = true := fun w hw => hts0 w (List.mem_filter.mp hw).1
  have hbA : ¬ A b := by rw [← hA]; exact Nat.not_le.mpr hbl
  have hI0 := hI
  obtain ⟨r, w1, w2, e1, eO, e2, hI⟩ := hsys.2.2.2.2.2.2.2.2.2.2.2.2.2.2.1 j w (xs (x3 + 1).toNatClampNeg) (xs (x3 + 2).toNatClampNeg) (xs (x3 + 3).toNatClampNeg) hj hI
  refine lv_aload_n hx hb dL_law_508 rfl (lv_at hl 1 rfl) ?_
  refine lv_aload_n hx hb dL_law_509 rfl (lv_at hl 0 rfl) ?_
  refine lv_iload_n hx hb dL_law_510 rfl (lv_at hl 3 rfl) ?_
  refine lv_iconst (v := 1) hx hb dL_law_511 (by decide) ?_
  refine lv_iadd hx hb dL_law_512 ?_
  refine va_sld hx hb hX hbl hbA hS (hin 1 (by decide)) dL_law_513 ?_
  refine lv_aload_n hx hb dL_law_514 rfl (lv_at hl 0 rfl) ?_
  refine lv_iload_n hx hb dL_law_515 rfl (lv_at hl 3 rfl) ?_
  refine lv_iconst (v := 2) hx hb dL_law_516 (by decide) ?_
  refine lv_iadd hx hb dL_law_517 ?_
  refine va_sld hx hb hX hbl hbA hS (hin 2 (by decide)) dL_law_518 ?_
  refine lv_aload_n hx hb dL_law_519 rfl (lv_at hl 0 rfl) ?_
  refine lv_iload_n hx hb dL_law_520 rfl (lv_at hl 3 rfl) ?_
  refine lv_iconst (v := 3) hx hb dL_law_521 (by decide) ?_
  refine lv_iadd hx hb dL_law_522 ?_
  refine va_sld hx hb hX hbl hbA hS (hin 3 (by decide)) dL_law_523 ?_
  refine fx_vI (As := [.int (xs (x3 + 1).toNatClampNeg), .int (xs (x3 + 2).toNatClampNeg), .int (xs (x3 + 3).toNatClampNeg)]) (rest := []) hx hb hml hts hown hK hR hS (hsys.1 j w hI0).1 (mX6_silence l D dA A e1) my_X6_silence mv_X6_silence rfl ml_L_69 rfl hl.1 rfl (Nat.le_of_ble_eq_true rfl) dL_law_524 ⟨Nat.le_of_ble_eq_true rfl, Nat.le_of_ble_eq_true rfl⟩ ⟨Nat.le_of_ble_eq_true rfl, Nat.le_of_ble_eq_true rfl⟩ (fun H locs hR hS => ?_)
  refine lv_aload_n hx hb dL_law_527 rfl (lv_at hl 2 rfl) ?_
  refine lv_aload_n hx hb dL_law_528 rfl (lv_at hl 0 rfl) ?_
  refine lv_iload_n hx hb dL_law_529 rfl (lv_at hl 3 rfl) ?_
  refine lv_iconst (v := 1) hx hb dL_law_530 (by decide) ?_
  refine lv_iadd hx hb dL_law_531 ?_
  refine va_sld hx hb hX hbl hbA hS (hin 1 (by decide)) dL_law_532 ?_
  refine lv_aload_n hx hb dL_law_533 rfl (lv_at hl 0 rfl) ?_
  refine lv_iload_n hx hb dL_law_534 rfl (lv_at hl 3 rfl) ?_
  refine lv_iconst (v := 2) hx hb dL_law_535 (by decide) ?_
  refine lv_iadd hx hb dL_law_536 ?_
  refine va_sld hx hb hX hbl hbA hS (hin 2 (by decide)) dL_law_537 ?_
  refine lv_aload_n hx hb dL_law_538 rfl (lv_at hl 0 rfl) ?_
  refine lv_iload_n hx hb dL_law_539 rfl (lv_at hl 3 rfl) ?_
  refine lv_iconst (v := 3) hx hb dL_law_540 (by decide) ?_
  refine lv_iadd hx hb dL_law_541 ?_
  refine va_sld hx hb hX hbl hbA hS (hin 3 (by decide)) dL_law_542 ?_
  refine fx_vI (As := [.int (xs (x3 + 1).toNatClampNeg), .int (xs (x3 + 2).toNatClampNeg), .int (xs (x3 + 3).toNatClampNeg)]) (rest := [.int r]) hx hb hml hts hown hK hR hS eO (mX7_silence l D dA A e2) my_X7_silence mv_X7_silence rfl ml_L_72 rfl hl.1 rfl (Nat.le_of_ble_eq_true rfl) dL_law_543 ⟨Nat.le_of_ble_eq_true rfl, Nat.le_of_ble_eq_true rfl⟩ ⟨Nat.le_of_ble_eq_true rfl, Nat.le_of_ble_eq_true rfl⟩ (fun H locs hR hS => ?_)
  refine lv_icmp_eq (tgt := 640) hx hb dL_law_546 (by decide) (fun c => ?_) (fun c => absurd rfl c)
  exact hnext w2 hR hS hl hI
set_option maxRecDepth 100000 in
set_option maxHeartbeats 4000000 in
theorem law_c13 {p : Program} {l : Launch} {e : Env} {s : State} {m : MethodId} {below : List Frame} {meth : Method} {c : Code} {b L h mm : Nat} {xs : Nat → Int32} {D : va_G} {dA : Nat → ClassId} (hL : L ≤ 3072) (C0 : lw_At p s m meth c b L xs) (hK : Kp D dA s) {Inv : Nat → Fw → Prop} (hsys : SysOK h mm Inv) {A : Nat → Prop} (hA : (fun q : Nat => s.heap.size ≤ q) = A) {j : Nat} {x3 : Int32} {w : Fw} (ex3 : x3 = nI (6 * j)) (hj : j < 512) (hin : ∀ k : Int32, 0 ≤ k.toInt ∧ k.toInt < 6 → vp_in (x3 + k) L) (hnext : ∀ (w2 : Fw) {H : Heap} {locs : List Loc} {ls : Array Slot}, Rp D dA A w2 H → va_S A s.heap H locs → lv_has ls 4 [(0, .ref b), (1, .ref h), (2, .ref mm), (3, .int x3)] → Inv (j + 1) w2 → W p l e room_1 s m #[Value.ref b] below meth c H locs 173 8427 (lw_Z below #[Value.ref b] s) (F0 m 640 ls [])) (hI : Inv j w) {H : Heap} {locs : List Loc} {ls : Array Slot} (hR : Rp D dA A w H) (hS : va_S A s.heap H locs) (hl : lv_has ls 4 [(0, .ref b), (1, .ref h), (2, .ref mm), (3, .int x3)]) : W p l e room_1 s m #[Value.ref b] below meth c H locs 173 8427 (lw_Z below #[Value.ref b] s) (F0 m 551 ls []) := by
  obtain ⟨hx, hb, hr, hml, hown, hts0, hX, hbl, hlocks, hgv⟩ := id C0
  have hts : ∀ w ∈ lw_g, w.before #[Value.ref b] s = true := fun w hw => hts0 w (List.mem_filter.mp hw).1
  have hbA : ¬ A b := by rw [← hA]; exact Nat.not_le.mpr hbl
  have hI0 := hI
  obtain ⟨r, w1, w2, e1, eO, e2, hI⟩ := hsys.2.2.2.2.2.2.2.2.2.2.2.2.2.2.2.1 j w (xs (x3 + 1).toNatClampNeg) hj hI
  refine lv_aload_n hx hb dL_law_551 rfl (lv_at hl 1 rfl) ?_
  refine lv_aload_n hx hb dL_law_552 rfl (lv_at hl 0 rfl) ?_
  refine lv_iload_n hx hb dL_law_553 rfl (lv_at hl 3 rfl) ?_
  refine lv_iconst (v := 1) hx hb dL_law_554 (by decide) ?_
  refine lv_iadd hx hb dL_law_555 ?_
  refine va_sld hx hb hX hbl hbA hS (hin 1 (by decide)) dL_law_556 ?_
  refine fx_vI (As := [.int (xs (x3 + 1).toNatClampNeg)]) (rest := []) hx hb hml hts hown hK hR hS (hsys.1 j w hI0).1 (mX6_speak l D dA A e1) my_X6_speak mv_X6_speak rfl ml_L_73 rfl hl.1 rfl (Nat.le_of_ble_eq_true rfl) dL_law_557 ⟨Nat.le_of_ble_eq_true rfl, Nat.le_of_ble_eq_true rfl⟩ ⟨Nat.le_of_ble_eq_true rfl, Nat.le_of_ble_eq_true rfl⟩ (fun H locs hR hS => ?_)
  refine lv_aload_n hx hb dL_law_560 rfl (lv_at hl 2 rfl) ?_
  refine lv_aload_n hx hb dL_law_561 rfl (lv_at hl 0 rfl) ?_
  refine lv_iload_n hx hb dL_law_562 rfl (lv_at hl 3 rfl) ?_
  refine lv_iconst (v := 1) hx hb dL_law_563 (by decide) ?_
  refine lv_iadd hx hb dL_law_564 ?_
  refine va_sld hx hb hX hbl hbA hS (hin 1 (by decide)) dL_law_565 ?_
  refine fx_vI (As := [.int (xs (x3 + 1).toNatClampNeg)]) (rest := [.int r]) hx hb hml hts hown hK hR hS eO (mX7_speak l D dA A e2) my_X7_speak mv_X7_speak rfl ml_L_76 rfl hl.1 rfl (Nat.le_of_ble_eq_true rfl) dL_law_566 ⟨Nat.le_of_ble_eq_true rfl, Nat.le_of_ble_eq_true rfl⟩ ⟨Nat.le_of_ble_eq_true rfl, Nat.le_of_ble_eq_true rfl⟩ (fun H locs hR hS => ?_)
  refine lv_icmp_eq (tgt := 640) hx hb dL_law_569 (by decide) (fun c => ?_) (fun c => absurd rfl c)
  exact hnext w2 hR hS hl hI
set_option maxRecDepth 100000 in
set_option maxHeartbeats 4000000 in
theorem law_c14 {p : Program} {l : Launch} {e : Env} {s : State} {m : MethodId} {below : List Frame} {meth : Method} {c : Code} {b L h mm : Nat} {xs : Nat → Int32} {D : va_G} {dA : Nat → ClassId} (hL : L ≤ 3072) (C0 : lw_At p s m meth c b L xs) (hK : Kp D dA s) {Inv : Nat → Fw → Prop} (hsys : SysOK h mm Inv) {A : Nat → Prop} (hA : (fun q : Nat => s.heap.size ≤ q) = A) {j : Nat} {x3 : Int32} {w : Fw} (ex3 : x3 = nI (6 * j)) (hj : j < 512) (hin : ∀ k : Int32, 0 ≤ k.toInt ∧ k.toInt < 6 → vp_in (x3 + k) L) (hnext : ∀ (w2 : Fw) {H : Heap} {locs : List Loc} {ls : Array Slot}, Rp D dA A w2 H → va_S A s.heap H locs → lv_has ls 4 [(0, .ref b), (1, .ref h), (2, .ref mm), (3, .int x3)] → Inv (j + 1) w2 → W p l e room_1 s m #[Value.ref b] below meth c H locs 173 8427 (lw_Z below #[Value.ref b] s) (F0 m 640 ls [])) (hI : Inv j w) {H : Heap} {locs : List Loc} {ls : Array Slot} (hR : Rp D dA A w H) (hS : va_S A s.heap H locs) (hl : lv_has ls 4 [(0, .ref b), (1, .ref h), (2, .ref mm), (3, .int x3)]) : W p l e room_1 s m #[Value.ref b] below meth c H locs 173 8427 (lw_Z below #[Value.ref b] s) (F0 m 574 ls []) := by
  obtain ⟨hx, hb, hr, hml, hown, hts0, hX, hbl, hlocks, hgv⟩ := id C0
  have hts : ∀ w ∈ lw_g, w.before #[Value.ref b] s = true := fun w hw => hts0 w (List.mem_filter.mp hw).1
  have hbA : ¬ A b := by rw [← hA]; exact Nat.not_le.mpr hbl
  have hI0 := hI
  obtain ⟨r, e1, e2⟩ := hsys.2.2.2.2.2.2.2.2.2.2.2.2.2.2.2.2.1 j w (xs (x3 + 1).toNatClampNeg) (xs (x3 + 2).toNatClampNeg) hj hI
  refine lv_aload_n hx hb dL_law_574 rfl (lv_at hl 1 rfl) ?_
  refine lv_aload_n hx hb dL_law_575 rfl (lv_at hl 0 rfl) ?_
  refine lv_iload_n hx hb dL_law_576 rfl (lv_at hl 3 rfl) ?_
  refine lv_iconst (v := 1) hx hb dL_law_577 (by decide) ?_
  refine lv_iadd hx hb dL_law_578 ?_
  refine va_sld hx hb hX hbl hbA hS (hin 1 (by decide)) dL_law_579 ?_
  refine lv_aload_n hx hb dL_law_580 rfl (lv_at hl 0 rfl) ?_
  refine lv_iload_n hx hb dL_law_581 rfl (lv_at hl 3 rfl) ?_
  refine lv_iconst (v := 2) hx hb dL_law_582 (by decide) ?_
  refine lv_iadd hx hb dL_law_583 ?_
  refine va_sld hx hb hX hbl hbA hS (hin 2 (by decide)) dL_law_584 ?_
  refine fx_vI (As := [.int (xs (x3 + 1).toNatClampNeg), .int (xs (x3 + 2).toNatClampNeg)]) (rest := []) hx hb hml hts hown hK hR hS (hsys.1 j w hI0).1 (mX6_since l D dA A e1) my_X6_since mv_X6_since rfl ml_L_77 rfl hl.1 rfl (Nat.le_of_ble_eq_true rfl) dL_law_585 ⟨Nat.le_of_ble_eq_true rfl, Nat.le_of_ble_eq_true rfl⟩ ⟨Nat.le_of_ble_eq_true rfl, Nat.le_of_ble_eq_true rfl⟩ (fun H locs hR hS => ?_)
  refine lv_aload_n hx hb dL_law_588 rfl (lv_at hl 2 rfl) ?_
  refine lv_aload_n hx hb dL_law_589 rfl (lv_at hl 0 rfl) ?_
  refine lv_iload_n hx hb dL_law_590 rfl (lv_at hl 3 rfl) ?_
  refine lv_iconst (v := 1) hx hb dL_law_591 (by decide) ?_
  refine lv_iadd hx hb dL_law_592 ?_
  refine va_sld hx hb hX hbl hbA hS (hin 1 (by decide)) dL_law_593 ?_
  refine lv_aload_n hx hb dL_law_594 rfl (lv_at hl 0 rfl) ?_
  refine lv_iload_n hx hb dL_law_595 rfl (lv_at hl 3 rfl) ?_
  refine lv_iconst (v := 2) hx hb dL_law_596 (by decide) ?_
  refine lv_iadd hx hb dL_law_597 ?_
  refine va_sld hx hb hX hbl hbA hS (hin 2 (by decide)) dL_law_598 ?_
  refine fx_vI (As := [.int (xs (x3 + 1).toNatClampNeg), .int (xs (x3 + 2).toNatClampNeg)]) (rest := [.int r]) hx hb hml hts hown hK hR hS (hsys.1 j w hI0).2 (mX7_since l D dA A e2) my_X7_since mv_X7_since rfl ml_L_80 rfl hl.1 rfl (Nat.le_of_ble_eq_true rfl) dL_law_599 ⟨Nat.le_of_ble_eq_true rfl, Nat.le_of_ble_eq_true rfl⟩ ⟨Nat.le_of_ble_eq_true rfl, Nat.le_of_ble_eq_true rfl⟩ (fun H locs hR hS => ?_)
  refine lv_icmp_eq (tgt := 640) hx hb dL_law_602 (by decide) (fun c => ?_) (fun c => absurd rfl c)
  exact hnext w hR hS hl (hsys.2.1 j w hI)
set_option maxRecDepth 100000 in
set_option maxHeartbeats 4000000 in
theorem law_c15 {p : Program} {l : Launch} {e : Env} {s : State} {m : MethodId} {below : List Frame} {meth : Method} {c : Code} {b L h mm : Nat} {xs : Nat → Int32} {D : va_G} {dA : Nat → ClassId} (hL : L ≤ 3072) (C0 : lw_At p s m meth c b L xs) (hK : Kp D dA s) {Inv : Nat → Fw → Prop} (hsys : SysOK h mm Inv) {A : Nat → Prop} (hA : (fun q : Nat => s.heap.size ≤ q) = A) {j : Nat} {x3 : Int32} {w : Fw} (ex3 : x3 = nI (6 * j)) (hj : j < 512) (hin : ∀ k : Int32, 0 ≤ k.toInt ∧ k.toInt < 6 → vp_in (x3 + k) L) (hnext : ∀ (w2 : Fw) {H : Heap} {locs : List Loc} {ls : Array Slot}, Rp D dA A w2 H → va_S A s.heap H locs → lv_has ls 4 [(0, .ref b), (1, .ref h), (2, .ref mm), (3, .int x3)] → Inv (j + 1) w2 → W p l e room_1 s m #[Value.ref b] below meth c H locs 173 8427 (lw_Z below #[Value.ref b] s) (F0 m 640 ls [])) (hI : Inv j w) {H : Heap} {locs : List Loc} {ls : Array Slot} (hR : Rp D dA A w H) (hS : va_S A s.heap H locs) (hl : lv_has ls 4 [(0, .ref b), (1, .ref h), (2, .ref mm), (3, .int x3)]) : W p l e room_1 s m #[Value.ref b] below meth c H locs 173 8427 (lw_Z below #[Value.ref b] s) (F0 m 607 ls []) := by
  obtain ⟨hx, hb, hr, hml, hown, hts0, hX, hbl, hlocks, hgv⟩ := id C0
  have hts : ∀ w ∈ lw_g, w.before #[Value.ref b] s = true := fun w hw => hts0 w (List.mem_filter.mp hw).1
  have hbA : ¬ A b := by rw [← hA]; exact Nat.not_le.mpr hbl
  have hI0 := hI
  obtain ⟨r, e1, e2⟩ := hsys.2.2.2.2.2.2.2.2.2.2.2.2.2.2.2.2.2 j w (xs (x3 + 1).toNatClampNeg) (xs (x3 + 2).toNatClampNeg) hj hI
  refine lv_aload_n hx hb dL_law_607 rfl (lv_at hl 1 rfl) ?_
  refine lv_aload_n hx hb dL_law_608 rfl (lv_at hl 0 rfl) ?_
  refine lv_iload_n hx hb dL_law_609 rfl (lv_at hl 3 rfl) ?_
  refine lv_iconst (v := 1) hx hb dL_law_610 (by decide) ?_
  refine lv_iadd hx hb dL_law_611 ?_
  refine va_sld hx hb hX hbl hbA hS (hin 1 (by decide)) dL_law_612 ?_
  refine lv_aload_n hx hb dL_law_613 rfl (lv_at hl 0 rfl) ?_
  refine lv_iload_n hx hb dL_law_614 rfl (lv_at hl 3 rfl) ?_
  refine lv_iconst (v := 2) hx hb dL_law_615 (by decide) ?_
  refine lv_iadd hx hb dL_law_616 ?_
  refine va_sld hx hb hX hbl hbA hS (hin 2 (by decide)) dL_law_617 ?_
  refine fx_vI (As := [.int (xs (x3 + 1).toNatClampNeg), .int (xs (x3 + 2).toNatClampNeg)]) (rest := []) hx hb hml hts hown hK hR hS (hsys.1 j w hI0).1 (mX6_log l D dA A e1) my_X6_log mv_X6_log rfl ml_L_81 rfl hl.1 rfl (Nat.le_of_ble_eq_true rfl) dL_law_618 ⟨Nat.le_of_ble_eq_true rfl, Nat.le_of_ble_eq_true rfl⟩ ⟨Nat.le_of_ble_eq_true rfl, Nat.le_of_ble_eq_true rfl⟩ (fun H locs hR hS => ?_)
  refine lv_aload_n hx hb dL_law_621 rfl (lv_at hl 2 rfl) ?_
  refine lv_aload_n hx hb dL_law_622 rfl (lv_at hl 0 rfl) ?_
  refine lv_iload_n hx hb dL_law_623 rfl (lv_at hl 3 rfl) ?_
  refine lv_iconst (v := 1) hx hb dL_law_624 (by decide) ?_
  refine lv_iadd hx hb dL_law_625 ?_
  refine va_sld hx hb hX hbl hbA hS (hin 1 (by decide)) dL_law_626 ?_
  refine lv_aload_n hx hb dL_law_627 rfl (lv_at hl 0 rfl) ?_
  refine lv_iload_n hx hb dL_law_628 rfl (lv_at hl 3 rfl) ?_
  refine lv_iconst (v := 2) hx hb dL_law_629 (by decide) ?_
  refine lv_iadd hx hb dL_law_630 ?_
  refine va_sld hx hb hX hbl hbA hS (hin 2 (by decide)) dL_law_631 ?_
  refine fx_vI (As := [.int (xs (x3 + 1).toNatClampNeg), .int (xs (x3 + 2).toNatClampNeg)]) (rest := [.int r]) hx hb hml hts hown hK hR hS (hsys.1 j w hI0).2 (mX7_log l D dA A e2) my_X7_log mv_X7_log rfl ml_L_84 rfl hl.1 rfl (Nat.le_of_ble_eq_true rfl) dL_law_632 ⟨Nat.le_of_ble_eq_true rfl, Nat.le_of_ble_eq_true rfl⟩ ⟨Nat.le_of_ble_eq_true rfl, Nat.le_of_ble_eq_true rfl⟩ (fun H locs hR hS => ?_)
  refine lv_icmp_eq (tgt := 640) hx hb dL_law_635 (by decide) (fun c => ?_) (fun c => absurd rfl c)
  exact hnext w hR hS hl (hsys.2.1 j w hI)
set_option maxRecDepth 100000 in
set_option maxHeartbeats 4000000 in
theorem law_loop {p : Program} {l : Launch} {e : Env} {s : State} {m : MethodId} {below : List Frame} {meth : Method} {c : Code} {b L h mm : Nat} {xs : Nat → Int32} {D : va_G} {dA : Nat → ClassId} (hL : L ≤ 3072) (C0 : lw_At p s m meth c b L xs) (hK : Kp D dA s) {Inv : Nat → Fw → Prop} (hsys : SysOK h mm Inv) : ∀ (n j : Nat) (x3 : Int32) (w : Fw), x3 = nI (6 * j) → 6 * j ≤ L → 600 - j < n → Inv j w → ∀ {H : Heap} {locs : List Loc} {ls : Array Slot}, Rp D dA (fun q => s.heap.size ≤ q) w H → va_S (fun q => s.heap.size ≤ q) s.heap H locs → lv_has ls 4 [(0, .ref b), (1, .ref h), (2, .ref mm), (3, .int x3)] → W p l e room_1 s m #[Value.ref b] below meth c H locs 173 8427 (lw_Z below #[Value.ref b] s) (F0 m 18 ls []) := by
  obtain ⟨hx, hb, hr, hml, hown, hts0, hX, hbl, hlocks, hgv⟩ := id C0
  have hts : ∀ w ∈ lw_g, w.before #[Value.ref b] s = true := fun w hw => hts0 w (List.mem_filter.mp hw).1
  generalize hA : (fun q : Nat => s.heap.size ≤ q) = A
  have hbA : ¬ A b := by rw [← hA]; exact Nat.not_le.mpr hbl
  intro n
  induction n with
  | zero => intro j x3 w e1 e2 e3; omega
  | succ n ih =>
    intro j x3 w ex3 hjL hjn hI H locs ls hR hS hl
    refine lv_iload_n hx hb dL_law_18 rfl (lv_at hl 3 rfl) ?_
    refine lv_aload_n hx hb dL_law_19 rfl (lv_at hl 0 rfl) ?_
    refine va_slen hx hb hX hbl hbA hS dL_law_20 ?_
    refine lv_bipush (v := 6) hx hb dL_law_21 (by decide) ?_
    refine lv_isub hx hb dL_law_23 ?_
    refine lv_icmp_gt (tgt := 646) hx hb dL_law_24 (by decide) (fun cq => ?_) (fun cq => ?_)
    · refine lv_iconst (v := 1) hx hb dL_law_646 (by decide) ?_
      refine va_forget (fun q hq => by have h9 := hS.2.2 q hq; rw [← hA] at h9; exact h9) ?_
      refine W.widen (k := 600000) (n := 7302249) (by omega) (by omega) ?_
      exact lw_ret hx hb hr hlocks dL_law_647
    · have hlt : 6 * j + 6 ≤ L := law_lt hL hjL ex3 cq
      have hj : j < 512 := by omega
      have hin : ∀ k : Int32, 0 ≤ k.toInt ∧ k.toInt < 6 → vp_in (x3 + k) L := fun k hk => law_in hL hlt ex3 hk
      have hin0 : vp_in x3 L := by have h9 := hin 0 (by decide); rwa [Int32.add_zero] at h9
      have hnext : ∀ (w2 : Fw) {H : Heap} {locs : List Loc} {ls : Array Slot}, Rp D dA A w2 H → va_S A s.heap H locs → lv_has ls 4 [(0, .ref b), (1, .ref h), (2, .ref mm), (3, .int x3)] → Inv (j + 1) w2 → W p l e room_1 s m #[Value.ref b] below meth c H locs 173 8427 (lw_Z below #[Value.ref b] s) (F0 m 640 ls []) := by
        intro w2 H locs ls hR hS hl hI
        refine lv_iinc (v := x3 + 6) (lv' := [(3, .int (x3 + 6)), (0, .ref b), (1, .ref h), (2, .ref mm)]) hx hb dL_law_640 hl (k := 3) rfl rfl (by decide) rfl (fun ls hl => ?_)
        refine lv_goto (tgt := 18) hx hb dL_law_643 (by decide) ?_
        exact ih (j + 1) (x3 + 6) w2 (by rw [ex3]; exact nI_add (6 * j) 6) (by omega) (by omega) hI hR hS (lv_sub hl [1, 2, 3, 0] rfl)
      refine lv_aload_n hx hb dL_law_27 rfl (lv_at hl 0 rfl) ?_
      refine lv_iload_n hx hb dL_law_28 rfl (lv_at hl 3 rfl) ?_
      refine va_sld hx hb hX hbl hbA hS hin0 dL_law_29 ?_
      refine lv_bipush (v := 15) hx hb dL_law_30 (by decide) ?_
      refine lv_iand hx hb dL_law_32 ?_
      generalize hsel : xs x3.toNatClampNeg &&& 15 = sel
      by_cases c0 : sel = 0
      · refine lv_tableIn (off := 79) (tgt := 112) hx hb dL_law_33 (by rw [c0]; decide) (by rw [c0]; decide) (by rw [c0]; decide) (by decide) ?_
        exact law_c0 hL C0 hK hsys hA ex3 hj hin hnext hI hR hS hl
      by_cases c1 : sel = 1
      · refine lv_tableIn (off := 122) (tgt := 155) hx hb dL_law_33 (by rw [c1]; decide) (by rw [c1]; decide) (by rw [c1]; decide) (by decide) ?_
        exact law_c1 hL C0 hK hsys hA ex3 hj hin hnext hI hR hS hl
      by_cases c2 : sel = 2
      · refine lv_tableIn (off := 155) (tgt := 188) hx hb dL_law_33 (by rw [c2]; decide) (by rw [c2]; decide) (by rw [c2]; decide) (by decide) ?_
        exact law_c2 hL C0 hK hsys hA ex3 hj hin hnext hI hR hS hl
      by_cases c3 : sel = 3
      · refine lv_tableIn (off := 198) (tgt := 231) hx hb dL_law_33 (by rw [c3]; decide) (by rw [c3]; decide) (by rw [c3]; decide) (by decide) ?_
        exact law_c3 hL C0 hK hsys hA ex3 hj hin hnext hI hR hS hl
      by_cases c4 : sel = 4
      · refine lv_tableIn (off := 261) (tgt := 294) hx hb dL_law_33 (by rw [c4]; decide) (by rw [c4]; decide) (by rw [c4]; decide) (by decide) ?_
        exact law_c4 hL C0 hK hsys hA ex3 hj hin hnext hI hR hS hl
      by_cases c5 : sel = 5
      · refine lv_tableIn (off := 284) (tgt := 317) hx hb dL_law_33 (by rw [c5]; decide) (by rw [c5]; decide) (by rw [c5]; decide) (by decide) ?_
        exact law_c5 hL C0 hK hsys hA ex3 hj hin hnext hI hR hS hl
      by_cases c6 : sel = 6
      · refine lv_tableIn (off := 307) (tgt := 340) hx hb dL_law_33 (by rw [c6]; decide) (by rw [c6]; decide) (by rw [c6]; decide) (by decide) ?_
        exact law_c6 hL C0 hK hsys hA ex3 hj hin hnext hI hR hS hl
      by_cases c7 : sel = 7
      · refine lv_tableIn (off := 330) (tgt := 363) hx hb dL_law_33 (by rw [c7]; decide) (by rw [c7]; decide) (by rw [c7]; decide) (by decide) ?_
        exact law_c7 hL C0 hK hsys hA ex3 hj hin hnext hI hR hS hl
      by_cases c8 : sel = 8
      · refine lv_tableIn (off := 343) (tgt := 376) hx hb dL_law_33 (by rw [c8]; decide) (by rw [c8]; decide) (by rw [c8]; decide) (by decide) ?_
        exact law_c8 hL C0 hK hsys hA ex3 hj hin hnext hI hR hS hl
      by_cases c9 : sel = 9
      · refine lv_tableIn (off := 366) (tgt := 399) hx hb dL_law_33 (by rw [c9]; decide) (by rw [c9]; decide) (by rw [c9]; decide) (by decide) ?_
        exact law_c9 hL C0 hK hsys hA ex3 hj hin hnext hI hR hS hl
      by_cases c10 : sel = 10
      · refine lv_tableIn (off := 409) (tgt := 442) hx hb dL_law_33 (by rw [c10]; decide) (by rw [c10]; decide) (by rw [c10]; decide) (by decide) ?_
        exact law_c10 hL C0 hK hsys hA ex3 hj hin hnext hI hR hS hl
      by_cases c11 : sel = 11
      · refine lv_tableIn (off := 442) (tgt := 475) hx hb dL_law_33 (by rw [c11]; decide) (by rw [c11]; decide) (by rw [c11]; decide) (by decide) ?_
        exact law_c11 hL C0 hK hsys hA ex3 hj hin hnext hI hR hS hl
      by_cases c12 : sel = 12
      · refine lv_tableIn (off := 475) (tgt := 508) hx hb dL_law_33 (by rw [c12]; decide) (by rw [c12]; decide) (by rw [c12]; decide) (by decide) ?_
        exact law_c12 hL C0 hK hsys hA ex3 hj hin hnext hI hR hS hl
      by_cases c13 : sel = 13
      · refine lv_tableIn (off := 518) (tgt := 551) hx hb dL_law_33 (by rw [c13]; decide) (by rw [c13]; decide) (by rw [c13]; decide) (by decide) ?_
        exact law_c13 hL C0 hK hsys hA ex3 hj hin hnext hI hR hS hl
      by_cases c14 : sel = 14
      · refine lv_tableIn (off := 541) (tgt := 574) hx hb dL_law_33 (by rw [c14]; decide) (by rw [c14]; decide) (by rw [c14]; decide) (by decide) ?_
        exact law_c14 hL C0 hK hsys hA ex3 hj hin hnext hI hR hS hl
      by_cases c15 : sel = 15
      · refine lv_tableIn (off := 574) (tgt := 607) hx hb dL_law_33 (by rw [c15]; decide) (by rw [c15]; decide) (by rw [c15]; decide) (by decide) ?_
        exact law_c15 hL C0 hK hsys hA ex3 hj hin hnext hI hR hS hl
      have n0 := fz_ne 0 0 (by decide) c0
      have n1 := fz_ne 1 1 (by decide) c1
      have n2 := fz_ne 2 2 (by decide) c2
      have n3 := fz_ne 3 3 (by decide) c3
      have n4 := fz_ne 4 4 (by decide) c4
      have n5 := fz_ne 5 5 (by decide) c5
      have n6 := fz_ne 6 6 (by decide) c6
      have n7 := fz_ne 7 7 (by decide) c7
      have n8 := fz_ne 8 8 (by decide) c8
      have n9 := fz_ne 9 9 (by decide) c9
      have n10 := fz_ne 10 10 (by decide) c10
      have n11 := fz_ne 11 11 (by decide) c11
      have n12 := fz_ne 12 12 (by decide) c12
      have n13 := fz_ne 13 13 (by decide) c13
      have n14 := fz_ne 14 14 (by decide) c14
      have n15 := fz_ne 15 15 (by decide) c15
      refine lv_tableOut (tgt := 640) hx hb dL_law_33 (by omega) (by decide) ?_
      exact hnext w hR hS hl (hsys.2.1 j w hI)
