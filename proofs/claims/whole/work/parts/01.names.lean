-- ===== PART A: goes FIRST, ahead of the names: the tables' words, and 'selects' of the private methods out of them =====
/-- a private method of a class that the tables say can be made, by its rows of tables_1 -/
def lw_okq (q : MethodName × Nat) : Prop := (q.1.cls ≠ "java/lang/invoke/MethodHandle" ∧ q.1.cls ≠ "java/lang/invoke/VarHandle") ∧ Cond.instantiable q.1.cls q.2 ∈ tables_1 ∧ Cond.privateMethod q.1 ∈ tables_1 ∧ Cond.instanceMethod q.1 ∈ tables_1
theorem lw_p0 : lw_okq (⟨"FlakePost$SpoonTable", "winningTake", "(II)I"⟩, 1) := ⟨⟨by decide +kernel, by decide +kernel⟩, List.mem_of_getElem? (i := 170) (by decide +kernel), List.mem_of_getElem? (i := 176) (by decide +kernel), List.mem_of_getElem? (i := 177) (by decide +kernel)⟩
theorem lw_p1 : lw_okq (⟨"FlakePost$Yard", "putFlake", "(IIIII)V"⟩, 13) := ⟨⟨by decide +kernel, by decide +kernel⟩, List.mem_of_getElem? (i := 24) (by decide +kernel), List.mem_of_getElem? (i := 219) (by decide +kernel), List.mem_of_getElem? (i := 220) (by decide +kernel)⟩
theorem lw_p2 : lw_okq (⟨"FlakePost$Yard", "has", "(I)Z"⟩, 13) := ⟨⟨by decide +kernel, by decide +kernel⟩, List.mem_of_getElem? (i := 24) (by decide +kernel), List.mem_of_getElem? (i := 233) (by decide +kernel), List.mem_of_getElem? (i := 234) (by decide +kernel)⟩
theorem lw_p3 : lw_okq (⟨"FlakePost$Yard", "removeFlake", "(I)V"⟩, 13) := ⟨⟨by decide +kernel, by decide +kernel⟩, List.mem_of_getElem? (i := 24) (by decide +kernel), List.mem_of_getElem? (i := 239) (by decide +kernel), List.mem_of_getElem? (i := 240) (by decide +kernel)⟩
theorem lw_p4 : lw_okq (⟨"FlakePost$Pad", "add", "(I)Z"⟩, 5) := ⟨⟨by decide +kernel, by decide +kernel⟩, List.mem_of_getElem? (i := 89) (by decide +kernel), List.mem_of_getElem? (i := 255) (by decide +kernel), List.mem_of_getElem? (i := 256) (by decide +kernel)⟩
theorem lw_p5 : lw_okq (⟨"FlakePost$Pad", "readActs", "()I"⟩, 5) := ⟨⟨by decide +kernel, by decide +kernel⟩, List.mem_of_getElem? (i := 89) (by decide +kernel), List.mem_of_getElem? (i := 267) (by decide +kernel), List.mem_of_getElem? (i := 268) (by decide +kernel)⟩
theorem lw_p6 : lw_okq (⟨"FlakePost", "refusalOfDays", "()I"⟩, 8) := ⟨⟨by decide +kernel, by decide +kernel⟩, List.mem_of_getElem? (i := 16) (by decide +kernel), List.mem_of_getElem? (i := 284) (by decide +kernel), List.mem_of_getElem? (i := 285) (by decide +kernel)⟩
theorem lw_p7 : lw_okq (⟨"FlakePost$Day", "live", "(LFlakePost$Yard;LFlakePost$Pad;)V"⟩, 5) := ⟨⟨by decide +kernel, by decide +kernel⟩, List.mem_of_getElem? (i := 116) (by decide +kernel), List.mem_of_getElem? (i := 288) (by decide +kernel), List.mem_of_getElem? (i := 289) (by decide +kernel)⟩
theorem lw_p8 : lw_okq (⟨"FlakePost$Day", "begin", "(LFlakePost$Yard;)V"⟩, 5) := ⟨⟨by decide +kernel, by decide +kernel⟩, List.mem_of_getElem? (i := 116) (by decide +kernel), List.mem_of_getElem? (i := 292) (by decide +kernel), List.mem_of_getElem? (i := 293) (by decide +kernel)⟩
theorem lw_p9 : lw_okq (⟨"FlakePost$Yard", "copy", "(LFlakePost$Yard;)V"⟩, 13) := ⟨⟨by decide +kernel, by decide +kernel⟩, List.mem_of_getElem? (i := 24) (by decide +kernel), List.mem_of_getElem? (i := 296) (by decide +kernel), List.mem_of_getElem? (i := 297) (by decide +kernel)⟩
theorem lw_p10 : lw_okq (⟨"FlakePost$Yard", "down", "()I"⟩, 13) := ⟨⟨by decide +kernel, by decide +kernel⟩, List.mem_of_getElem? (i := 24) (by decide +kernel), List.mem_of_getElem? (i := 303) (by decide +kernel), List.mem_of_getElem? (i := 304) (by decide +kernel)⟩
theorem lw_p11 : lw_okq (⟨"FlakePost$Yard", "falling", "()I"⟩, 13) := ⟨⟨by decide +kernel, by decide +kernel⟩, List.mem_of_getElem? (i := 24) (by decide +kernel), List.mem_of_getElem? (i := 307) (by decide +kernel), List.mem_of_getElem? (i := 308) (by decide +kernel)⟩
theorem lw_p12 : lw_okq (⟨"FlakePost$Yard", "inRiver", "()I"⟩, 13) := ⟨⟨by decide +kernel, by decide +kernel⟩, List.mem_of_getElem? (i := 24) (by decide +kernel), List.mem_of_getElem? (i := 311) (by decide +kernel), List.mem_of_getElem? (i := 312) (by decide +kernel)⟩
theorem lw_p13 : lw_okq (⟨"FlakePost$Yard", "whyNot", "(II)I"⟩, 13) := ⟨⟨by decide +kernel, by decide +kernel⟩, List.mem_of_getElem? (i := 24) (by decide +kernel), List.mem_of_getElem? (i := 315) (by decide +kernel), List.mem_of_getElem? (i := 316) (by decide +kernel)⟩
theorem lw_p14 : lw_okq (⟨"FlakePost$Yard", "delivered", "()I"⟩, 13) := ⟨⟨by decide +kernel, by decide +kernel⟩, List.mem_of_getElem? (i := 24) (by decide +kernel), List.mem_of_getElem? (i := 319) (by decide +kernel), List.mem_of_getElem? (i := 320) (by decide +kernel)⟩
theorem lw_p15 : lw_okq (⟨"FlakePost$Yard", "carryOut", "(II)V"⟩, 13) := ⟨⟨by decide +kernel, by decide +kernel⟩, List.mem_of_getElem? (i := 24) (by decide +kernel), List.mem_of_getElem? (i := 323) (by decide +kernel), List.mem_of_getElem? (i := 324) (by decide +kernel)⟩
def lw_privs_1 : List (MethodName × Nat) := [(⟨"FlakePost$SpoonTable", "winningTake", "(II)I"⟩, 1), (⟨"FlakePost$Yard", "putFlake", "(IIIII)V"⟩, 13), (⟨"FlakePost$Yard", "has", "(I)Z"⟩, 13), (⟨"FlakePost$Yard", "removeFlake", "(I)V"⟩, 13), (⟨"FlakePost$Pad", "add", "(I)Z"⟩, 5), (⟨"FlakePost$Pad", "readActs", "()I"⟩, 5), (⟨"FlakePost", "refusalOfDays", "()I"⟩, 8), (⟨"FlakePost$Day", "live", "(LFlakePost$Yard;LFlakePost$Pad;)V"⟩, 5), (⟨"FlakePost$Day", "begin", "(LFlakePost$Yard;)V"⟩, 5), (⟨"FlakePost$Yard", "copy", "(LFlakePost$Yard;)V"⟩, 13), (⟨"FlakePost$Yard", "down", "()I"⟩, 13), (⟨"FlakePost$Yard", "falling", "()I"⟩, 13), (⟨"FlakePost$Yard", "inRiver", "()I"⟩, 13), (⟨"FlakePost$Yard", "whyNot", "(II)I"⟩, 13), (⟨"FlakePost$Yard", "delivered", "()I"⟩, 13), (⟨"FlakePost$Yard", "carryOut", "(II)V"⟩, 13)]
theorem lw_r1 : ∀ q ∈ lw_privs_1, lw_okq q := List.forall_mem_cons.mpr ⟨lw_p0, List.forall_mem_cons.mpr ⟨lw_p1, List.forall_mem_cons.mpr ⟨lw_p2, List.forall_mem_cons.mpr ⟨lw_p3, List.forall_mem_cons.mpr ⟨lw_p4, List.forall_mem_cons.mpr ⟨lw_p5, List.forall_mem_cons.mpr ⟨lw_p6, List.forall_mem_cons.mpr ⟨lw_p7, List.forall_mem_cons.mpr ⟨lw_p8, List.forall_mem_cons.mpr ⟨lw_p9, List.forall_mem_cons.mpr ⟨lw_p10, List.forall_mem_cons.mpr ⟨lw_p11, List.forall_mem_cons.mpr ⟨lw_p12, List.forall_mem_cons.mpr ⟨lw_p13, List.forall_mem_cons.mpr ⟨lw_p14, List.forall_mem_cons.mpr ⟨lw_p15, fun _ h => absurd h List.not_mem_nil⟩⟩⟩⟩⟩⟩⟩⟩⟩⟩⟩⟩⟩⟩⟩⟩
theorem lw_p16 : lw_okq (⟨"FlakePost$Yard", "growAll", "(I)V"⟩, 13) := ⟨⟨by decide +kernel, by decide +kernel⟩, List.mem_of_getElem? (i := 24) (by decide +kernel), List.mem_of_getElem? (i := 327) (by decide +kernel), List.mem_of_getElem? (i := 328) (by decide +kernel)⟩
theorem lw_p17 : lw_okq (⟨"FlakePost$Yard", "blowAll", "(I)V"⟩, 13) := ⟨⟨by decide +kernel, by decide +kernel⟩, List.mem_of_getElem? (i := 24) (by decide +kernel), List.mem_of_getElem? (i := 338) (by decide +kernel), List.mem_of_getElem? (i := 339) (by decide +kernel)⟩
theorem lw_p18 : lw_okq (⟨"FlakePost$Yard", "blow", "(II)V"⟩, 13) := ⟨⟨by decide +kernel, by decide +kernel⟩, List.mem_of_getElem? (i := 24) (by decide +kernel), List.mem_of_getElem? (i := 342) (by decide +kernel), List.mem_of_getElem? (i := 343) (by decide +kernel)⟩
theorem lw_p19 : lw_okq (⟨"FlakePost$Yard", "lowerAll", "()V"⟩, 13) := ⟨⟨by decide +kernel, by decide +kernel⟩, List.mem_of_getElem? (i := 24) (by decide +kernel), List.mem_of_getElem? (i := 346) (by decide +kernel), List.mem_of_getElem? (i := 347) (by decide +kernel)⟩
theorem lw_p20 : lw_okq (⟨"FlakePost$Yard", "catcherAt", "(I)I"⟩, 13) := ⟨⟨by decide +kernel, by decide +kernel⟩, List.mem_of_getElem? (i := 24) (by decide +kernel), List.mem_of_getElem? (i := 350) (by decide +kernel), List.mem_of_getElem? (i := 351) (by decide +kernel)⟩
theorem lw_p21 : lw_okq (⟨"FlakePost$Day", "cameDown", "()I"⟩, 5) := ⟨⟨by decide +kernel, by decide +kernel⟩, List.mem_of_getElem? (i := 116) (by decide +kernel), List.mem_of_getElem? (i := 354) (by decide +kernel), List.mem_of_getElem? (i := 355) (by decide +kernel)⟩
theorem lw_p22 : lw_okq (⟨"FlakePost$Yard", "flakesWith", "(I)I"⟩, 13) := ⟨⟨by decide +kernel, by decide +kernel⟩, List.mem_of_getElem? (i := 24) (by decide +kernel), List.mem_of_getElem? (i := 368) (by decide +kernel), List.mem_of_getElem? (i := 369) (by decide +kernel)⟩
theorem lw_p23 : lw_okq (⟨"FlakePost$AirSearch", "fewestAirs", "(IIII)I"⟩, 3) := ⟨⟨by decide +kernel, by decide +kernel⟩, List.mem_of_getElem? (i := 144) (by decide +kernel), List.mem_of_getElem? (i := 409) (by decide +kernel), List.mem_of_getElem? (i := 410) (by decide +kernel)⟩
theorem lw_p24 : lw_okq (⟨"FlakePost$AirSearch", "reach", "(II)V"⟩, 3) := ⟨⟨by decide +kernel, by decide +kernel⟩, List.mem_of_getElem? (i := 144) (by decide +kernel), List.mem_of_getElem? (i := 416) (by decide +kernel), List.mem_of_getElem? (i := 417) (by decide +kernel)⟩
theorem lw_p25 : lw_okq (⟨"FlakePost$Yard", "trodden", "()I"⟩, 13) := ⟨⟨by decide +kernel, by decide +kernel⟩, List.mem_of_getElem? (i := 24) (by decide +kernel), List.mem_of_getElem? (i := 449) (by decide +kernel), List.mem_of_getElem? (i := 450) (by decide +kernel)⟩
theorem lw_p26 : lw_okq (⟨"FlakePost$Yard", "addSight", "(II)V"⟩, 13) := ⟨⟨by decide +kernel, by decide +kernel⟩, List.mem_of_getElem? (i := 24) (by decide +kernel), List.mem_of_getElem? (i := 459) (by decide +kernel), List.mem_of_getElem? (i := 460) (by decide +kernel)⟩
theorem lw_p27 : lw_okq (⟨"FlakePost$Yard", "fits", "(I)Z"⟩, 13) := ⟨⟨by decide +kernel, by decide +kernel⟩, List.mem_of_getElem? (i := 24) (by decide +kernel), List.mem_of_getElem? (i := 472) (by decide +kernel), List.mem_of_getElem? (i := 473) (by decide +kernel)⟩
theorem lw_p28 : lw_okq (⟨"FlakePost$Yard", "lawsLeftBy", "(I)I"⟩, 13) := ⟨⟨by decide +kernel, by decide +kernel⟩, List.mem_of_getElem? (i := 24) (by decide +kernel), List.mem_of_getElem? (i := 480) (by decide +kernel), List.mem_of_getElem? (i := 481) (by decide +kernel)⟩
theorem lw_p29 : lw_okq (⟨"FlakePost$GustRow", "fall", "(IIII)V"⟩, 1) := ⟨⟨by decide +kernel, by decide +kernel⟩, List.mem_of_getElem? (i := 160) (by decide +kernel), List.mem_of_getElem? (i := 490) (by decide +kernel), List.mem_of_getElem? (i := 491) (by decide +kernel)⟩
theorem lw_p30 : lw_okq (⟨"FlakePost$GustRow", "chance", "(III)J"⟩, 1) := ⟨⟨by decide +kernel, by decide +kernel⟩, List.mem_of_getElem? (i := 160) (by decide +kernel), List.mem_of_getElem? (i := 495) (by decide +kernel), List.mem_of_getElem? (i := 496) (by decide +kernel)⟩
theorem lw_p31 : lw_okq (⟨"FlakePost$GustRow", "all", "()I"⟩, 1) := ⟨⟨by decide +kernel, by decide +kernel⟩, List.mem_of_getElem? (i := 160) (by decide +kernel), List.mem_of_getElem? (i := 499) (by decide +kernel), List.mem_of_getElem? (i := 500) (by decide +kernel)⟩
def lw_privs_2 : List (MethodName × Nat) := [(⟨"FlakePost$Yard", "growAll", "(I)V"⟩, 13), (⟨"FlakePost$Yard", "blowAll", "(I)V"⟩, 13), (⟨"FlakePost$Yard", "blow", "(II)V"⟩, 13), (⟨"FlakePost$Yard", "lowerAll", "()V"⟩, 13), (⟨"FlakePost$Yard", "catcherAt", "(I)I"⟩, 13), (⟨"FlakePost$Day", "cameDown", "()I"⟩, 5), (⟨"FlakePost$Yard", "flakesWith", "(I)I"⟩, 13), (⟨"FlakePost$AirSearch", "fewestAirs", "(IIII)I"⟩, 3), (⟨"FlakePost$AirSearch", "reach", "(II)V"⟩, 3), (⟨"FlakePost$Yard", "trodden", "()I"⟩, 13), (⟨"FlakePost$Yard", "addSight", "(II)V"⟩, 13), (⟨"FlakePost$Yard", "fits", "(I)Z"⟩, 13), (⟨"FlakePost$Yard", "lawsLeftBy", "(I)I"⟩, 13), (⟨"FlakePost$GustRow", "fall", "(IIII)V"⟩, 1), (⟨"FlakePost$GustRow", "chance", "(III)J"⟩, 1), (⟨"FlakePost$GustRow", "all", "()I"⟩, 1)]
theorem lw_r2 : ∀ q ∈ lw_privs_2, lw_okq q := List.forall_mem_cons.mpr ⟨lw_p16, List.forall_mem_cons.mpr ⟨lw_p17, List.forall_mem_cons.mpr ⟨lw_p18, List.forall_mem_cons.mpr ⟨lw_p19, List.forall_mem_cons.mpr ⟨lw_p20, List.forall_mem_cons.mpr ⟨lw_p21, List.forall_mem_cons.mpr ⟨lw_p22, List.forall_mem_cons.mpr ⟨lw_p23, List.forall_mem_cons.mpr ⟨lw_p24, List.forall_mem_cons.mpr ⟨lw_p25, List.forall_mem_cons.mpr ⟨lw_p26, List.forall_mem_cons.mpr ⟨lw_p27, List.forall_mem_cons.mpr ⟨lw_p28, List.forall_mem_cons.mpr ⟨lw_p29, List.forall_mem_cons.mpr ⟨lw_p30, List.forall_mem_cons.mpr ⟨lw_p31, fun _ h => absurd h List.not_mem_nil⟩⟩⟩⟩⟩⟩⟩⟩⟩⟩⟩⟩⟩⟩⟩⟩
theorem lw_p32 : lw_okq (⟨"FlakePost$Day", "dreamYear", "(LFlakePost$Yard;II)V"⟩, 5) := ⟨⟨by decide +kernel, by decide +kernel⟩, List.mem_of_getElem? (i := 116) (by decide +kernel), List.mem_of_getElem? (i := 512) (by decide +kernel), List.mem_of_getElem? (i := 513) (by decide +kernel)⟩
theorem lw_p33 : lw_okq (⟨"FlakePost", "toldOfOne", "(II)I"⟩, 8) := ⟨⟨by decide +kernel, by decide +kernel⟩, List.mem_of_getElem? (i := 16) (by decide +kernel), List.mem_of_getElem? (i := 530) (by decide +kernel), List.mem_of_getElem? (i := 531) (by decide +kernel)⟩
theorem lw_p34 : lw_okq (⟨"FlakePost", "toldOfFlake", "(II)I"⟩, 8) := ⟨⟨by decide +kernel, by decide +kernel⟩, List.mem_of_getElem? (i := 16) (by decide +kernel), List.mem_of_getElem? (i := 534) (by decide +kernel), List.mem_of_getElem? (i := 535) (by decide +kernel)⟩
theorem lw_p35 : lw_okq (⟨"FlakePostModel", "isFlake", "(I)Z"⟩, 35) := ⟨⟨by decide +kernel, by decide +kernel⟩, List.mem_of_getElem? (i := 538) (by decide +kernel), List.mem_of_getElem? (i := 677) (by decide +kernel), List.mem_of_getElem? (i := 678) (by decide +kernel)⟩
theorem lw_p36 : lw_okq (⟨"FlakePostModel", "readOn", "(II)I"⟩, 35) := ⟨⟨by decide +kernel, by decide +kernel⟩, List.mem_of_getElem? (i := 538) (by decide +kernel), List.mem_of_getElem? (i := 703) (by decide +kernel), List.mem_of_getElem? (i := 704) (by decide +kernel)⟩
theorem lw_p37 : lw_okq (⟨"FlakePostModel", "close", "(I)I"⟩, 35) := ⟨⟨by decide +kernel, by decide +kernel⟩, List.mem_of_getElem? (i := 538) (by decide +kernel), List.mem_of_getElem? (i := 707) (by decide +kernel), List.mem_of_getElem? (i := 708) (by decide +kernel)⟩
theorem lw_p38 : lw_okq (⟨"FlakePostModel", "refusal", "()I"⟩, 35) := ⟨⟨by decide +kernel, by decide +kernel⟩, List.mem_of_getElem? (i := 538) (by decide +kernel), List.mem_of_getElem? (i := 718) (by decide +kernel), List.mem_of_getElem? (i := 719) (by decide +kernel)⟩
theorem lw_p39 : lw_okq (⟨"FlakePostModel", "keepNow", "()V"⟩, 35) := ⟨⟨by decide +kernel, by decide +kernel⟩, List.mem_of_getElem? (i := 538) (by decide +kernel), List.mem_of_getElem? (i := 722) (by decide +kernel), List.mem_of_getElem? (i := 723) (by decide +kernel)⟩
theorem lw_p40 : lw_okq (⟨"FlakePostModel", "goDays", "()V"⟩, 35) := ⟨⟨by decide +kernel, by decide +kernel⟩, List.mem_of_getElem? (i := 538) (by decide +kernel), List.mem_of_getElem? (i := 727) (by decide +kernel), List.mem_of_getElem? (i := 728) (by decide +kernel)⟩
theorem lw_p41 : lw_okq (⟨"FlakePostModel", "whyNot", "(II)I"⟩, 35) := ⟨⟨by decide +kernel, by decide +kernel⟩, List.mem_of_getElem? (i := 538) (by decide +kernel), List.mem_of_getElem? (i := 731) (by decide +kernel), List.mem_of_getElem? (i := 732) (by decide +kernel)⟩
theorem lw_p42 : lw_okq (⟨"FlakePostModel", "aboveMany", "()I"⟩, 35) := ⟨⟨by decide +kernel, by decide +kernel⟩, List.mem_of_getElem? (i := 538) (by decide +kernel), List.mem_of_getElem? (i := 735) (by decide +kernel), List.mem_of_getElem? (i := 736) (by decide +kernel)⟩
theorem lw_p43 : lw_okq (⟨"FlakePostModel", "isAbove", "(I)Z"⟩, 35) := ⟨⟨by decide +kernel, by decide +kernel⟩, List.mem_of_getElem? (i := 538) (by decide +kernel), List.mem_of_getElem? (i := 739) (by decide +kernel), List.mem_of_getElem? (i := 740) (by decide +kernel)⟩
theorem lw_p44 : lw_okq (⟨"FlakePostModel", "happen", "(II)V"⟩, 35) := ⟨⟨by decide +kernel, by decide +kernel⟩, List.mem_of_getElem? (i := 538) (by decide +kernel), List.mem_of_getElem? (i := 743) (by decide +kernel), List.mem_of_getElem? (i := 744) (by decide +kernel)⟩
theorem lw_p45 : lw_okq (⟨"FlakePostModel", "grow", "(I)V"⟩, 35) := ⟨⟨by decide +kernel, by decide +kernel⟩, List.mem_of_getElem? (i := 538) (by decide +kernel), List.mem_of_getElem? (i := 747) (by decide +kernel), List.mem_of_getElem? (i := 748) (by decide +kernel)⟩
theorem lw_p46 : lw_okq (⟨"FlakePostModel", "blow", "(I)V"⟩, 35) := ⟨⟨by decide +kernel, by decide +kernel⟩, List.mem_of_getElem? (i := 538) (by decide +kernel), List.mem_of_getElem? (i := 754) (by decide +kernel), List.mem_of_getElem? (i := 755) (by decide +kernel)⟩
theorem lw_p47 : lw_okq (⟨"FlakePostModel", "blowOne", "(II)V"⟩, 35) := ⟨⟨by decide +kernel, by decide +kernel⟩, List.mem_of_getElem? (i := 538) (by decide +kernel), List.mem_of_getElem? (i := 758) (by decide +kernel), List.mem_of_getElem? (i := 759) (by decide +kernel)⟩
def lw_privs_3 : List (MethodName × Nat) := [(⟨"FlakePost$Day", "dreamYear", "(LFlakePost$Yard;II)V"⟩, 5), (⟨"FlakePost", "toldOfOne", "(II)I"⟩, 8), (⟨"FlakePost", "toldOfFlake", "(II)I"⟩, 8), (⟨"FlakePostModel", "isFlake", "(I)Z"⟩, 35), (⟨"FlakePostModel", "readOn", "(II)I"⟩, 35), (⟨"FlakePostModel", "close", "(I)I"⟩, 35), (⟨"FlakePostModel", "refusal", "()I"⟩, 35), (⟨"FlakePostModel", "keepNow", "()V"⟩, 35), (⟨"FlakePostModel", "goDays", "()V"⟩, 35), (⟨"FlakePostModel", "whyNot", "(II)I"⟩, 35), (⟨"FlakePostModel", "aboveMany", "()I"⟩, 35), (⟨"FlakePostModel", "isAbove", "(I)Z"⟩, 35), (⟨"FlakePostModel", "happen", "(II)V"⟩, 35), (⟨"FlakePostModel", "grow", "(I)V"⟩, 35), (⟨"FlakePostModel", "blow", "(I)V"⟩, 35), (⟨"FlakePostModel", "blowOne", "(II)V"⟩, 35)]
theorem lw_r3 : ∀ q ∈ lw_privs_3, lw_okq q := List.forall_mem_cons.mpr ⟨lw_p32, List.forall_mem_cons.mpr ⟨lw_p33, List.forall_mem_cons.mpr ⟨lw_p34, List.forall_mem_cons.mpr ⟨lw_p35, List.forall_mem_cons.mpr ⟨lw_p36, List.forall_mem_cons.mpr ⟨lw_p37, List.forall_mem_cons.mpr ⟨lw_p38, List.forall_mem_cons.mpr ⟨lw_p39, List.forall_mem_cons.mpr ⟨lw_p40, List.forall_mem_cons.mpr ⟨lw_p41, List.forall_mem_cons.mpr ⟨lw_p42, List.forall_mem_cons.mpr ⟨lw_p43, List.forall_mem_cons.mpr ⟨lw_p44, List.forall_mem_cons.mpr ⟨lw_p45, List.forall_mem_cons.mpr ⟨lw_p46, List.forall_mem_cons.mpr ⟨lw_p47, fun _ h => absurd h List.not_mem_nil⟩⟩⟩⟩⟩⟩⟩⟩⟩⟩⟩⟩⟩⟩⟩⟩
theorem lw_p48 : lw_okq (⟨"FlakePostModel", "fall", "()V"⟩, 35) := ⟨⟨by decide +kernel, by decide +kernel⟩, List.mem_of_getElem? (i := 538) (by decide +kernel), List.mem_of_getElem? (i := 762) (by decide +kernel), List.mem_of_getElem? (i := 763) (by decide +kernel)⟩
theorem lw_p49 : lw_okq (⟨"FlakePostModel", "comeDown", "(I)V"⟩, 35) := ⟨⟨by decide +kernel, by decide +kernel⟩, List.mem_of_getElem? (i := 538) (by decide +kernel), List.mem_of_getElem? (i := 766) (by decide +kernel), List.mem_of_getElem? (i := 767) (by decide +kernel)⟩
theorem lw_p50 : lw_okq (⟨"FlakePostModel", "back", "(I)I"⟩, 35) := ⟨⟨by decide +kernel, by decide +kernel⟩, List.mem_of_getElem? (i := 538) (by decide +kernel), List.mem_of_getElem? (i := 770) (by decide +kernel), List.mem_of_getElem? (i := 771) (by decide +kernel)⟩
theorem lw_p51 : lw_okq (⟨"FlakePostModel", "ofFlake", "(II)I"⟩, 35) := ⟨⟨by decide +kernel, by decide +kernel⟩, List.mem_of_getElem? (i := 538) (by decide +kernel), List.mem_of_getElem? (i := 779) (by decide +kernel), List.mem_of_getElem? (i := 780) (by decide +kernel)⟩
theorem lw_p52 : lw_okq (⟨"FlakePostModel", "flakesOf", "(I)I"⟩, 35) := ⟨⟨by decide +kernel, by decide +kernel⟩, List.mem_of_getElem? (i := 538) (by decide +kernel), List.mem_of_getElem? (i := 787) (by decide +kernel), List.mem_of_getElem? (i := 788) (by decide +kernel)⟩
theorem lw_p53 : lw_okq (⟨"FlakePostModel", "postedNow", "()I"⟩, 35) := ⟨⟨by decide +kernel, by decide +kernel⟩, List.mem_of_getElem? (i := 538) (by decide +kernel), List.mem_of_getElem? (i := 795) (by decide +kernel), List.mem_of_getElem? (i := 796) (by decide +kernel)⟩
theorem lw_p54 : lw_okq (⟨"FlakePostModel", "riverNow", "()I"⟩, 35) := ⟨⟨by decide +kernel, by decide +kernel⟩, List.mem_of_getElem? (i := 538) (by decide +kernel), List.mem_of_getElem? (i := 799) (by decide +kernel), List.mem_of_getElem? (i := 800) (by decide +kernel)⟩
theorem lw_p55 : lw_okq (⟨"FlakePostModel", "findWays", "(II)V"⟩, 35) := ⟨⟨by decide +kernel, by decide +kernel⟩, List.mem_of_getElem? (i := 538) (by decide +kernel), List.mem_of_getElem? (i := 817) (by decide +kernel), List.mem_of_getElem? (i := 818) (by decide +kernel)⟩
theorem lw_p56 : lw_okq (⟨"FlakePostModel", "firstAirs", "(II)J"⟩, 35) := ⟨⟨by decide +kernel, by decide +kernel⟩, List.mem_of_getElem? (i := 538) (by decide +kernel), List.mem_of_getElem? (i := 822) (by decide +kernel), List.mem_of_getElem? (i := 823) (by decide +kernel)⟩
theorem lw_p57 : lw_okq (⟨"FlakePostModel", "findOff", "(I)Z"⟩, 35) := ⟨⟨by decide +kernel, by decide +kernel⟩, List.mem_of_getElem? (i := 538) (by decide +kernel), List.mem_of_getElem? (i := 830) (by decide +kernel), List.mem_of_getElem? (i := 831) (by decide +kernel)⟩
theorem lw_p58 : lw_okq (⟨"FlakePostModel", "canGetOwn", "(I)Z"⟩, 35) := ⟨⟨by decide +kernel, by decide +kernel⟩, List.mem_of_getElem? (i := 538) (by decide +kernel), List.mem_of_getElem? (i := 838) (by decide +kernel), List.mem_of_getElem? (i := 839) (by decide +kernel)⟩
theorem lw_p59 : lw_okq (⟨"FlakePostModel", "canGet", "(II)Z"⟩, 35) := ⟨⟨by decide +kernel, by decide +kernel⟩, List.mem_of_getElem? (i := 538) (by decide +kernel), List.mem_of_getElem? (i := 842) (by decide +kernel), List.mem_of_getElem? (i := 843) (by decide +kernel)⟩
theorem lw_p60 : lw_okq (⟨"FlakePostModel", "addFlake", "(I)V"⟩, 35) := ⟨⟨by decide +kernel, by decide +kernel⟩, List.mem_of_getElem? (i := 538) (by decide +kernel), List.mem_of_getElem? (i := 846) (by decide +kernel), List.mem_of_getElem? (i := 847) (by decide +kernel)⟩
theorem lw_p61 : lw_okq (⟨"FlakePostModel", "isFree", "(I)Z"⟩, 35) := ⟨⟨by decide +kernel, by decide +kernel⟩, List.mem_of_getElem? (i := 538) (by decide +kernel), List.mem_of_getElem? (i := 854) (by decide +kernel), List.mem_of_getElem? (i := 855) (by decide +kernel)⟩
theorem lw_p62 : lw_okq (⟨"FlakePostModel", "fits", "(I)Z"⟩, 35) := ⟨⟨by decide +kernel, by decide +kernel⟩, List.mem_of_getElem? (i := 538) (by decide +kernel), List.mem_of_getElem? (i := 870) (by decide +kernel), List.mem_of_getElem? (i := 871) (by decide +kernel)⟩
theorem lw_p63 : lw_okq (⟨"FlakePostModel", "mostLeft", "(I)I"⟩, 35) := ⟨⟨by decide +kernel, by decide +kernel⟩, List.mem_of_getElem? (i := 538) (by decide +kernel), List.mem_of_getElem? (i := 878) (by decide +kernel), List.mem_of_getElem? (i := 879) (by decide +kernel)⟩
def lw_privs_4 : List (MethodName × Nat) := [(⟨"FlakePostModel", "fall", "()V"⟩, 35), (⟨"FlakePostModel", "comeDown", "(I)V"⟩, 35), (⟨"FlakePostModel", "back", "(I)I"⟩, 35), (⟨"FlakePostModel", "ofFlake", "(II)I"⟩, 35), (⟨"FlakePostModel", "flakesOf", "(I)I"⟩, 35), (⟨"FlakePostModel", "postedNow", "()I"⟩, 35), (⟨"FlakePostModel", "riverNow", "()I"⟩, 35), (⟨"FlakePostModel", "findWays", "(II)V"⟩, 35), (⟨"FlakePostModel", "firstAirs", "(II)J"⟩, 35), (⟨"FlakePostModel", "findOff", "(I)Z"⟩, 35), (⟨"FlakePostModel", "canGetOwn", "(I)Z"⟩, 35), (⟨"FlakePostModel", "canGet", "(II)Z"⟩, 35), (⟨"FlakePostModel", "addFlake", "(I)V"⟩, 35), (⟨"FlakePostModel", "isFree", "(I)Z"⟩, 35), (⟨"FlakePostModel", "fits", "(I)Z"⟩, 35), (⟨"FlakePostModel", "mostLeft", "(I)I"⟩, 35)]
theorem lw_r4 : ∀ q ∈ lw_privs_4, lw_okq q := List.forall_mem_cons.mpr ⟨lw_p48, List.forall_mem_cons.mpr ⟨lw_p49, List.forall_mem_cons.mpr ⟨lw_p50, List.forall_mem_cons.mpr ⟨lw_p51, List.forall_mem_cons.mpr ⟨lw_p52, List.forall_mem_cons.mpr ⟨lw_p53, List.forall_mem_cons.mpr ⟨lw_p54, List.forall_mem_cons.mpr ⟨lw_p55, List.forall_mem_cons.mpr ⟨lw_p56, List.forall_mem_cons.mpr ⟨lw_p57, List.forall_mem_cons.mpr ⟨lw_p58, List.forall_mem_cons.mpr ⟨lw_p59, List.forall_mem_cons.mpr ⟨lw_p60, List.forall_mem_cons.mpr ⟨lw_p61, List.forall_mem_cons.mpr ⟨lw_p62, List.forall_mem_cons.mpr ⟨lw_p63, fun _ h => absurd h List.not_mem_nil⟩⟩⟩⟩⟩⟩⟩⟩⟩⟩⟩⟩⟩⟩⟩⟩
theorem lw_p64 : lw_okq (⟨"FlakePostModel", "gust", "(II)V"⟩, 35) := ⟨⟨by decide +kernel, by decide +kernel⟩, List.mem_of_getElem? (i := 538) (by decide +kernel), List.mem_of_getElem? (i := 892) (by decide +kernel), List.mem_of_getElem? (i := 893) (by decide +kernel)⟩
theorem lw_p65 : lw_okq (⟨"FlakePostModel", "bestTake", "(II)I"⟩, 35) := ⟨⟨by decide +kernel, by decide +kernel⟩, List.mem_of_getElem? (i := 538) (by decide +kernel), List.mem_of_getElem? (i := 904) (by decide +kernel), List.mem_of_getElem? (i := 905) (by decide +kernel)⟩
theorem lw_p66 : lw_okq (⟨"FlakePostModel", "passAll", "()V"⟩, 35) := ⟨⟨by decide +kernel, by decide +kernel⟩, List.mem_of_getElem? (i := 538) (by decide +kernel), List.mem_of_getElem? (i := 921) (by decide +kernel), List.mem_of_getElem? (i := 922) (by decide +kernel)⟩
theorem lw_p67 : lw_okq (⟨"FlakePostModel", "pass", "(I)I"⟩, 35) := ⟨⟨by decide +kernel, by decide +kernel⟩, List.mem_of_getElem? (i := 538) (by decide +kernel), List.mem_of_getElem? (i := 925) (by decide +kernel), List.mem_of_getElem? (i := 926) (by decide +kernel)⟩
theorem lw_p68 : lw_okq (⟨"FlakePostModel", "passRow", "([II)V"⟩, 35) := ⟨⟨by decide +kernel, by decide +kernel⟩, List.mem_of_getElem? (i := 538) (by decide +kernel), List.mem_of_getElem? (i := 929) (by decide +kernel), List.mem_of_getElem? (i := 930) (by decide +kernel)⟩
theorem lw_p69 : lw_okq (⟨"FlakePostModel", "toldOf", "(II)I"⟩, 35) := ⟨⟨by decide +kernel, by decide +kernel⟩, List.mem_of_getElem? (i := 538) (by decide +kernel), List.mem_of_getElem? (i := 944) (by decide +kernel), List.mem_of_getElem? (i := 945) (by decide +kernel)⟩
def lw_privs_5 : List (MethodName × Nat) := [(⟨"FlakePostModel", "gust", "(II)V"⟩, 35), (⟨"FlakePostModel", "bestTake", "(II)I"⟩, 35), (⟨"FlakePostModel", "passAll", "()V"⟩, 35), (⟨"FlakePostModel", "pass", "(I)I"⟩, 35), (⟨"FlakePostModel", "passRow", "([II)V"⟩, 35), (⟨"FlakePostModel", "toldOf", "(II)I"⟩, 35)]
theorem lw_r5 : ∀ q ∈ lw_privs_5, lw_okq q := List.forall_mem_cons.mpr ⟨lw_p64, List.forall_mem_cons.mpr ⟨lw_p65, List.forall_mem_cons.mpr ⟨lw_p66, List.forall_mem_cons.mpr ⟨lw_p67, List.forall_mem_cons.mpr ⟨lw_p68, List.forall_mem_cons.mpr ⟨lw_p69, fun _ h => absurd h List.not_mem_nil⟩⟩⟩⟩⟩⟩
def lw_privs : List (MethodName × Nat) := lw_privs_1 ++ (lw_privs_2 ++ (lw_privs_3 ++ (lw_privs_4 ++ (lw_privs_5))))
def lw_tbl : List Cond := k2_sels lw_privs ++ tables_1
theorem lw_privs_ok : ∀ q ∈ lw_privs, lw_okq q := by
  show ∀ q ∈ lw_privs_1 ++ (lw_privs_2 ++ (lw_privs_3 ++ (lw_privs_4 ++ (lw_privs_5)))), lw_okq q
  exact List.forall_mem_append.mpr ⟨lw_r1, List.forall_mem_append.mpr ⟨lw_r2, List.forall_mem_append.mpr ⟨lw_r3, List.forall_mem_append.mpr ⟨lw_r4, lw_r5⟩⟩⟩⟩
-- ===== end of PART A; then your names; then what follows =====
theorem goodIn_r {big : List Cond} (ws : List Cond) (ps : List Nat) (hp : ws = ps.filterMap (fun i => big[i]?)) (h : ws.all goodWord = true) : GoodIn big ws := by
  intro w hw
  have h1 := List.all_eq_true.mp h w hw
  rw [hp] at hw
  obtain ⟨i, -, hi⟩ := List.mem_filterMap.mp hw
  have hm : w ∈ big := by first | exact List.mem_of_getElem? hi | exact List.getElem?_mem hi
  exact ⟨hm, good_of_word h1⟩
theorem goodIn_app {big a b : List Cond} (ha : GoodIn big a) (hb : GoodIn big b) : GoodIn big (a ++ b) := fun w h => (List.mem_append.mp h).elim (ha w) (hb w)
theorem goodIn_ca {big a b : List Cond} {c : Cond} (ha : GoodIn big (c :: a)) (hb : GoodIn big b) : GoodIn big (c :: (a ++ b)) := fun w h => (List.mem_cons.mp h).elim (fun e => ha w (List.mem_cons.mpr (Or.inl e))) (fun h => (List.mem_append.mp h).elim (fun h => ha w (List.mem_cons.mpr (Or.inr h))) (hb w))
theorem goodIn_sub {big ws : List Cond} (hm : ∀ w ∈ ws, w ∈ big) (h : ws.all goodWord = true) : GoodIn big ws := fun w hw => ⟨hm w hw, good_of_word (List.all_eq_true.mp h w hw)⟩
def RX0 : String := "FlakePost$AirSearch"
def TX0 : u_T := fun k => match k with
  | 0 => ("FlakePost$AirSearch", "airs", "[I", true)
  | 1 => ("FlakePost$AirSearch", "queue", "[I", true)
  | _ => ("FlakePost$AirSearch", "waiting", "I", false)
def tyX0 : Nat → FieldType := fun k => match k with
  | 0 => .array .int
  | 1 => .array .int
  | _ => .int
abbrev wsX00 : List Cond := u_ws RX0 TX0 3
theorem nmX0 : ∀ a, a < 3 → ∀ b, b < 3 → a ≠ b → (TX0 a).2.1 ≠ (TX0 b).2.1 := by decide +kernel
theorem tyX0_ok : ∀ k, k < 3 → parseFieldDescriptor (TX0 k).2.2.1 = some (tyX0 k) := by decide +kernel
abbrev cX0_init : ByteArray := prog_2_method_1_code
def yX0_init : MethodName := ⟨RX0, "<init>", "()V"⟩
abbrev cX0_fewestAirs : ByteArray := prog_2_method_2_code
def yX0_fewestAirs : MethodName := ⟨RX0, "fewestAirs", "(IIII)I"⟩
abbrev cX0_reach : ByteArray := prog_2_method_3_code
def yX0_reach : MethodName := ⟨RX0, "reach", "(II)V"⟩
def RX1 : String := "FlakePost$Catches"
def TX1 : u_T := fun k => match k with
  | _ => ("", "", "", false)
def tyX1 : Nat → FieldType := fun k => match k with
  | _ => .int
abbrev wsX10 : List Cond := u_ws RX1 TX1 0
theorem nmX1 : ∀ a, a < 0 → ∀ b, b < 0 → a ≠ b → (TX1 a).2.1 ≠ (TX1 b).2.1 := by decide +kernel
theorem tyX1_ok : ∀ k, k < 0 → parseFieldDescriptor (TX1 k).2.2.1 = some (tyX1 k) := by decide +kernel
abbrev cX1_canGet : ByteArray := prog_3_method_2_code
def yX1_canGet : MethodName := ⟨RX1, "canGet", "(LFlakePost$Yard;II)Z"⟩
abbrev cX1_byAddressees : ByteArray := prog_3_method_3_code
def yX1_byAddressees : MethodName := ⟨RX1, "byAddressees", "(LFlakePost$Yard;)I"⟩
abbrev cX1_byWhoever : ByteArray := prog_3_method_4_code
def yX1_byWhoever : MethodName := ⟨RX1, "byWhoever", "(LFlakePost$Yard;)I"⟩
abbrev cX1_joinedBy : ByteArray := prog_3_method_5_code
def yX1_joinedBy : MethodName := ⟨RX1, "joinedBy", "(IJ)J"⟩
def RX2 : String := "FlakePost$Day"
def TX2 : u_T := fun k => match k with
  | 0 => ("FlakePost$Day", "after", "LFlakePost$Yard;", true)
  | 1 => ("FlakePost$Day", "badAct", "I", false)
  | 2 => ("FlakePost$Day", "badWhy", "I", false)
  | 3 => ("FlakePost$Day", "firstDelivery", "I", false)
  | _ => ("FlakePost$Day", "downAtFirst", "I", false)
def tyX2 : Nat → FieldType := fun k => match k with
  | 0 => .object "FlakePost$Yard"
  | 1 => .int
  | 2 => .int
  | 3 => .int
  | _ => .int
abbrev wsX20 : List Cond := u_ws RX2 TX2 5
theorem nmX2 : ∀ a, a < 5 → ∀ b, b < 5 → a ≠ b → (TX2 a).2.1 ≠ (TX2 b).2.1 := by decide +kernel
theorem tyX2_ok : ∀ k, k < 5 → parseFieldDescriptor (TX2 k).2.2.1 = some (tyX2 k) := by decide +kernel
abbrev cX2_init : ByteArray := prog_4_method_1_code
def yX2_init : MethodName := ⟨RX2, "<init>", "()V"⟩
abbrev cX2_live : ByteArray := prog_4_method_2_code
def yX2_live : MethodName := ⟨RX2, "live", "(LFlakePost$Yard;LFlakePost$Pad;)V"⟩
abbrev cX2_begin : ByteArray := prog_4_method_3_code
def yX2_begin : MethodName := ⟨RX2, "begin", "(LFlakePost$Yard;)V"⟩
abbrev cX2_cameDown : ByteArray := prog_4_method_4_code
def yX2_cameDown : MethodName := ⟨RX2, "cameDown", "()I"⟩
abbrev cX2_dreamYear : ByteArray := prog_4_method_5_code
def yX2_dreamYear : MethodName := ⟨RX2, "dreamYear", "(LFlakePost$Yard;II)V"⟩
def RX3 : String := "FlakePost$Growth"
def TX3 : u_T := fun k => match k with
  | _ => ("", "", "", false)
def tyX3 : Nat → FieldType := fun k => match k with
  | _ => .int
abbrev wsX30 : List Cond := u_ws RX3 TX3 0
theorem nmX3 : ∀ a, a < 0 → ∀ b, b < 0 → a ≠ b → (TX3 a).2.1 ≠ (TX3 b).2.1 := by decide +kernel
theorem tyX3_ok : ∀ k, k < 0 → parseFieldDescriptor (TX3 k).2.2.1 = some (tyX3 k) := by decide +kernel
abbrev cX3_around : ByteArray := prog_5_method_2_code
def yX3_around : MethodName := ⟨RX3, "around", "(II)I"⟩
abbrev cX3_grown : ByteArray := prog_5_method_3_code
def yX3_grown : MethodName := ⟨RX3, "grown", "(II)I"⟩
abbrev cX3_readAloud : ByteArray := prog_5_method_4_code
def yX3_readAloud : MethodName := ⟨RX3, "readAloud", "(I)I"⟩
abbrev cX3_rows : ByteArray := prog_5_method_5_code
def yX3_rows : MethodName := ⟨RX3, "rows", "(IIIII)I"⟩
abbrev cX3_firstRow : ByteArray := prog_5_method_6_code
def yX3_firstRow : MethodName := ⟨RX3, "firstRow", "(IIIII)J"⟩
def RX4 : String := "FlakePost$GustRow"
def TX4 : u_T := fun k => match k with
  | _ => ("FlakePost$GustRow", "ways", "[I", true)
def tyX4 : Nat → FieldType := fun k => match k with
  | _ => .array .int
abbrev wsX40 : List Cond := u_ws RX4 TX4 1
theorem nmX4 : ∀ a, a < 1 → ∀ b, b < 1 → a ≠ b → (TX4 a).2.1 ≠ (TX4 b).2.1 := by decide +kernel
theorem tyX4_ok : ∀ k, k < 1 → parseFieldDescriptor (TX4 k).2.2.1 = some (tyX4 k) := by decide +kernel
abbrev cX4_init : ByteArray := prog_6_method_1_code
def yX4_init : MethodName := ⟨RX4, "<init>", "()V"⟩
abbrev cX4_fall : ByteArray := prog_6_method_2_code
def yX4_fall : MethodName := ⟨RX4, "fall", "(IIII)V"⟩
abbrev cX4_chance : ByteArray := prog_6_method_3_code
def yX4_chance : MethodName := ⟨RX4, "chance", "(III)J"⟩
abbrev cX4_all : ByteArray := prog_6_method_4_code
def yX4_all : MethodName := ⟨RX4, "all", "()I"⟩
def RX5 : String := "FlakePost$Pad"
def TX5 : u_T := fun k => match k with
  | 0 => ("FlakePost$Pad", "signs", "[I", true)
  | 1 => ("FlakePost$Pad", "count", "I", false)
  | 2 => ("FlakePost$Pad", "kinds", "[I", true)
  | 3 => ("FlakePost$Pad", "ones", "[I", true)
  | _ => ("FlakePost$Pad", "acts", "I", false)
def tyX5 : Nat → FieldType := fun k => match k with
  | 0 => .array .int
  | 1 => .int
  | 2 => .array .int
  | 3 => .array .int
  | _ => .int
abbrev wsX50 : List Cond := u_ws RX5 TX5 5
theorem nmX5 : ∀ a, a < 5 → ∀ b, b < 5 → a ≠ b → (TX5 a).2.1 ≠ (TX5 b).2.1 := by decide +kernel
theorem tyX5_ok : ∀ k, k < 5 → parseFieldDescriptor (TX5 k).2.2.1 = some (tyX5 k) := by decide +kernel
abbrev cX5_init : ByteArray := prog_7_method_1_code
def yX5_init : MethodName := ⟨RX5, "<init>", "()V"⟩
abbrev cX5_add : ByteArray := prog_7_method_2_code
def yX5_add : MethodName := ⟨RX5, "add", "(I)Z"⟩
abbrev cX5_readActs : ByteArray := prog_7_method_3_code
def yX5_readActs : MethodName := ⟨RX5, "readActs", "()I"⟩
abbrev cX5_oneOf : ByteArray := prog_7_method_4_code
def yX5_oneOf : MethodName := ⟨RX5, "oneOf", "(I)I"⟩
abbrev cX5_weatherOf : ByteArray := prog_7_method_5_code
def yX5_weatherOf : MethodName := ⟨RX5, "weatherOf", "(I)I"⟩
abbrev cX5_deedOf : ByteArray := prog_7_method_6_code
def yX5_deedOf : MethodName := ⟨RX5, "deedOf", "(I)I"⟩
def RX6 : String := "FlakePost$SpoonTable"
def TX6 : u_T := fun k => match k with
  | _ => ("FlakePost$SpoonTable", "wins", "[I", true)
def tyX6 : Nat → FieldType := fun k => match k with
  | _ => .array .int
abbrev wsX60 : List Cond := u_ws RX6 TX6 1
theorem nmX6 : ∀ a, a < 1 → ∀ b, b < 1 → a ≠ b → (TX6 a).2.1 ≠ (TX6 b).2.1 := by decide +kernel
theorem tyX6_ok : ∀ k, k < 1 → parseFieldDescriptor (TX6 k).2.2.1 = some (tyX6 k) := by decide +kernel
abbrev cX6_init : ByteArray := prog_8_method_1_code
def yX6_init : MethodName := ⟨RX6, "<init>", "()V"⟩
abbrev cX6_winningTake : ByteArray := prog_8_method_2_code
def yX6_winningTake : MethodName := ⟨RX6, "winningTake", "(II)I"⟩
def RX7 : String := "FlakePost$Yard"
def TX7 : u_T := fun k => match k with
  | 0 => ("FlakePost$Yard", "there", "I", false)
  | 1 => ("FlakePost$Yard", "arm", "[I", true)
  | 2 => ("FlakePost$Yard", "place", "[I", true)
  | 3 => ("FlakePost$Yard", "height", "[I", true)
  | 4 => ("FlakePost$Yard", "addressee", "[I", true)
  | 5 => ("FlakePost$Yard", "with", "[I", true)
  | 6 => ("FlakePost$Yard", "standing", "[I", true)
  | 7 => ("FlakePost$Yard", "umbrellas", "I", false)
  | 8 => ("FlakePost$Yard", "coldLaw", "I", false)
  | 9 => ("FlakePost$Yard", "dampLaw", "I", false)
  | 10 => ("FlakePost$Yard", "sights", "I", false)
  | 11 => ("FlakePost$Yard", "lawHas", "I", false)
  | _ => ("FlakePost$Yard", "lawLacks", "I", false)
def tyX7 : Nat → FieldType := fun k => match k with
  | 0 => .int
  | 1 => .array .int
  | 2 => .array .int
  | 3 => .array .int
  | 4 => .array .int
  | 5 => .array .int
  | 6 => .array .int
  | 7 => .int
  | 8 => .int
  | 9 => .int
  | 10 => .int
  | 11 => .int
  | _ => .int
abbrev wsX70 : List Cond := u_ws RX7 TX7 13
theorem nmX7 : ∀ a, a < 13 → ∀ b, b < 13 → a ≠ b → (TX7 a).2.1 ≠ (TX7 b).2.1 := by decide +kernel
theorem tyX7_ok : ∀ k, k < 13 → parseFieldDescriptor (TX7 k).2.2.1 = some (tyX7 k) := by decide +kernel
abbrev cX7_init : ByteArray := prog_9_method_1_code
def yX7_init : MethodName := ⟨RX7, "<init>", "()V"⟩
abbrev cX7_copy : ByteArray := prog_9_method_2_code
def yX7_copy : MethodName := ⟨RX7, "copy", "(LFlakePost$Yard;)V"⟩
abbrev cX7_has : ByteArray := prog_9_method_3_code
def yX7_has : MethodName := ⟨RX7, "has", "(I)Z"⟩
abbrev cX7_putFlake : ByteArray := prog_9_method_4_code
def yX7_putFlake : MethodName := ⟨RX7, "putFlake", "(IIIII)V"⟩
abbrev cX7_removeFlake : ByteArray := prog_9_method_5_code
def yX7_removeFlake : MethodName := ⟨RX7, "removeFlake", "(I)V"⟩
abbrev cX7_falling : ByteArray := prog_9_method_6_code
def yX7_falling : MethodName := ⟨RX7, "falling", "()I"⟩
abbrev cX7_inRiver : ByteArray := prog_9_method_7_code
def yX7_inRiver : MethodName := ⟨RX7, "inRiver", "()I"⟩
abbrev cX7_down : ByteArray := prog_9_method_8_code
def yX7_down : MethodName := ⟨RX7, "down", "()I"⟩
abbrev cX7_flakesWith : ByteArray := prog_9_method_9_code
def yX7_flakesWith : MethodName := ⟨RX7, "flakesWith", "(I)I"⟩
abbrev cX7_delivered : ByteArray := prog_9_method_10_code
def yX7_delivered : MethodName := ⟨RX7, "delivered", "()I"⟩
abbrev cX7_trodden : ByteArray := prog_9_method_11_code
def yX7_trodden : MethodName := ⟨RX7, "trodden", "()I"⟩
abbrev cX7_whyNot : ByteArray := prog_9_method_12_code
def yX7_whyNot : MethodName := ⟨RX7, "whyNot", "(II)I"⟩
abbrev cX7_carryOut : ByteArray := prog_9_method_13_code
def yX7_carryOut : MethodName := ⟨RX7, "carryOut", "(II)V"⟩
abbrev cX7_growAll : ByteArray := prog_9_method_14_code
def yX7_growAll : MethodName := ⟨RX7, "growAll", "(I)V"⟩
abbrev cX7_blowAll : ByteArray := prog_9_method_15_code
def yX7_blowAll : MethodName := ⟨RX7, "blowAll", "(I)V"⟩
abbrev cX7_blow : ByteArray := prog_9_method_16_code
def yX7_blow : MethodName := ⟨RX7, "blow", "(II)V"⟩
abbrev cX7_lowerAll : ByteArray := prog_9_method_17_code
def yX7_lowerAll : MethodName := ⟨RX7, "lowerAll", "()V"⟩
abbrev cX7_catcherAt : ByteArray := prog_9_method_18_code
def yX7_catcherAt : MethodName := ⟨RX7, "catcherAt", "(I)I"⟩
abbrev cX7_addSight : ByteArray := prog_9_method_19_code
def yX7_addSight : MethodName := ⟨RX7, "addSight", "(II)V"⟩
abbrev cX7_fits : ByteArray := prog_9_method_20_code
def yX7_fits : MethodName := ⟨RX7, "fits", "(I)Z"⟩
abbrev cX7_lawsLeftBy : ByteArray := prog_9_method_21_code
def yX7_lawsLeftBy : MethodName := ⟨RX7, "lawsLeftBy", "(I)I"⟩
def RX8 : String := "FlakePost"
def TX8 : u_T := fun k => match k with
  | 0 => ("FlakePost", "now", "LFlakePost$Yard;", true)
  | 1 => ("FlakePost", "images", "[LFlakePost$Yard;", true)
  | 2 => ("FlakePost", "imagesKept", "I", false)
  | 3 => ("FlakePost", "pad", "LFlakePost$Pad;", true)
  | 4 => ("FlakePost", "day", "LFlakePost$Day;", true)
  | 5 => ("FlakePost", "search", "LFlakePost$AirSearch;", true)
  | 6 => ("FlakePost", "gustRow", "LFlakePost$GustRow;", true)
  | _ => ("FlakePost", "spoons", "LFlakePost$SpoonTable;", true)
def tyX8 : Nat → FieldType := fun k => match k with
  | 0 => .object "FlakePost$Yard"
  | 1 => .array (.object "FlakePost$Yard")
  | 2 => .int
  | 3 => .object "FlakePost$Pad"
  | 4 => .object "FlakePost$Day"
  | 5 => .object "FlakePost$AirSearch"
  | 6 => .object "FlakePost$GustRow"
  | _ => .object "FlakePost$SpoonTable"
abbrev wsX80 : List Cond := u_ws RX8 TX8 8
theorem nmX8 : ∀ a, a < 8 → ∀ b, b < 8 → a ≠ b → (TX8 a).2.1 ≠ (TX8 b).2.1 := by decide +kernel
theorem tyX8_ok : ∀ k, k < 8 → parseFieldDescriptor (TX8 k).2.2.1 = some (tyX8 k) := by decide +kernel
abbrev cX8_init : ByteArray := prog_1_method_1_code
def yX8_init : MethodName := ⟨RX8, "<init>", "()V"⟩
abbrev cX8_flake : ByteArray := prog_1_method_2_code
def yX8_flake : MethodName := ⟨RX8, "flake", "(IIIII)I"⟩
abbrev cX8_melt : ByteArray := prog_1_method_3_code
def yX8_melt : MethodName := ⟨RX8, "melt", "(I)I"⟩
abbrev cX8_stand : ByteArray := prog_1_method_4_code
def yX8_stand : MethodName := ⟨RX8, "stand", "(II)I"⟩
abbrev cX8_air : ByteArray := prog_1_method_5_code
def yX8_air : MethodName := ⟨RX8, "air", "(II)I"⟩
abbrev cX8_say : ByteArray := prog_1_method_6_code
def yX8_say : MethodName := ⟨RX8, "say", "(I)I"⟩
abbrev cX8_wipe : ByteArray := prog_1_method_7_code
def yX8_wipe : MethodName := ⟨RX8, "wipe", "()I"⟩
abbrev cX8_fault : ByteArray := prog_1_method_8_code
def yX8_fault : MethodName := ⟨RX8, "fault", "()I"⟩
abbrev cX8_judge : ByteArray := prog_1_method_9_code
def yX8_judge : MethodName := ⟨RX8, "judge", "(I)I"⟩
abbrev cX8_behind : ByteArray := prog_1_method_10_code
def yX8_behind : MethodName := ⟨RX8, "behind", "(II)I"⟩
abbrev cX8_stands : ByteArray := prog_1_method_11_code
def yX8_stands : MethodName := ⟨RX8, "stands", "(II)I"⟩
abbrev cX8_posted : ByteArray := prog_1_method_12_code
def yX8_posted : MethodName := ⟨RX8, "posted", "(I)I"⟩
abbrev cX8_done : ByteArray := prog_1_method_13_code
def yX8_done : MethodName := ⟨RX8, "done", "()I"⟩
abbrev cX8_says : ByteArray := prog_1_method_14_code
def yX8_says : MethodName := ⟨RX8, "says", "(I)I"⟩
abbrev cX8_grew : ByteArray := prog_1_method_15_code
def yX8_grew : MethodName := ⟨RX8, "grew", "(IIII)J"⟩
abbrev cX8_soon : ByteArray := prog_1_method_16_code
def yX8_soon : MethodName := ⟨RX8, "soon", "(II)I"⟩
abbrev cX8_most : ByteArray := prog_1_method_17_code
def yX8_most : MethodName := ⟨RX8, "most", "(I)I"⟩
abbrev cX8_patch : ByteArray := prog_1_method_18_code
def yX8_patch : MethodName := ⟨RX8, "patch", "(I)I"⟩
abbrev cX8_seen : ByteArray := prog_1_method_19_code
def yX8_seen : MethodName := ⟨RX8, "seen", "(II)I"⟩
abbrev cX8_forget : ByteArray := prog_1_method_20_code
def yX8_forget : MethodName := ⟨RX8, "forget", "()I"⟩
abbrev cX8_laws : ByteArray := prog_1_method_21_code
def yX8_laws : MethodName := ⟨RX8, "laws", "(I)I"⟩
abbrev cX8_look : ByteArray := prog_1_method_22_code
def yX8_look : MethodName := ⟨RX8, "look", "(I)I"⟩
abbrev cX8_gusts : ByteArray := prog_1_method_23_code
def yX8_gusts : MethodName := ⟨RX8, "gusts", "(IIIIII)J"⟩
abbrev cX8_spoon : ByteArray := prog_1_method_24_code
def yX8_spoon : MethodName := ⟨RX8, "spoon", "(II)I"⟩
abbrev cX8_year : ByteArray := prog_1_method_25_code
def yX8_year : MethodName := ⟨RX8, "year", "(III)I"⟩
abbrev cX8_image : ByteArray := prog_1_method_26_code
def yX8_image : MethodName := ⟨RX8, "image", "(I)I"⟩
abbrev cX8_restore : ByteArray := prog_1_method_27_code
def yX8_restore : MethodName := ⟨RX8, "restore", "(I)I"⟩
abbrev cX8_told : ByteArray := prog_1_method_28_code
def yX8_told : MethodName := ⟨RX8, "told", "(I)I"⟩
abbrev cX8_toldOfFlake : ByteArray := prog_1_method_29_code
def yX8_toldOfFlake : MethodName := ⟨RX8, "toldOfFlake", "(II)I"⟩
abbrev cX8_toldOfOne : ByteArray := prog_1_method_30_code
def yX8_toldOfOne : MethodName := ⟨RX8, "toldOfOne", "(II)I"⟩
abbrev cX8_refusalOfDays : ByteArray := prog_1_method_31_code
def yX8_refusalOfDays : MethodName := ⟨RX8, "refusalOfDays", "()I"⟩
abbrev cX8_isBelow : ByteArray := prog_1_method_32_code
def yX8_isBelow : MethodName := ⟨RX8, "isBelow", "(II)Z"⟩
abbrev cX8_bit : ByteArray := prog_1_method_33_code
def yX8_bit : MethodName := ⟨RX8, "bit", "(II)I"⟩
def RX9 : String := "FlakePostModel"
def TX9 : u_T := fun k => match k with
  | 0 => ("FlakePostModel", "there", "I", false)
  | 1 => ("FlakePostModel", "arm", "[I", true)
  | 2 => ("FlakePostModel", "place", "[I", true)
  | 3 => ("FlakePostModel", "height", "[I", true)
  | 4 => ("FlakePostModel", "meant", "[I", true)
  | 5 => ("FlakePostModel", "with", "[I", true)
  | 6 => ("FlakePostModel", "stood", "[I", true)
  | 7 => ("FlakePostModel", "covered", "[I", true)
  | 8 => ("FlakePostModel", "airs", "[I", true)
  | 9 => ("FlakePostModel", "sightFrom", "[I", true)
  | 10 => ("FlakePostModel", "sightTo", "[I", true)
  | 11 => ("FlakePostModel", "sights", "I", false)
  | 12 => ("FlakePostModel", "pad", "[I", true)
  | 13 => ("FlakePostModel", "padMany", "I", false)
  | 14 => ("FlakePostModel", "act", "[I", true)
  | 15 => ("FlakePostModel", "who", "[I", true)
  | 16 => ("FlakePostModel", "acts", "I", false)
  | 17 => ("FlakePostModel", "downMany", "I", false)
  | 18 => ("FlakePostModel", "firstPosted", "I", false)
  | 19 => ("FlakePostModel", "actNow", "I", false)
  | 20 => ("FlakePostModel", "had", "[I", true)
  | 21 => ("FlakePostModel", "badAct", "I", false)
  | 22 => ("FlakePostModel", "badWhy", "I", false)
  | 23 => ("FlakePostModel", "ways", "[J", true)
  | 24 => ("FlakePostModel", "off", "[I", true)
  | 25 => ("FlakePostModel", "mostBy", "[I", true)
  | 26 => ("FlakePostModel", "byArm", "[I", true)
  | 27 => ("FlakePostModel", "isLaw", "[Z", true)
  | 28 => ("FlakePostModel", "parts", "[J", true)
  | 29 => ("FlakePostModel", "partsThen", "[J", true)
  | 30 => ("FlakePostModel", "takes", "[I", true)
  | 31 => ("FlakePostModel", "kept", "[I", true)
  | 32 => ("FlakePostModel", "isKept", "[Z", true)
  | 33 => ("FlakePostModel", "keptAt", "I", false)
  | _ => ("FlakePostModel", "isWriting", "Z", false)
def tyX9 : Nat → FieldType := fun k => match k with
  | 0 => .int
  | 1 => .array .int
  | 2 => .array .int
  | 3 => .array .int
  | 4 => .array .int
  | 5 => .array .int
  | 6 => .array .int
  | 7 => .array .int
  | 8 => .array .int
  | 9 => .array .int
  | 10 => .array .int
  | 11 => .int
  | 12 => .array .int
  | 13 => .int
  | 14 => .array .int
  | 15 => .array .int
  | 16 => .int
  | 17 => .int
  | 18 => .int
  | 19 => .int
  | 20 => .array .int
  | 21 => .int
  | 22 => .int
  | 23 => .array .long
  | 24 => .array .int
  | 25 => .array .int
  | 26 => .array .int
  | 27 => .array .boolean
  | 28 => .array .long
  | 29 => .array .long
  | 30 => .array .int
  | 31 => .array .int
  | 32 => .array .boolean
  | 33 => .int
  | _ => .boolean
abbrev wsX90 : List Cond := u_ws RX9 TX9 35
theorem nmX9 : ∀ a, a < 35 → ∀ b, b < 35 → a ≠ b → (TX9 a).2.1 ≠ (TX9 b).2.1 := by decide +kernel
theorem tyX9_ok : ∀ k, k < 35 → parseFieldDescriptor (TX9 k).2.2.1 = some (tyX9 k) := by decide +kernel
abbrev cX9_init : ByteArray := prog_11_method_1_code
def yX9_init : MethodName := ⟨RX9, "<init>", "()V"⟩
abbrev cX9_in : ByteArray := prog_11_method_3_code
def yX9_in : MethodName := ⟨RX9, "in", "(JJJ)Z"⟩
abbrev cX9_bitsOf : ByteArray := prog_11_method_4_code
def yX9_bitsOf : MethodName := ⟨RX9, "bitsOf", "(I)I"⟩
abbrev cX9_isFlake : ByteArray := prog_11_method_5_code
def yX9_isFlake : MethodName := ⟨RX9, "isFlake", "(I)Z"⟩
abbrev cX9_isOne : ByteArray := prog_11_method_6_code
def yX9_isOne : MethodName := ⟨RX9, "isOne", "(I)Z"⟩
abbrev cX9_isArm : ByteArray := prog_11_method_7_code
def yX9_isArm : MethodName := ⟨RX9, "isArm", "(I)Z"⟩
abbrev cX9_flake : ByteArray := prog_11_method_8_code
def yX9_flake : MethodName := ⟨RX9, "flake", "(IIIII)I"⟩
abbrev cX9_melt : ByteArray := prog_11_method_9_code
def yX9_melt : MethodName := ⟨RX9, "melt", "(I)I"⟩
abbrev cX9_stand : ByteArray := prog_11_method_10_code
def yX9_stand : MethodName := ⟨RX9, "stand", "(II)I"⟩
abbrev cX9_air : ByteArray := prog_11_method_11_code
def yX9_air : MethodName := ⟨RX9, "air", "(II)I"⟩
abbrev cX9_say : ByteArray := prog_11_method_12_code
def yX9_say : MethodName := ⟨RX9, "say", "(I)I"⟩
abbrev cX9_wipe : ByteArray := prog_11_method_13_code
def yX9_wipe : MethodName := ⟨RX9, "wipe", "()I"⟩
abbrev cX9_close : ByteArray := prog_11_method_14_code
def yX9_close : MethodName := ⟨RX9, "close", "(I)I"⟩
abbrev cX9_readOn : ByteArray := prog_11_method_15_code
def yX9_readOn : MethodName := ⟨RX9, "readOn", "(II)I"⟩
abbrev cX9_fault : ByteArray := prog_11_method_16_code
def yX9_fault : MethodName := ⟨RX9, "fault", "()I"⟩
abbrev cX9_isAbove : ByteArray := prog_11_method_17_code
def yX9_isAbove : MethodName := ⟨RX9, "isAbove", "(I)Z"⟩
abbrev cX9_aboveMany : ByteArray := prog_11_method_18_code
def yX9_aboveMany : MethodName := ⟨RX9, "aboveMany", "()I"⟩
abbrev cX9_whyNot : ByteArray := prog_11_method_19_code
def yX9_whyNot : MethodName := ⟨RX9, "whyNot", "(II)I"⟩
abbrev cX9_grown : ByteArray := prog_11_method_20_code
def yX9_grown : MethodName := ⟨RX9, "grown", "(II)I"⟩
abbrev cX9_grow : ByteArray := prog_11_method_21_code
def yX9_grow : MethodName := ⟨RX9, "grow", "(I)V"⟩
abbrev cX9_blowOne : ByteArray := prog_11_method_22_code
def yX9_blowOne : MethodName := ⟨RX9, "blowOne", "(II)V"⟩
abbrev cX9_blow : ByteArray := prog_11_method_23_code
def yX9_blow : MethodName := ⟨RX9, "blow", "(I)V"⟩
abbrev cX9_comeDown : ByteArray := prog_11_method_24_code
def yX9_comeDown : MethodName := ⟨RX9, "comeDown", "(I)V"⟩
abbrev cX9_fall : ByteArray := prog_11_method_25_code
def yX9_fall : MethodName := ⟨RX9, "fall", "()V"⟩
abbrev cX9_happen : ByteArray := prog_11_method_26_code
def yX9_happen : MethodName := ⟨RX9, "happen", "(II)V"⟩
abbrev cX9_keepNow : ByteArray := prog_11_method_27_code
def yX9_keepNow : MethodName := ⟨RX9, "keepNow", "()V"⟩
abbrev cX9_back : ByteArray := prog_11_method_28_code
def yX9_back : MethodName := ⟨RX9, "back", "(I)I"⟩
abbrev cX9_goDays : ByteArray := prog_11_method_29_code
def yX9_goDays : MethodName := ⟨RX9, "goDays", "()V"⟩
abbrev cX9_refusal : ByteArray := prog_11_method_30_code
def yX9_refusal : MethodName := ⟨RX9, "refusal", "()I"⟩
abbrev cX9_judge : ByteArray := prog_11_method_31_code
def yX9_judge : MethodName := ⟨RX9, "judge", "(I)I"⟩
abbrev cX9_ofFlake : ByteArray := prog_11_method_32_code
def yX9_ofFlake : MethodName := ⟨RX9, "ofFlake", "(II)I"⟩
abbrev cX9_behind : ByteArray := prog_11_method_33_code
def yX9_behind : MethodName := ⟨RX9, "behind", "(II)I"⟩
abbrev cX9_flakesOf : ByteArray := prog_11_method_34_code
def yX9_flakesOf : MethodName := ⟨RX9, "flakesOf", "(I)I"⟩
abbrev cX9_stands : ByteArray := prog_11_method_35_code
def yX9_stands : MethodName := ⟨RX9, "stands", "(II)I"⟩
abbrev cX9_postedNow : ByteArray := prog_11_method_36_code
def yX9_postedNow : MethodName := ⟨RX9, "postedNow", "()I"⟩
abbrev cX9_riverNow : ByteArray := prog_11_method_37_code
def yX9_riverNow : MethodName := ⟨RX9, "riverNow", "()I"⟩
abbrev cX9_posted : ByteArray := prog_11_method_38_code
def yX9_posted : MethodName := ⟨RX9, "posted", "(I)I"⟩
abbrev cX9_done : ByteArray := prog_11_method_39_code
def yX9_done : MethodName := ⟨RX9, "done", "()I"⟩
abbrev cX9_says : ByteArray := prog_11_method_40_code
def yX9_says : MethodName := ⟨RX9, "says", "(I)I"⟩
abbrev cX9_findWays : ByteArray := prog_11_method_41_code
def yX9_findWays : MethodName := ⟨RX9, "findWays", "(II)V"⟩
abbrev cX9_firstAirs : ByteArray := prog_11_method_42_code
def yX9_firstAirs : MethodName := ⟨RX9, "firstAirs", "(II)J"⟩
abbrev cX9_grew : ByteArray := prog_11_method_43_code
def yX9_grew : MethodName := ⟨RX9, "grew", "(IIII)J"⟩
abbrev cX9_findOff : ByteArray := prog_11_method_44_code
def yX9_findOff : MethodName := ⟨RX9, "findOff", "(I)Z"⟩
abbrev cX9_soon : ByteArray := prog_11_method_45_code
def yX9_soon : MethodName := ⟨RX9, "soon", "(II)I"⟩
abbrev cX9_canGet : ByteArray := prog_11_method_46_code
def yX9_canGet : MethodName := ⟨RX9, "canGet", "(II)Z"⟩
abbrev cX9_canGetOwn : ByteArray := prog_11_method_47_code
def yX9_canGetOwn : MethodName := ⟨RX9, "canGetOwn", "(I)Z"⟩
abbrev cX9_addFlake : ByteArray := prog_11_method_48_code
def yX9_addFlake : MethodName := ⟨RX9, "addFlake", "(I)V"⟩
abbrev cX9_most : ByteArray := prog_11_method_49_code
def yX9_most : MethodName := ⟨RX9, "most", "(I)I"⟩
abbrev cX9_isFree : ByteArray := prog_11_method_50_code
def yX9_isFree : MethodName := ⟨RX9, "isFree", "(I)Z"⟩
abbrev cX9_patch : ByteArray := prog_11_method_51_code
def yX9_patch : MethodName := ⟨RX9, "patch", "(I)I"⟩
abbrev cX9_seen : ByteArray := prog_11_method_52_code
def yX9_seen : MethodName := ⟨RX9, "seen", "(II)I"⟩
abbrev cX9_forget : ByteArray := prog_11_method_53_code
def yX9_forget : MethodName := ⟨RX9, "forget", "()I"⟩
abbrev cX9_fits : ByteArray := prog_11_method_54_code
def yX9_fits : MethodName := ⟨RX9, "fits", "(I)Z"⟩
abbrev cX9_laws : ByteArray := prog_11_method_55_code
def yX9_laws : MethodName := ⟨RX9, "laws", "(I)I"⟩
abbrev cX9_mostLeft : ByteArray := prog_11_method_56_code
def yX9_mostLeft : MethodName := ⟨RX9, "mostLeft", "(I)I"⟩
abbrev cX9_look : ByteArray := prog_11_method_57_code
def yX9_look : MethodName := ⟨RX9, "look", "(I)I"⟩
abbrev cX9_gust : ByteArray := prog_11_method_58_code
def yX9_gust : MethodName := ⟨RX9, "gust", "(II)V"⟩
abbrev cX9_lowest : ByteArray := prog_11_method_59_code
def yX9_lowest : MethodName := ⟨RX9, "lowest", "(JJI)J"⟩
abbrev cX9_areGusts : ByteArray := prog_11_method_60_code
def yX9_areGusts : MethodName := ⟨RX9, "areGusts", "(IIIII)Z"⟩
abbrev cX9_gusts : ByteArray := prog_11_method_61_code
def yX9_gusts : MethodName := ⟨RX9, "gusts", "(IIIIII)J"⟩
abbrev cX9_bestTake : ByteArray := prog_11_method_62_code
def yX9_bestTake : MethodName := ⟨RX9, "bestTake", "(II)I"⟩
abbrev cX9_spoon : ByteArray := prog_11_method_63_code
def yX9_spoon : MethodName := ⟨RX9, "spoon", "(II)I"⟩
abbrev cX9_year : ByteArray := prog_11_method_64_code
def yX9_year : MethodName := ⟨RX9, "year", "(III)I"⟩
abbrev cX9_pass : ByteArray := prog_11_method_65_code
def yX9_pass : MethodName := ⟨RX9, "pass", "(I)I"⟩
abbrev cX9_passRow : ByteArray := prog_11_method_66_code
def yX9_passRow : MethodName := ⟨RX9, "passRow", "([II)V"⟩
abbrev cX9_passAll : ByteArray := prog_11_method_67_code
def yX9_passAll : MethodName := ⟨RX9, "passAll", "()V"⟩
abbrev cX9_image : ByteArray := prog_11_method_68_code
def yX9_image : MethodName := ⟨RX9, "image", "(I)I"⟩
abbrev cX9_restore : ByteArray := prog_11_method_69_code
def yX9_restore : MethodName := ⟨RX9, "restore", "(I)I"⟩
abbrev cX9_toldOf : ByteArray := prog_11_method_70_code
def yX9_toldOf : MethodName := ⟨RX9, "toldOf", "(II)I"⟩
abbrev cX9_told : ByteArray := prog_11_method_71_code
def yX9_told : MethodName := ⟨RX9, "told", "(I)I"⟩
def RJ6 : String := "java/lang/Integer"
def TJ6 : u_T := fun k => match k with
  | _ => ("", "", "", false)
def tyJ6 : Nat → FieldType := fun k => match k with
  | _ => .int
abbrev wsJ60 : List Cond := u_ws RJ6 TJ6 0
theorem nmJ6 : ∀ a, a < 0 → ∀ b, b < 0 → a ≠ b → (TJ6 a).2.1 ≠ (TJ6 b).2.1 := by decide +kernel
theorem tyJ6_ok : ∀ k, k < 0 → parseFieldDescriptor (TJ6 k).2.2.1 = some (tyJ6 k) := by decide +kernel
abbrev cJ6_bitCount_0f7a4 : ByteArray := prog_12_method_49_code
def yJ6_bitCount_0f7a4 : MethodName := ⟨RJ6, "bitCount", "(I)I"⟩
def RJ9 : String := "java/lang/Math"
def TJ9 : u_T := fun k => match k with
  | _ => ("", "", "", false)
def tyJ9 : Nat → FieldType := fun k => match k with
  | _ => .int
abbrev wsJ90 : List Cond := u_ws RJ9 TJ9 0
theorem nmJ9 : ∀ a, a < 0 → ∀ b, b < 0 → a ≠ b → (TJ9 a).2.1 ≠ (TJ9 b).2.1 := by decide +kernel
theorem tyJ9_ok : ∀ k, k < 0 → parseFieldDescriptor (TJ9 k).2.2.1 = some (tyJ9 k) := by decide +kernel
abbrev cJ9_abs_0f7a4 : ByteArray := prog_13_method_59_code
def yJ9_abs_0f7a4 : MethodName := ⟨RJ9, "abs", "(I)I"⟩
abbrev cJ9_max_7cf53 : ByteArray := prog_13_method_65_code
def yJ9_max_7cf53 : MethodName := ⟨RJ9, "max", "(II)I"⟩
def RJ10 : String := "java/lang/System"
def TJ10 : u_T := fun k => match k with
  | _ => ("", "", "", false)
def tyJ10 : Nat → FieldType := fun k => match k with
  | _ => .int
abbrev wsJ100 : List Cond := u_ws RJ10 TJ10 0
theorem nmJ10 : ∀ a, a < 0 → ∀ b, b < 0 → a ≠ b → (TJ10 a).2.1 ≠ (TJ10 b).2.1 := by decide +kernel
theorem tyJ10_ok : ∀ k, k < 0 → parseFieldDescriptor (TJ10 k).2.2.1 = some (tyJ10 k) := by decide +kernel
def RJ7 : String := "java/util/Arrays"
def TJ7 : u_T := fun k => match k with
  | _ => ("", "", "", false)
def tyJ7 : Nat → FieldType := fun k => match k with
  | _ => .int
abbrev wsJ70 : List Cond := u_ws RJ7 TJ7 0
theorem nmJ7 : ∀ a, a < 0 → ∀ b, b < 0 → a ≠ b → (TJ7 a).2.1 ≠ (TJ7 b).2.1 := by decide +kernel
theorem tyJ7_ok : ∀ k, k < 0 → parseFieldDescriptor (TJ7 k).2.2.1 = some (tyJ7 k) := by decide +kernel
abbrev cJ7_fill_53178 : ByteArray := prog_15_method_103_code
def yJ7_fill_53178 : MethodName := ⟨RJ7, "fill", "([II)V"⟩
def RL : String := "FlakePostLaw"
abbrev cL_law : ByteArray := code
def yL_law : MethodName := ⟨RL, "law", "([I)Z"⟩
abbrev vwCl : List vw_C := [(RX0, TX0, 3), (RX2, TX2, 5), (RX4, TX4, 1), (RX5, TX5, 5), (RX6, TX6, 1), (RX7, TX7, 13), (RX8, TX8, 8), (RX9, TX9, 35)]
