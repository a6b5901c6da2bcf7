section
-- ===== PART A: goes FIRST, ahead of the names: the tables' words, and 'selects' of the private methods out of them =====
/-- a private method of a class that the tables say can be made, by its rows of tables_1 -/
def lw_okq (q : MethodName × Nat) : Prop := (q.1.cls ≠ "java/lang/invoke/MethodHandle" ∧ q.1.cls ≠ "java/lang/invoke/VarHandle") ∧ Cond.instantiable q.1.cls q.2 ∈ tables_1 ∧ Cond.privateMethod q.1 ∈ tables_1 ∧ Cond.instanceMethod q.1 ∈ tables_1
theorem lw_p0 : lw_okq (⟨"FlakePost$SpoonTable", "winningTake", "(II)I"⟩, 1) := ⟨⟨by decide +kernel, by decide +kernel⟩, List.mem_of_getElem? (i := 170) (by decide +kernel), List.mem_of_getElem? (i := 176) (by decide +kernel), List.mem_of_getElem? (i := 177) (by decide +kernel)⟩
theorem lw_p1 : lw_okq (⟨"FlakePost$Yard", "putFlake", "(IIIII)V"⟩, 13) := ⟨⟨by decide +kernel, by decide +kernel⟩, List.mem_of_getElem? (i := 24) (by decide +kernel), List.mem_of_getElem? (i := 219) (by decide +kernel), List.mem_of_getElem? (i := 220) (by decide +kernel)⟩
theorem lw_p2 : lw_okq (⟨"FlakePost$Yard", "has", "(I)Z"⟩, 13) := ⟨⟨by decide +kernel, by decide +kernel⟩, List.mem_of_getElem? (i := 24) (by decide +kernel), List.mem_of_getElem? (i := 233) (by decide +kernel), List.mem_of_getElem? (i := 234) (by decide +kernel)⟩
theorem lw_p3 : lw_okq (⟨"FlakePost$Yard", "removeFlake", "(I)V"⟩, 13) := ⟨⟨by decide +kernel, by decide +kernel⟩, List.mem_of_getElem? (i := 24) (by decide +kernel), List.mem_of_getElem? (i := 239) (by decide +kernel), List.mem_of_getElem? (i := 240) (by decide +kernel)⟩
theorem lw_p4 : lw_okq (⟨"FlakePost$Pad", "add", "(I)Z"⟩, 5) := ⟨⟨by decide +kernel, by decide +kernel⟩, List.mem_of_getElem? (i := 89) (by decide +kernel), List.mem_of_getElem? (i := 255) (by decide +kernel), List.mem_of_getElem? (i := 256) (by decide +kernel)⟩
theorem lw_p5 : lw_okq (⟨"FlakePost$Pad", "readActs", "()I"⟩, 5) := ⟨⟨by decide +kernel, by decide +kernel⟩, List.mem_of_getElem? (i := 89) (by decide +kernel), List.mem_of_getElem? (i := 267) (by decide +kernel), List.mem_of_getElem? (i := 268) (by decide +kernel)⟩
theorem lw_p6 : lw_okq (⟨"FlakePost", "refusalOfDays", "()I"⟩, 8) := ⟨⟨by decide +kernel, by decide +kernel⟩, List.mem_of_getElem? (i := 16) (by decide +kernel), List.mem_of_getElem? (i := 284) (by decide +kernel), List.mem_of_getElem? (i := 285) (by decide +kernel)⟩
theorem lw_p7 : lw_okq (⟨"FlakePost$Day", "live", "(LFlakePost$Yard;LFlakePost$Pad;)V"⟩, 5) := ⟨⟨by decide +kernel, by decide +kernel⟩, List.mem_of_getElem? (i := 116) (by decide +kernel), List.mem_of_getElem? (i := 288) (by decide +kernel), List.mem_of_getElem? (i := 289) (by decide +kernel)⟩
theorem lw_p8 : lw_okq (⟨"FlakePost$Day", "begin", "(LFlakePost$Yard;)V"⟩, 5) := ⟨⟨by decide +kernel, by decide +kernel⟩, List.mem_of_getElem? (i := 116) (by decide +kernel), List.mem_of_getElem? (i := 292) (by decide +kernel), List.mem_of_getElem? (i := 293) (by decide +kernel)⟩
theorem lw_p9 : lw_okq (⟨"FlakePost$Yard", "copy", "(LFlakePost$Yard;)V"⟩, 13) := ⟨⟨by decide +kernel, by decide +kernel⟩, List.mem_of_getElem? (i := 24) (by decide +kernel), List.mem_of_getElem? (i := 296) (by decide +kernel), List.mem_of_getElem? (i := 297) (by decide +kernel)⟩
theorem lw_p10 : lw_okq (⟨"FlakePost$Yard", "down", "()I"⟩, 13) := ⟨⟨by decide +kernel, by decide +kernel⟩, List.mem_of_getElem? (i := 24) (by decide +kernel), List.mem_of_getElem? (i := 303) (by decide +kernel), List.mem_of_getElem? (i := 304) (by decide +kernel)⟩
theorem lw_p11 : lw_okq (⟨"FlakePost$Yard", "falling", "()I"⟩, 13) := ⟨⟨by decide +kernel, by decide +kernel⟩, List.mem_of_getElem? (i := 24) (by decide +kernel), List.mem_of_getElem? (i := 307) (by decide +kernel), List.mem_of_getElem? (i := 308) (by decide +kernel)⟩
theorem lw_p12 : lw_okq (⟨"FlakePost$Yard", "inRiver", "()I"⟩, 13) := ⟨⟨by decide +kernel, by decide +kernel⟩, List.mem_of_getElem? (i := 24) (by decide +kernel), List.mem_of_getElem? (i := 311) (by decide +kernel), List.mem_of_getElem? (i := 312) (by decide +kernel)⟩
theorem lw_p13 : lw_okq (⟨"FlakePost$Yard", "whyNot", "(II)I"⟩, 13) := ⟨⟨by decide +kernel, by decide +kernel⟩, List.mem_of_getElem? (i := 24) (by decide +kernel), List.mem_of_getElem? (i := 315) (by decide +kernel), List.mem_of_getElem? (i := 316) (by decide +kernel)⟩
theorem lw_p14 : lw_okq (⟨"FlakePost$Yard", "delivered", "()I"⟩, 13) := ⟨⟨by decide +kernel, by decide +kernel⟩, List.mem_of_getElem? (i := 24) (by decide +kernel), List.mem_of_getElem? (i := 319) (by decide +kernel), List.mem_of_getElem? (i := 320) (by decide +kernel)⟩
theorem lw_p15 : lw_okq (⟨"FlakePost$Yard", "carryOut", "(II)V"⟩, 13) := ⟨⟨by decide +kernel, by decide +kernel⟩, List.mem_of_getElem? (i := 24) (by decide +kernel), List.mem_of_getElem? (i := 323) (by decide +kernel), List.mem_of_getElem? (i := 324) (by decide +kernel)⟩
def lw_privs_1 : List (MethodName × Nat) := [(⟨"FlakePost$SpoonTable", "winningTake", "(II)I"⟩, 1), (⟨"FlakePost$Yard", "putFlake", "(IIIII)V"⟩, 13), (⟨"FlakePost$Yard", "has", "(I)Z"⟩, 13), (⟨"FlakePost$Yard", "removeFlake", "(I)V"⟩, 13), (⟨"FlakePost$Pad", "add", "(I)Z"⟩, 5), (⟨"FlakePost$Pad", "readActs", "()I"⟩, 5), (⟨"FlakePost", "refusalOfDays", "()I"⟩, 8), (⟨"FlakePost$Day", "live", "(LFlakePost$Yard;LFlakePost$Pad;)V"⟩, 5), (⟨"FlakePost$Day", "begin", "(LFlakePost$Yard;)V"⟩, 5), (⟨"FlakePost$Yard", "copy", "(LFlakePost$Yard;)V"⟩, 13), (⟨"FlakePost$Yard", "down", "()I"⟩, 13), (⟨"FlakePost$Yard", "falling", "()I"⟩, 13), (⟨"FlakePost$Yard", "inRiver", "()I"⟩, 13), (⟨"FlakePost$Yard", "whyNot", "(II)I"⟩, 13), (⟨"FlakePost$Yard", "delivered", "()I"⟩, 13), (⟨"FlakePost$Yard", "carryOut", "(II)V"⟩, 13)]
theorem lw_r1 : ∀ q ∈ lw_privs_1, lw_okq q := List.forall_mem_cons.mpr ⟨lw_p0, List.forall_mem_cons.mpr ⟨lw_p1, List.forall_mem_cons.mpr ⟨lw_p2, List.forall_mem_cons.mpr ⟨lw_p3, List.forall_mem_cons.mpr ⟨lw_p4, List.forall_mem_cons.mpr ⟨lw_p5, List.forall_mem_cons.mpr ⟨lw_p6, List.forall_mem_cons.mpr ⟨lw_p7, List.forall_mem_cons.mpr ⟨lw_p8, List.forall_mem_cons.mpr ⟨lw_p9, List.forall_mem_cons.mpr ⟨lw_p10, List.forall_mem_cons.mpr ⟨lw_p11, List.forall_mem_cons.mpr ⟨lw_p12, List.forall_mem_cons.mpr ⟨lw_p13, List.forall_mem_cons.mpr ⟨lw_p14, List.forall_mem_cons.mpr ⟨lw_p15, fun _ h => absurd h List.not_mem_nil⟩⟩⟩⟩⟩⟩⟩⟩⟩⟩⟩⟩⟩⟩⟩⟩
theorem lw_p16 : lw_okq (⟨"FlakePost$Yard", "growAll", "(I)V"⟩, 13) := ⟨⟨by decide +kernel, by decide +kernel⟩, List.mem_of_getElem? (i := 24) (by decide +kernel), List.mem_of_getElem? (i := 327) (by decide +kernel), List.mem_of_getElem? (i := 328) (by decide +kernel)⟩
theorem lw_p17 : lw_okq (⟨"FlakePost$Yard", "blowAll", "(I)V"⟩, 13) := ⟨⟨by decide +kernel, by decide +kernel⟩, List.mem_of_getElem? (i := 24) (by decide +kernel), List.mem_of_getElem? (i := 338) (by decide +kernel), List.mem_of_getElem? (i := 339) (by decide +kernel)⟩
theorem lw_p18 : lw_okq (⟨"FlakePost$Yard", "blow", "(II)V"⟩, 13) := ⟨⟨by decide +kernel, by decide +kernel⟩, List.mem_of_getElem? (i := 24) (by decide +kernel), List.mem_of_getElem? (i := 342) (by decide +kernel), List.mem_of_getElem? (i := 343) (by decide +kernel)⟩
theorem lw_p19 : lw_okq (⟨"FlakePost$Yard", "lowerAll", "()V"⟩, 13) := ⟨⟨by decide +kernel, by decide +kernel⟩, List.mem_of_getElem? (i := 24) (by decide +kernel), List.mem_of_getElem? (i := 346) (by decide +kernel), List.mem_of_getElem? (i := 347) (by decide +kernel)⟩
theorem lw_p20 : lw_okq (⟨"FlakePost$Yard", "catcherAt", "(I)I"⟩, 13) := ⟨⟨by decide +kernel, by decide +kernel⟩, List.mem_of_getElem? (i := 24) (by decide +kernel), List.mem_of_getElem? (i := 350) (by decide +kernel), List.mem_of_getElem? (i := 351) (by decide +kernel)⟩
theorem lw_p21 : lw_okq (⟨"FlakePost$Day", "cameDown", "()I"⟩, 5) := ⟨⟨by decide +kernel, by decide +kernel⟩, List.mem_of_getElem? (i := 116) (by decide +kernel), List.mem_of_getElem? (i := 354) (by decide +kernel), List.mem_of_getElem? (i := 355) (by decide +kernel)⟩
theorem lw_p22 : lw_okq (⟨"FlakePost$Yard", "flakesWith", "(I)I"⟩, 13) := ⟨⟨by decide +kernel, by decide +kernel⟩, List.mem_of_getElem? (i := 24) (by decide +kernel), List.mem_of_getElem? (i := 368) (by decide +kernel), List.mem_of_getElem? (i := 369) (by decide +kernel)⟩
theorem lw_p23 : lw_okq (⟨"FlakePost$AirSearch", "fewestAirs", "(IIII)I"⟩, 3) := ⟨⟨by decide +kernel, by decide +kernel⟩, List.mem_of_getElem? (i := 144) (by decide +kernel), List.mem_of_getElem? (i := 409) (by decide +kernel), List.mem_of_getElem? (i := 410) (by decide +kernel)⟩
theorem lw_p24 : lw_okq (⟨"FlakePost$AirSearch", "reach", "(II)V"⟩, 3) := ⟨⟨by decide +kernel, by decide +kernel⟩, List.mem_of_getElem? (i := 144) (by decide +kernel), List.mem_of_getElem? (i := 416) (by decide +kernel), List.mem_of_getElem? (i := 417) (by decide +kernel)⟩
theorem lw_p25 : lw_okq (⟨"FlakePost$Yard", "trodden", "()I"⟩, 13) := ⟨⟨by decide +kernel, by decide +kernel⟩, List.mem_of_getElem? (i := 24) (by decide +kernel), List.mem_of_getElem? (i := 449) (by decide +kernel), List.mem_of_getElem? (i := 450) (by decide +kernel)⟩
theorem lw_p26 : lw_okq (⟨"FlakePost$Yard", "addSight", "(II)V"⟩, 13) := ⟨⟨by decide +kernel, by decide +kernel⟩, List.mem_of_getElem? (i := 24) (by decide +kernel), List.mem_of_getElem? (i := 459) (by decide +kernel), List.mem_of_getElem? (i := 460) (by decide +kernel)⟩
theorem lw_p27 : lw_okq (⟨"FlakePost$Yard", "fits", "(I)Z"⟩, 13) := ⟨⟨by decide +kernel, by decide +kernel⟩, List.mem_of_getElem? (i := 24) (by decide +kernel), List.mem_of_getElem? (i := 472) (by decide +kernel), List.mem_of_getElem? (i := 473) (by decide +kernel)⟩
theorem lw_p28 : lw_okq (⟨"FlakePost$Yard", "lawsLeftBy", "(I)I"⟩, 13) := ⟨⟨by decide +kernel, by decide +kernel⟩, List.mem_of_getElem? (i := 24) (by decide +kernel), List.mem_of_getElem? (i := 480) (by decide +kernel), List.mem_of_getElem? (i := 481) (by decide +kernel)⟩
theorem lw_p29 : lw_okq (⟨"FlakePost$GustRow", "fall", "(IIII)V"⟩, 1) := ⟨⟨by decide +kernel, by decide +kernel⟩, List.mem_of_getElem? (i := 160) (by decide +kernel), List.mem_of_getElem? (i := 490) (by decide +kernel), List.mem_of_getElem? (i := 491) (by decide +kernel)⟩
theorem lw_p30 : lw_okq (⟨"FlakePost$GustRow", "chance", "(III)J"⟩, 1) := ⟨⟨by decide +kernel, by decide +kernel⟩, List.mem_of_getElem? (i := 160) (by decide +kernel), List.mem_of_getElem? (i := 495) (by decide +kernel), List.mem_of_getElem? (i := 496) (by decide +kernel)⟩
theorem lw_p31 : lw_okq (⟨"FlakePost$GustRow", "all", "()I"⟩, 1) := ⟨⟨by decide +kernel, by decide +kernel⟩, List.mem_of_getElem? (i := 160) (by decide +kernel), List.mem_of_getElem? (i := 499) (by decide +kernel), List.mem_of_getElem? (i := 500) (by decide +kernel)⟩
def lw_privs_2 : List (MethodName × Nat) := [(⟨"FlakePost$Yard", "growAll", "(I)V"⟩, 13), (⟨"FlakePost$Yard", "blowAll", "(I)V"⟩, 13), (⟨"FlakePost$Yard", "blow", "(II)V"⟩, 13), (⟨"FlakePost$Yard", "lowerAll", "()V"⟩, 13), (⟨"FlakePost$Yard", "catcherAt", "(I)I"⟩, 13), (⟨"FlakePost$Day", "cameDown", "()I"⟩, 5), (⟨"FlakePost$Yard", "flakesWith", "(I)I"⟩, 13), (⟨"FlakePost$AirSearch", "fewestAirs", "(IIII)I"⟩, 3), (⟨"FlakePost$AirSearch", "reach", "(II)V"⟩, 3), (⟨"FlakePost$Yard", "trodden", "()I"⟩, 13), (⟨"FlakePost$Yard", "addSight", "(II)V"⟩, 13), (⟨"FlakePost$Yard", "fits", "(I)Z"⟩, 13), (⟨"FlakePost$Yard", "lawsLeftBy", "(I)I"⟩, 13), (⟨"FlakePost$GustRow", "fall", "(IIII)V"⟩, 1), (⟨"FlakePost$GustRow", "chance", "(III)J"⟩, 1), (⟨"FlakePost$GustRow", "all", "()I"⟩, 1)]
theorem lw_r2 : ∀ q ∈ lw_privs_2, lw_okq q := List.forall_mem_cons.mpr ⟨lw_p16, List.forall_mem_cons.mpr ⟨lw_p17, List.forall_mem_cons.mpr ⟨lw_p18, List.forall_mem_cons.mpr ⟨lw_p19, List.forall_mem_cons.mpr ⟨lw_p20, List.forall_mem_cons.mpr ⟨lw_p21, List.forall_mem_cons.mpr ⟨lw_p22, List.forall_mem_cons.mpr ⟨lw_p23, List.forall_mem_cons.mpr ⟨lw_p24, List.forall_mem_cons.mpr ⟨lw_p25, List.forall_mem_cons.mpr ⟨lw_p26, List.forall_mem_cons.mpr ⟨lw_p27, List.forall_mem_cons.mpr ⟨lw_p28, List.forall_mem_cons.mpr ⟨lw_p29, List.forall_mem_cons.mpr ⟨lw_p30, List.forall_mem_cons.mpr ⟨lw_p31, fun _ h => absurd h List.not_mem_nil⟩⟩⟩⟩⟩⟩⟩⟩⟩⟩⟩⟩⟩⟩⟩⟩
theorem lw_p32 : lw_okq (⟨"FlakePost$Day", "dreamYear", "(LFlakePost$Yard;II)V"⟩, 5) := ⟨⟨by decide +kernel, by decide +kernel⟩, List.mem_of_getElem? (i := 116) (by decide +kernel), List.mem_of_getElem? (i := 512) (by decide +kernel), List.mem_of_getElem? (i := 513) (by decide +kernel)⟩
theorem lw_p33 : lw_okq (⟨"FlakePost", "toldOfOne", "(II)I"⟩, 8) := ⟨⟨by decide +kernel, by decide +kernel⟩, List.mem_of_getElem? (i := 16) (by decide +kernel), List.mem_of_getElem? (i := 530) (by decide +kernel), List.mem_of_getElem? (i := 531) (by decide +kernel)⟩
theorem lw_p34 : lw_okq (⟨"FlakePost", "toldOfFlake", "(II)I"⟩, 8) := ⟨⟨by decide +kernel, by decide +kernel⟩, List.mem_of_getElem? (i := 16) (by decide +kernel), List.mem_of_getElem? (i := 534) (by decide +kernel), List.mem_of_getElem? (i := 535) (by decide +kernel)⟩
theorem lw_p35 : lw_okq (⟨"FlakePostModel", "isFlake", "(I)Z"⟩, 35) := ⟨⟨by decide +kernel, by decide +kernel⟩, List.mem_of_getElem? (i := 538) (by decide +kernel), List.mem_of_getElem? (i := 677) (by decide +kernel), List.mem_of_getElem? (i := 678) (by decide +kernel)⟩
theorem lw_p36 : lw_okq (⟨"FlakePostModel", "readOn", "(II)I"⟩, 35) := ⟨⟨by decide +kernel, by decide +kernel⟩, List.mem_of_getElem? (i := 538) (by decide +kernel), List.mem_of_getElem? (i := 703) (by decide +kernel), List.mem_of_getElem? (i := 704) (by decide +kernel)⟩
theorem lw_p37 : lw_okq (⟨"FlakePostModel", "close", "(I)I"⟩, 35) := ⟨⟨by decide +kernel, by decide +kernel⟩, List.mem_of_getElem? (i := 538) (by decide +kernel), List.mem_of_getElem? (i := 707) (by decide +kernel), List.mem_of_getElem? (i := 708) (by decide +kernel)⟩
theorem lw_p38 : lw_okq (⟨"FlakePostModel", "refusal", "()I"⟩, 35) := ⟨⟨by decide +kernel, by decide +kernel⟩, List.mem_of_getElem? (i := 538) (by decide +kernel), List.mem_of_getElem? (i := 718) (by decide +kernel), List.mem_of_getElem? (i := 719) (by decide +kernel)⟩
theorem lw_p39 : lw_okq (⟨"FlakePostModel", "keepNow", "()V"⟩, 35) := ⟨⟨by decide +kernel, by decide +kernel⟩, List.mem_of_getElem? (i := 538) (by decide +kernel), List.mem_of_getElem? (i := 722) (by decide +kernel), List.mem_of_getElem? (i := 723) (by decide +kernel)⟩
theorem lw_p40 : lw_okq (⟨"FlakePostModel", "goDays", "()V"⟩, 35) := ⟨⟨by decide +kernel, by decide +kernel⟩, List.mem_of_getElem? (i := 538) (by decide +kernel), List.mem_of_getElem? (i := 727) (by decide +kernel), List.mem_of_getElem? (i := 728) (by decide +kernel)⟩
theorem lw_p41 : lw_okq (⟨"FlakePostModel", "whyNot", "(II)I"⟩, 35) := ⟨⟨by decide +kernel, by decide +kernel⟩, List.mem_of_getElem? (i := 538) (by decide +kernel), List.mem_of_getElem? (i := 731) (by decide +kernel), List.mem_of_getElem? (i := 732) (by decide +kernel)⟩
theorem lw_p42 : lw_okq (⟨"FlakePostModel", "aboveMany", "()I"⟩, 35) := ⟨⟨by decide +kernel, by decide +kernel⟩, List.mem_of_getElem? (i := 538) (by decide +kernel), List.mem_of_getElem? (i := 735) (by decide +kernel), List.mem_of_getElem? (i := 736) (by decide +kernel)⟩
theorem lw_p43 : lw_okq (⟨"FlakePostModel", "isAbove", "(I)Z"⟩, 35) := ⟨⟨by decide +kernel, by decide +kernel⟩, List.mem_of_getElem? (i := 538) (by decide +kernel), List.mem_of_getElem? (i := 739) (by decide +kernel), List.mem_of_getElem? (i := 740) (by decide +kernel)⟩
theorem lw_p44 : lw_okq (⟨"FlakePostModel", "happen", "(II)V"⟩, 35) := ⟨⟨by decide +kernel, by decide +kernel⟩, List.mem_of_getElem? (i := 538) (by decide +kernel), List.mem_of_getElem? (i := 743) (by decide +kernel), List.mem_of_getElem? (i := 744) (by decide +kernel)⟩
theorem lw_p45 : lw_okq (⟨"FlakePostModel", "grow", "(I)V"⟩, 35) := ⟨⟨by decide +kernel, by decide +kernel⟩, List.mem_of_getElem? (i := 538) (by decide +kernel), List.mem_of_getElem? (i := 747) (by decide +kernel), List.mem_of_getElem? (i := 748) (by decide +kernel)⟩
theorem lw_p46 : lw_okq (⟨"FlakePostModel", "blow", "(I)V"⟩, 35) := ⟨⟨by decide +kernel, by decide +kernel⟩, List.mem_of_getElem? (i := 538) (by decide +kernel), List.mem_of_getElem? (i := 754) (by decide +kernel), List.mem_of_getElem? (i := 755) (by decide +kernel)⟩
theorem lw_p47 : lw_okq (⟨"FlakePostModel", "blowOne", "(II)V"⟩, 35) := ⟨⟨by decide +kernel, by decide +kernel⟩, List.mem_of_getElem? (i := 538) (by decide +kernel), List.mem_of_getElem? (i := 758) (by decide +kernel), List.mem_of_getElem? (i := 759) (by decide +kernel)⟩
def lw_privs_3 : List (MethodName × Nat) := [(⟨"FlakePost$Day", "dreamYear", "(LFlakePost$Yard;II)V"⟩, 5), (⟨"FlakePost", "toldOfOne", "(II)I"⟩, 8), (⟨"FlakePost", "toldOfFlake", "(II)I"⟩, 8), (⟨"FlakePostModel", "isFlake", "(I)Z"⟩, 35), (⟨"FlakePostModel", "readOn", "(II)I"⟩, 35), (⟨"FlakePostModel", "close", "(I)I"⟩, 35), (⟨"FlakePostModel", "refusal", "()I"⟩, 35), (⟨"FlakePostModel", "keepNow", "()V"⟩, 35), (⟨"FlakePostModel", "goDays", "()V"⟩, 35), (⟨"FlakePostModel", "whyNot", "(II)I"⟩, 35), (⟨"FlakePostModel", "aboveMany", "()I"⟩, 35), (⟨"FlakePostModel", "isAbove", "(I)Z"⟩, 35), (⟨"FlakePostModel", "happen", "(II)V"⟩, 35), (⟨"FlakePostModel", "grow", "(I)V"⟩, 35), (⟨"FlakePostModel", "blow", "(I)V"⟩, 35), (⟨"FlakePostModel", "blowOne", "(II)V"⟩, 35)]
theorem lw_r3 : ∀ q ∈ lw_privs_3, lw_okq q := List.forall_mem_cons.mpr ⟨lw_p32, List.forall_mem_cons.mpr ⟨lw_p33, List.forall_mem_cons.mpr ⟨lw_p34, List.forall_mem_cons.mpr ⟨lw_p35, List.forall_mem_cons.mpr ⟨lw_p36, List.forall_mem_cons.mpr ⟨lw_p37, List.forall_mem_cons.mpr ⟨lw_p38, List.forall_mem_cons.mpr ⟨lw_p39, List.forall_mem_cons.mpr ⟨lw_p40, List.forall_mem_cons.mpr ⟨lw_p41, List.forall_mem_cons.mpr ⟨lw_p42, List.forall_mem_cons.mpr ⟨lw_p43, List.forall_mem_cons.mpr ⟨lw_p44, List.forall_mem_cons.mpr ⟨lw_p45, List.forall_mem_cons.mpr ⟨lw_p46, List.forall_mem_cons.mpr ⟨lw_p47, fun _ h => absurd h List.not_mem_nil⟩⟩⟩⟩⟩⟩⟩⟩⟩⟩⟩⟩⟩⟩⟩⟩
theorem lw_p48 : lw_okq (⟨"FlakePostModel", "fall", "()V"⟩, 35) := ⟨⟨by decide +kernel, by decide +kernel⟩, List.mem_of_getElem? (i := 538) (by decide +kernel), List.mem_of_getElem? (i := 762) (by decide +kernel), List.mem_of_getElem? (i := 763) (by decide +kernel)⟩
theorem lw_p49 : lw_okq (⟨"FlakePostModel", "comeDown", "(I)V"⟩, 35) := ⟨⟨by decide +kernel, by decide +kernel⟩, List.mem_of_getElem? (i := 538) (by decide +kernel), List.mem_of_getElem? (i := 766) (by decide +kernel), List.mem_of_getElem? (i := 767) (by decide +kernel)⟩
theorem lw_p50 : lw_okq (⟨"FlakePostModel", "back", "(I)I"⟩, 35) := ⟨⟨by decide +kernel, by decide +kernel⟩, List.mem_of_getElem? (i := 538) (by decide +kernel), List.mem_of_getElem? (i := 770) (by decide +kernel), List.mem_of_getElem? (i := 771) (by decide +kernel)⟩
theorem lw_p51 : lw_okq (⟨"FlakePostModel", "ofFlake", "(II)I"⟩, 35) := ⟨⟨by decide +kernel, by decide +kernel⟩, List.mem_of_getElem? (i := 538) (by decide +kernel), List.mem_of_getElem? (i := 779) (by decide +kernel), List.mem_of_getElem? (i := 780) (by decide +kernel)⟩
theorem lw_p52 : lw_okq (⟨"FlakePostModel", "flakesOf", "(I)I"⟩, 35) := ⟨⟨by decide +kernel, by decide +kernel⟩, List.mem_of_getElem? (i := 538) (by decide +kernel), List.mem_of_getElem? (i := 787) (by decide +kernel), List.mem_of_getElem? (i := 788) (by decide +kernel)⟩
theorem lw_p53 : lw_okq (⟨"FlakePostModel", "postedNow", "()I"⟩, 35) := ⟨⟨by decide +kernel, by decide +kernel⟩, List.mem_of_getElem? (i := 538) (by decide +kernel), List.mem_of_getElem? (i := 795) (by decide +kernel), List.mem_of_getElem? (i := 796) (by decide +kernel)⟩
theorem lw_p54 : lw_okq (⟨"FlakePostModel", "riverNow", "()I"⟩, 35) := ⟨⟨by decide +kernel, by decide +kernel⟩, List.mem_of_getElem? (i := 538) (by decide +kernel), List.mem_of_getElem? (i := 799) (by decide +kernel), List.mem_of_getElem? (i := 800) (by decide +kernel)⟩
theorem lw_p55 : lw_okq (⟨"FlakePostModel", "findWays", "(II)V"⟩, 35) := ⟨⟨by decide +kernel, by decide +kernel⟩, List.mem_of_getElem? (i := 538) (by decide +kernel), List.mem_of_getElem? (i := 817) (by decide +kernel), List.mem_of_getElem? (i := 818) (by decide +kernel)⟩
theorem lw_p56 : lw_okq (⟨"FlakePostModel", "firstAirs", "(II)J"⟩, 35) := ⟨⟨by decide +kernel, by decide +kernel⟩, List.mem_of_getElem? (i := 538) (by decide +kernel), List.mem_of_getElem? (i := 822) (by decide +kernel), List.mem_of_getElem? (i := 823) (by decide +kernel)⟩
theorem lw_p57 : lw_okq (⟨"FlakePostModel", "findOff", "(I)Z"⟩, 35) := ⟨⟨by decide +kernel, by decide +kernel⟩, List.mem_of_getElem? (i := 538) (by decide +kernel), List.mem_of_getElem? (i := 830) (by decide +kernel), List.mem_of_getElem? (i := 831) (by decide +kernel)⟩
theorem lw_p58 : lw_okq (⟨"FlakePostModel", "canGetOwn", "(I)Z"⟩, 35) := ⟨⟨by decide +kernel, by decide +kernel⟩, List.mem_of_getElem? (i := 538) (by decide +kernel), List.mem_of_getElem? (i := 838) (by decide +kernel), List.mem_of_getElem? (i := 839) (by decide +kernel)⟩
theorem lw_p59 : lw_okq (⟨"FlakePostModel", "canGet", "(II)Z"⟩, 35) := ⟨⟨by decide +kernel, by decide +kernel⟩, List.mem_of_getElem? (i := 538) (by decide +kernel), List.mem_of_getElem? (i := 842) (by decide +kernel), List.mem_of_getElem? (i := 843) (by decide +kernel)⟩
theorem lw_p60 : lw_okq (⟨"FlakePostModel", "addFlake", "(I)V"⟩, 35) := ⟨⟨by decide +kernel, by decide +kernel⟩, List.mem_of_getElem? (i := 538) (by decide +kernel), List.mem_of_getElem? (i := 846) (by decide +kernel), List.mem_of_getElem? (i := 847) (by decide +kernel)⟩
theorem lw_p61 : lw_okq (⟨"FlakePostModel", "isFree", "(I)Z"⟩, 35) := ⟨⟨by decide +kernel, by decide +kernel⟩, List.mem_of_getElem? (i := 538) (by decide +kernel), List.mem_of_getElem? (i := 854) (by decide +kernel), List.mem_of_getElem? (i := 855) (by decide +kernel)⟩
theorem lw_p62 : lw_okq (⟨"FlakePostModel", "fits", "(I)Z"⟩, 35) := ⟨⟨by decide +kernel, by decide +kernel⟩, List.mem_of_getElem? (i := 538) (by decide +kernel), List.mem_of_getElem? (i := 870) (by decide +kernel), List.mem_of_getElem? (i := 871) (by decide +kernel)⟩
theorem lw_p63 : lw_okq (⟨"FlakePostModel", "mostLeft", "(I)I"⟩, 35) := ⟨⟨by decide +kernel, by decide +kernel⟩, List.mem_of_getElem? (i := 538) (by decide +kernel), List.mem_of_getElem? (i := 878) (by decide +kernel), List.mem_of_getElem? (i := 879) (by decide +kernel)⟩
def lw_privs_4 : List (MethodName × Nat) := [(⟨"FlakePostModel", "fall", "()V"⟩, 35), (⟨"FlakePostModel", "comeDown", "(I)V"⟩, 35), (⟨"FlakePostModel", "back", "(I)I"⟩, 35), (⟨"FlakePostModel", "ofFlake", "(II)I"⟩, 35), (⟨"FlakePostModel", "flakesOf", "(I)I"⟩, 35), (⟨"FlakePostModel", "postedNow", "()I"⟩, 35), (⟨"FlakePostModel", "riverNow", "()I"⟩, 35), (⟨"FlakePostModel", "findWays", "(II)V"⟩, 35), (⟨"FlakePostModel", "firstAirs", "(II)J"⟩, 35), (⟨"FlakePostModel", "findOff", "(I)Z"⟩, 35), (⟨"FlakePostModel", "canGetOwn", "(I)Z"⟩, 35), (⟨"FlakePostModel", "canGet", "(II)Z"⟩, 35), (⟨"FlakePostModel", "addFlake", "(I)V"⟩, 35), (⟨"FlakePostModel", "isFree", "(I)Z"⟩, 35), (⟨"FlakePostModel", "fits", "(I)Z"⟩, 35), (⟨"FlakePostModel", "mostLeft", "(I)I"⟩, 35)]
theorem lw_r4 : ∀ q ∈ lw_privs_4, lw_okq q := List.forall_mem_cons.mpr ⟨lw_p48, List.forall_mem_cons.mpr ⟨lw_p49, List.forall_mem_cons.mpr ⟨lw_p50, List.forall_mem_cons.mpr ⟨lw_p51, List.forall_mem_cons.mpr ⟨lw_p52, List.forall_mem_cons.mpr ⟨lw_p53, List.forall_mem_cons.mpr ⟨lw_p54, List.forall_mem_cons.mpr ⟨lw_p55, List.forall_mem_cons.mpr ⟨lw_p56, List.forall_mem_cons.mpr ⟨lw_p57, List.forall_mem_cons.mpr ⟨lw_p58, List.forall_mem_cons.mpr ⟨lw_p59, List.forall_mem_cons.mpr ⟨lw_p60, List.forall_mem_cons.mpr ⟨lw_p61, List.forall_mem_cons.mpr ⟨lw_p62, List.forall_mem_cons.mpr ⟨lw_p63, fun _ h => absurd h List.not_mem_nil⟩⟩⟩⟩⟩⟩⟩⟩⟩⟩⟩⟩⟩⟩⟩⟩
theorem lw_p64 : lw_okq (⟨"FlakePostModel", "gust", "(II)V"⟩, 35) := ⟨⟨by decide +kernel, by decide +kernel⟩, List.mem_of_getElem? (i := 538) (by decide +kernel), List.mem_of_getElem? (i := 892) (by decide +kernel), List.mem_of_getElem? (i := 893) (by decide +kernel)⟩
theorem lw_p65 : lw_okq (⟨"FlakePostModel", "bestTake", "(II)I"⟩, 35) := ⟨⟨by decide +kernel, by decide +kernel⟩, List.mem_of_getElem? (i := 538) (by decide +kernel), List.mem_of_getElem? (i := 904) (by decide +kernel), List.mem_of_getElem? (i := 905) (by decide +kernel)⟩
theorem lw_p66 : lw_okq (⟨"FlakePostModel", "passAll", "()V"⟩, 35) := ⟨⟨by decide +kernel, by decide +kernel⟩, List.mem_of_getElem? (i := 538) (by decide +kernel), List.mem_of_getElem? (i := 921) (by decide +kernel), List.mem_of_getElem? (i := 922) (by decide +kernel)⟩
theorem lw_p67 : lw_okq (⟨"FlakePostModel", "pass", "(I)I"⟩, 35) := ⟨⟨by decide +kernel, by decide +kernel⟩, List.mem_of_getElem? (i := 538) (by decide +kernel), List.mem_of_getElem? (i := 925) (by decide +kernel), List.mem_of_getElem? (i := 926) (by decide +kernel)⟩
theorem lw_p68 : lw_okq (⟨"FlakePostModel", "passRow", "([II)V"⟩, 35) := ⟨⟨by decide +kernel, by decide +kernel⟩, List.mem_of_getElem? (i := 538) (by decide +kernel), List.mem_of_getElem? (i := 929) (by decide +kernel), List.mem_of_getElem? (i := 930) (by decide +kernel)⟩
theorem lw_p69 : lw_okq (⟨"FlakePostModel", "toldOf", "(II)I"⟩, 35) := ⟨⟨by decide +kernel, by decide +kernel⟩, List.mem_of_getElem? (i := 538) (by decide +kernel), List.mem_of_getElem? (i := 944) (by decide +kernel), List.mem_of_getElem? (i := 945) (by decide +kernel)⟩
def lw_privs_5 : List (MethodName × Nat) := [(⟨"FlakePostModel", "gust", "(II)V"⟩, 35), (⟨"FlakePostModel", "bestTake", "(II)I"⟩, 35), (⟨"FlakePostModel", "passAll", "()V"⟩, 35), (⟨"FlakePostModel", "pass", "(I)I"⟩, 35), (⟨"FlakePostModel", "passRow", "([II)V"⟩, 35), (⟨"FlakePostModel", "toldOf", "(II)I"⟩, 35)]
theorem lw_r5 : ∀ q ∈ lw_privs_5, lw_okq q := List.forall_mem_cons.mpr ⟨lw_p64, List.forall_mem_cons.mpr ⟨lw_p65, List.forall_mem_cons.mpr ⟨lw_p66, List.forall_mem_cons.mpr ⟨lw_p67, List.forall_mem_cons.mpr ⟨lw_p68, List.forall_mem_cons.mpr ⟨lw_p69, fun _ h => absurd h List.not_mem_nil⟩⟩⟩⟩⟩⟩
def lw_privs : List (MethodName × Nat) := lw_privs_1 ++ (lw_privs_2 ++ (lw_privs_3 ++ (lw_privs_4 ++ (lw_privs_5))))
def lw_tbl : List Cond := k2_sels lw_privs ++ tables_1
theorem lw_privs_ok : ∀ q ∈ lw_privs, lw_okq q := by
  show ∀ q ∈ lw_privs_1 ++ (lw_privs_2 ++ (lw_privs_3 ++ (lw_privs_4 ++ (lw_privs_5)))), lw_okq q
  exact List.forall_mem_append.mpr ⟨lw_r1, List.forall_mem_append.mpr ⟨lw_r2, List.forall_mem_append.mpr ⟨lw_r3, List.forall_mem_append.mpr ⟨lw_r4, lw_r5⟩⟩⟩⟩
-- ===== end of PART A; then your names; then what follows =====
theorem goodIn_r {big : List Cond} (ws : List Cond) (ps : List Nat) (hp : ws = ps.filterMap (fun i => big[i]?)) (h : ws.all goodWord = true) : GoodIn big ws := by
  intro w hw
  have h1 := List.all_eq_true.mp h w hw
  rw [hp] at hw
  obtain ⟨i, -, hi⟩ := List.mem_filterMap.mp hw
  have hm : w ∈ big := by first | exact List.mem_of_getElem? hi | exact List.getElem?_mem hi
  exact ⟨hm, good_of_word h1⟩
theorem goodIn_app {big a b : List Cond} (ha : GoodIn big a) (hb : GoodIn big b) : GoodIn big (a ++ b) := fun w h => (List.mem_append.mp h).elim (ha w) (hb w)
theorem goodIn_ca {big a b : List Cond} {c : Cond} (ha : GoodIn big (c :: a)) (hb : GoodIn big b) : GoodIn big (c :: (a ++ b)) := fun w h => (List.mem_cons.mp h).elim (fun e => ha w (List.mem_cons.mpr (Or.inl e))) (fun h => (List.mem_append.mp h).elim (fun h => ha w (List.mem_cons.mpr (Or.inr h))) (hb w))
theorem goodIn_sub {big ws : List Cond} (hm : ∀ w ∈ ws, w ∈ big) (h : ws.all goodWord = true) : GoodIn big ws := fun w hw => ⟨hm w hw, good_of_word (List.all_eq_true.mp h w hw)⟩
def RX0 : String := "FlakePost$AirSearch"
def TX0 : u_T := fun k => match k with
  | 0 => ("FlakePost$AirSearch", "airs", "[I", true)
  | 1 => ("FlakePost$AirSearch", "queue", "[I", true)
  | _ => ("FlakePost$AirSearch", "waiting", "I", false)
def tyX0 : Nat → FieldType := fun k => match k with
  | 0 => .array .int
  | 1 => .array .int
  | _ => .int
abbrev wsX00 : List Cond := u_ws RX0 TX0 3
theorem nmX0 : ∀ a, a < 3 → ∀ b, b < 3 → a ≠ b → (TX0 a).2.1 ≠ (TX0 b).2.1 := by decide +kernel
theorem tyX0_ok : ∀ k, k < 3 → parseFieldDescriptor (TX0 k).2.2.1 = some (tyX0 k) := by decide +kernel
abbrev cX0_init : ByteArray := prog_2_method_1_code
def yX0_init : MethodName := ⟨RX0, "<init>", "()V"⟩
abbrev cX0_fewestAirs : ByteArray := prog_2_method_2_code
def yX0_fewestAirs : MethodName := ⟨RX0, "fewestAirs", "(IIII)I"⟩
abbrev cX0_reach : ByteArray := prog_2_method_3_code
def yX0_reach : MethodName := ⟨RX0, "reach", "(II)V"⟩
def RX1 : String := "FlakePost$Catches"
def TX1 : u_T := fun k => match k with
  | _ => ("", "", "", false)
def tyX1 : Nat → FieldType := fun k => match k with
  | _ => .int
abbrev wsX10 : List Cond := u_ws RX1 TX1 0
theorem nmX1 : ∀ a, a < 0 → ∀ b, b < 0 → a ≠ b → (TX1 a).2.1 ≠ (TX1 b).2.1 := by decide +kernel
theorem tyX1_ok : ∀ k, k < 0 → parseFieldDescriptor (TX1 k).2.2.1 = some (tyX1 k) := by decide +kernel
abbrev cX1_canGet : ByteArray := prog_3_method_2_code
def yX1_canGet : MethodName := ⟨RX1, "canGet", "(LFlakePost$Yard;II)Z"⟩
abbrev cX1_byAddressees : ByteArray := prog_3_method_3_code
def yX1_byAddressees : MethodName := ⟨RX1, "byAddressees", "(LFlakePost$Yard;)I"⟩
abbrev cX1_byWhoever : ByteArray := prog_3_method_4_code
def yX1_byWhoever : MethodName := ⟨RX1, "byWhoever", "(LFlakePost$Yard;)I"⟩
abbrev cX1_joinedBy : ByteArray := prog_3_method_5_code
def yX1_joinedBy : MethodName := ⟨RX1, "joinedBy", "(IJ)J"⟩
def RX2 : String := "FlakePost$Day"
def TX2 : u_T := fun k => match k with
  | 0 => ("FlakePost$Day", "after", "LFlakePost$Yard;", true)
  | 1 => ("FlakePost$Day", "badAct", "I", false)
  | 2 => ("FlakePost$Day", "badWhy", "I", false)
  | 3 => ("FlakePost$Day", "firstDelivery", "I", false)
  | _ => ("FlakePost$Day", "downAtFirst", "I", false)
def tyX2 : Nat → FieldType := fun k => match k with
  | 0 => .object "FlakePost$Yard"
  | 1 => .int
  | 2 => .int
  | 3 => .int
  | _ => .int
abbrev wsX20 : List Cond := u_ws RX2 TX2 5
theorem nmX2 : ∀ a, a < 5 → ∀ b, b < 5 → a ≠ b → (TX2 a).2.1 ≠ (TX2 b).2.1 := by decide +kernel
theorem tyX2_ok : ∀ k, k < 5 → parseFieldDescriptor (TX2 k).2.2.1 = some (tyX2 k) := by decide +kernel
abbrev cX2_init : ByteArray := prog_4_method_1_code
def yX2_init : MethodName := ⟨RX2, "<init>", "()V"⟩
abbrev cX2_live : ByteArray := prog_4_method_2_code
def yX2_live : MethodName := ⟨RX2, "live", "(LFlakePost$Yard;LFlakePost$Pad;)V"⟩
abbrev cX2_begin : ByteArray := prog_4_method_3_code
def yX2_begin : MethodName := ⟨RX2, "begin", "(LFlakePost$Yard;)V"⟩
abbrev cX2_cameDown : ByteArray := prog_4_method_4_code
def yX2_cameDown : MethodName := ⟨RX2, "cameDown", "()I"⟩
abbrev cX2_dreamYear : ByteArray := prog_4_method_5_code
def yX2_dreamYear : MethodName := ⟨RX2, "dreamYear", "(LFlakePost$Yard;II)V"⟩
def RX3 : String := "FlakePost$Growth"
def TX3 : u_T := fun k => match k with
  | _ => ("", "", "", false)
def tyX3 : Nat → FieldType := fun k => match k with
  | _ => .int
abbrev wsX30 : List Cond := u_ws RX3 TX3 0
theorem nmX3 : ∀ a, a < 0 → ∀ b, b < 0 → a ≠ b → (TX3 a).2.1 ≠ (TX3 b).2.1 := by decide +kernel
theorem tyX3_ok : ∀ k, k < 0 → parseFieldDescriptor (TX3 k).2.2.1 = some (tyX3 k) := by decide +kernel
abbrev cX3_around : ByteArray := prog_5_method_2_code
def yX3_around : MethodName := ⟨RX3, "around", "(II)I"⟩
abbrev cX3_grown : ByteArray := prog_5_method_3_code
def yX3_grown : MethodName := ⟨RX3, "grown", "(II)I"⟩
abbrev cX3_readAloud : ByteArray := prog_5_method_4_code
def yX3_readAloud : MethodName := ⟨RX3, "readAloud", "(I)I"⟩
abbrev cX3_rows : ByteArray := prog_5_method_5_code
def yX3_rows : MethodName := ⟨RX3, "rows", "(IIIII)I"⟩
abbrev cX3_firstRow : ByteArray := prog_5_method_6_code
def yX3_firstRow : MethodName := ⟨RX3, "firstRow", "(IIIII)J"⟩
def RX4 : String := "FlakePost$GustRow"
def TX4 : u_T := fun k => match k with
  | _ => ("FlakePost$GustRow", "ways", "[I", true)
def tyX4 : Nat → FieldType := fun k => match k with
  | _ => .array .int
abbrev wsX40 : List Cond := u_ws RX4 TX4 1
theorem nmX4 : ∀ a, a < 1 → ∀ b, b < 1 → a ≠ b → (TX4 a).2.1 ≠ (TX4 b).2.1 := by decide +kernel
theorem tyX4_ok : ∀ k, k < 1 → parseFieldDescriptor (TX4 k).2.2.1 = some (tyX4 k) := by decide +kernel
abbrev cX4_init : ByteArray := prog_6_method_1_code
def yX4_init : MethodName := ⟨RX4, "<init>", "()V"⟩
abbrev cX4_fall : ByteArray := prog_6_method_2_code
def yX4_fall : MethodName := ⟨RX4, "fall", "(IIII)V"⟩
abbrev cX4_chance : ByteArray := prog_6_method_3_code
def yX4_chance : MethodName := ⟨RX4, "chance", "(III)J"⟩
abbrev cX4_all : ByteArray := prog_6_method_4_code
def yX4_all : MethodName := ⟨RX4, "all", "()I"⟩
def RX5 : String := "FlakePost$Pad"
def TX5 : u_T := fun k => match k with
  | 0 => ("FlakePost$Pad", "signs", "[I", true)
  | 1 => ("FlakePost$Pad", "count", "I", false)
  | 2 => ("FlakePost$Pad", "kinds", "[I", true)
  | 3 => ("FlakePost$Pad", "ones", "[I", true)
  | _ => ("FlakePost$Pad", "acts", "I", false)
def tyX5 : Nat → FieldType := fun k => match k with
  | 0 => .array .int
  | 1 => .int
  | 2 => .array .int
  | 3 => .array .int
  | _ => .int
abbrev wsX50 : List Cond := u_ws RX5 TX5 5
theorem nmX5 : ∀ a, a < 5 → ∀ b, b < 5 → a ≠ b → (TX5 a).2.1 ≠ (TX5 b).2.1 := by decide +kernel
theorem tyX5_ok : ∀ k, k < 5 → parseFieldDescriptor (TX5 k).2.2.1 = some (tyX5 k) := by decide +kernel
abbrev cX5_init : ByteArray := prog_7_method_1_code
def yX5_init : MethodName := ⟨RX5, "<init>", "()V"⟩
abbrev cX5_add : ByteArray := prog_7_method_2_code
def yX5_add : MethodName := ⟨RX5, "add", "(I)Z"⟩
abbrev cX5_readActs : ByteArray := prog_7_method_3_code
def yX5_readActs : MethodName := ⟨RX5, "readActs", "()I"⟩
abbrev cX5_oneOf : ByteArray := prog_7_method_4_code
def yX5_oneOf : MethodName := ⟨RX5, "oneOf", "(I)I"⟩
abbrev cX5_weatherOf : ByteArray := prog_7_method_5_code
def yX5_weatherOf : MethodName := ⟨RX5, "weatherOf", "(I)I"⟩
abbrev cX5_deedOf : ByteArray := prog_7_method_6_code
def yX5_deedOf : MethodName := ⟨RX5, "deedOf", "(I)I"⟩
def RX6 : String := "FlakePost$SpoonTable"
def TX6 : u_T := fun k => match k with
  | _ => ("FlakePost$SpoonTable", "wins", "[I", true)
def tyX6 : Nat → FieldType := fun k => match k with
  | _ => .array .int
abbrev wsX60 : List Cond := u_ws RX6 TX6 1
theorem nmX6 : ∀ a, a < 1 → ∀ b, b < 1 → a ≠ b → (TX6 a).2.1 ≠ (TX6 b).2.1 := by decide +kernel
theorem tyX6_ok : ∀ k, k < 1 → parseFieldDescriptor (TX6 k).2.2.1 = some (tyX6 k) := by decide +kernel
abbrev cX6_init : ByteArray := prog_8_method_1_code
def yX6_init : MethodName := ⟨RX6, "<init>", "()V"⟩
abbrev cX6_winningTake : ByteArray := prog_8_method_2_code
def yX6_winningTake : MethodName := ⟨RX6, "winningTake", "(II)I"⟩
def RX7 : String := "FlakePost$Yard"
def TX7 : u_T := fun k => match k with
  | 0 => ("FlakePost$Yard", "there", "I", false)
  | 1 => ("FlakePost$Yard", "arm", "[I", true)
  | 2 => ("FlakePost$Yard", "place", "[I", true)
  | 3 => ("FlakePost$Yard", "height", "[I", true)
  | 4 => ("FlakePost$Yard", "addressee", "[I", true)
  | 5 => ("FlakePost$Yard", "with", "[I", true)
  | 6 => ("FlakePost$Yard", "standing", "[I", true)
  | 7 => ("FlakePost$Yard", "umbrellas", "I", false)
  | 8 => ("FlakePost$Yard", "coldLaw", "I", false)
  | 9 => ("FlakePost$Yard", "dampLaw", "I", false)
  | 10 => ("FlakePost$Yard", "sights", "I", false)
  | 11 => ("FlakePost$Yard", "lawHas", "I", false)
  | _ => ("FlakePost$Yard", "lawLacks", "I", false)
def tyX7 : Nat → FieldType := fun k => match k with
  | 0 => .int
  | 1 => .array .int
  | 2 => .array .int
  | 3 => .array .int
  | 4 => .array .int
  | 5 => .array .int
  | 6 => .array .int
  | 7 => .int
  | 8 => .int
  | 9 => .int
  | 10 => .int
  | 11 => .int
  | _ => .int
abbrev wsX70 : List Cond := u_ws RX7 TX7 13
theorem nmX7 : ∀ a, a < 13 → ∀ b, b < 13 → a ≠ b → (TX7 a).2.1 ≠ (TX7 b).2.1 := by decide +kernel
theorem tyX7_ok : ∀ k, k < 13 → parseFieldDescriptor (TX7 k).2.2.1 = some (tyX7 k) := by decide +kernel
abbrev cX7_init : ByteArray := prog_9_method_1_code
def yX7_init : MethodName := ⟨RX7, "<init>", "()V"⟩
abbrev cX7_copy : ByteArray := prog_9_method_2_code
def yX7_copy : MethodName := ⟨RX7, "copy", "(LFlakePost$Yard;)V"⟩
abbrev cX7_has : ByteArray := prog_9_method_3_code
def yX7_has : MethodName := ⟨RX7, "has", "(I)Z"⟩
abbrev cX7_putFlake : ByteArray := prog_9_method_4_code
def yX7_putFlake : MethodName := ⟨RX7, "putFlake", "(IIIII)V"⟩
abbrev cX7_removeFlake : ByteArray := prog_9_method_5_code
def yX7_removeFlake : MethodName := ⟨RX7, "removeFlake", "(I)V"⟩
abbrev cX7_falling : ByteArray := prog_9_method_6_code
def yX7_falling : MethodName := ⟨RX7, "falling", "()I"⟩
abbrev cX7_inRiver : ByteArray := prog_9_method_7_code
def yX7_inRiver : MethodName := ⟨RX7, "inRiver", "()I"⟩
abbrev cX7_down : ByteArray := prog_9_method_8_code
def yX7_down : MethodName := ⟨RX7, "down", "()I"⟩
abbrev cX7_flakesWith : ByteArray := prog_9_method_9_code
def yX7_flakesWith : MethodName := ⟨RX7, "flakesWith", "(I)I"⟩
abbrev cX7_delivered : ByteArray := prog_9_method_10_code
def yX7_delivered : MethodName := ⟨RX7, "delivered", "()I"⟩
abbrev cX7_trodden : ByteArray := prog_9_method_11_code
def yX7_trodden : MethodName := ⟨RX7, "trodden", "()I"⟩
abbrev cX7_whyNot : ByteArray := prog_9_method_12_code
def yX7_whyNot : MethodName := ⟨RX7, "whyNot", "(II)I"⟩
abbrev cX7_carryOut : ByteArray := prog_9_method_13_code
def yX7_carryOut : MethodName := ⟨RX7, "carryOut", "(II)V"⟩
abbrev cX7_growAll : ByteArray := prog_9_method_14_code
def yX7_growAll : MethodName := ⟨RX7, "growAll", "(I)V"⟩
abbrev cX7_blowAll : ByteArray := prog_9_method_15_code
def yX7_blowAll : MethodName := ⟨RX7, "blowAll", "(I)V"⟩
abbrev cX7_blow : ByteArray := prog_9_method_16_code
def yX7_blow : MethodName := ⟨RX7, "blow", "(II)V"⟩
abbrev cX7_lowerAll : ByteArray := prog_9_method_17_code
def yX7_lowerAll : MethodName := ⟨RX7, "lowerAll", "()V"⟩
abbrev cX7_catcherAt : ByteArray := prog_9_method_18_code
def yX7_catcherAt : MethodName := ⟨RX7, "catcherAt", "(I)I"⟩
abbrev cX7_addSight : ByteArray := prog_9_method_19_code
def yX7_addSight : MethodName := ⟨RX7, "addSight", "(II)V"⟩
abbrev cX7_fits : ByteArray := prog_9_method_20_code
def yX7_fits : MethodName := ⟨RX7, "fits", "(I)Z"⟩
abbrev cX7_lawsLeftBy : ByteArray := prog_9_method_21_code
def yX7_lawsLeftBy : MethodName := ⟨RX7, "lawsLeftBy", "(I)I"⟩
def RX8 : String := "FlakePost"
def TX8 : u_T := fun k => match k with
  | 0 => ("FlakePost", "now", "LFlakePost$Yard;", true)
  | 1 => ("FlakePost", "images", "[LFlakePost$Yard;", true)
  | 2 => ("FlakePost", "imagesKept", "I", false)
  | 3 => ("FlakePost", "pad", "LFlakePost$Pad;", true)
  | 4 => ("FlakePost", "day", "LFlakePost$Day;", true)
  | 5 => ("FlakePost", "search", "LFlakePost$AirSearch;", true)
  | 6 => ("FlakePost", "gustRow", "LFlakePost$GustRow;", true)
  | _ => ("FlakePost", "spoons", "LFlakePost$SpoonTable;", true)
def tyX8 : Nat → FieldType := fun k => match k with
  | 0 => .object "FlakePost$Yard"
  | 1 => .array (.object "FlakePost$Yard")
  | 2 => .int
  | 3 => .object "FlakePost$Pad"
  | 4 => .object "FlakePost$Day"
  | 5 => .object "FlakePost$AirSearch"
  | 6 => .object "FlakePost$GustRow"
  | _ => .object "FlakePost$SpoonTable"
abbrev wsX80 : List Cond := u_ws RX8 TX8 8
theorem nmX8 : ∀ a, a < 8 → ∀ b, b < 8 → a ≠ b → (TX8 a).2.1 ≠ (TX8 b).2.1 := by decide +kernel
theorem tyX8_ok : ∀ k, k < 8 → parseFieldDescriptor (TX8 k).2.2.1 = some (tyX8 k) := by decide +kernel
abbrev cX8_init : ByteArray := prog_1_method_1_code
def yX8_init : MethodName := ⟨RX8, "<init>", "()V"⟩
abbrev cX8_flake : ByteArray := prog_1_method_2_code
def yX8_flake : MethodName := ⟨RX8, "flake", "(IIIII)I"⟩
abbrev cX8_melt : ByteArray := prog_1_method_3_code
def yX8_melt : MethodName := ⟨RX8, "melt", "(I)I"⟩
abbrev cX8_stand : ByteArray := prog_1_method_4_code
def yX8_stand : MethodName := ⟨RX8, "stand", "(II)I"⟩
abbrev cX8_air : ByteArray := prog_1_method_5_code
def yX8_air : MethodName := ⟨RX8, "air", "(II)I"⟩
abbrev cX8_say : ByteArray := prog_1_method_6_code
def yX8_say : MethodName := ⟨RX8, "say", "(I)I"⟩
abbrev cX8_wipe : ByteArray := prog_1_method_7_code
def yX8_wipe : MethodName := ⟨RX8, "wipe", "()I"⟩
abbrev cX8_fault : ByteArray := prog_1_method_8_code
def yX8_fault : MethodName := ⟨RX8, "fault", "()I"⟩
abbrev cX8_judge : ByteArray := prog_1_method_9_code
def yX8_judge : MethodName := ⟨RX8, "judge", "(I)I"⟩
abbrev cX8_behind : ByteArray := prog_1_method_10_code
def yX8_behind : MethodName := ⟨RX8, "behind", "(II)I"⟩
abbrev cX8_stands : ByteArray := prog_1_method_11_code
def yX8_stands : MethodName := ⟨RX8, "stands", "(II)I"⟩
abbrev cX8_posted : ByteArray := prog_1_method_12_code
def yX8_posted : MethodName := ⟨RX8, "posted", "(I)I"⟩
abbrev cX8_done : ByteArray := prog_1_method_13_code
def yX8_done : MethodName := ⟨RX8, "done", "()I"⟩
abbrev cX8_says : ByteArray := prog_1_method_14_code
def yX8_says : MethodName := ⟨RX8, "says", "(I)I"⟩
abbrev cX8_grew : ByteArray := prog_1_method_15_code
def yX8_grew : MethodName := ⟨RX8, "grew", "(IIII)J"⟩
abbrev cX8_soon : ByteArray := prog_1_method_16_code
def yX8_soon : MethodName := ⟨RX8, "soon", "(II)I"⟩
abbrev cX8_most : ByteArray := prog_1_method_17_code
def yX8_most : MethodName := ⟨RX8, "most", "(I)I"⟩
abbrev cX8_patch : ByteArray := prog_1_method_18_code
def yX8_patch : MethodName := ⟨RX8, "patch", "(I)I"⟩
abbrev cX8_seen : ByteArray := prog_1_method_19_code
def yX8_seen : MethodName := ⟨RX8, "seen", "(II)I"⟩
abbrev cX8_forget : ByteArray := prog_1_method_20_code
def yX8_forget : MethodName := ⟨RX8, "forget", "()I"⟩
abbrev cX8_laws : ByteArray := prog_1_method_21_code
def yX8_laws : MethodName := ⟨RX8, "laws", "(I)I"⟩
abbrev cX8_look : ByteArray := prog_1_method_22_code
def yX8_look : MethodName := ⟨RX8, "look", "(I)I"⟩
abbrev cX8_gusts : ByteArray := prog_1_method_23_code
def yX8_gusts : MethodName := ⟨RX8, "gusts", "(IIIIII)J"⟩
abbrev cX8_spoon : ByteArray := prog_1_method_24_code
def yX8_spoon : MethodName := ⟨RX8, "spoon", "(II)I"⟩
abbrev cX8_year : ByteArray := prog_1_method_25_code
def yX8_year : MethodName := ⟨RX8, "year", "(III)I"⟩
abbrev cX8_image : ByteArray := prog_1_method_26_code
def yX8_image : MethodName := ⟨RX8, "image", "(I)I"⟩
abbrev cX8_restore : ByteArray := prog_1_method_27_code
def yX8_restore : MethodName := ⟨RX8, "restore", "(I)I"⟩
abbrev cX8_told : ByteArray := prog_1_method_28_code
def yX8_told : MethodName := ⟨RX8, "told", "(I)I"⟩
abbrev cX8_toldOfFlake : ByteArray := prog_1_method_29_code
def yX8_toldOfFlake : MethodName := ⟨RX8, "toldOfFlake", "(II)I"⟩
abbrev cX8_toldOfOne : ByteArray := prog_1_method_30_code
def yX8_toldOfOne : MethodName := ⟨RX8, "toldOfOne", "(II)I"⟩
abbrev cX8_refusalOfDays : ByteArray := prog_1_method_31_code
def yX8_refusalOfDays : MethodName := ⟨RX8, "refusalOfDays", "()I"⟩
abbrev cX8_isBelow : ByteArray := prog_1_method_32_code
def yX8_isBelow : MethodName := ⟨RX8, "isBelow", "(II)Z"⟩
abbrev cX8_bit : ByteArray := prog_1_method_33_code
def yX8_bit : MethodName := ⟨RX8, "bit", "(II)I"⟩
def RX9 : String := "FlakePostModel"
def TX9 : u_T := fun k => match k with
  | 0 => ("FlakePostModel", "there", "I", false)
  | 1 => ("FlakePostModel", "arm", "[I", true)
  | 2 => ("FlakePostModel", "place", "[I", true)
  | 3 => ("FlakePostModel", "height", "[I", true)
  | 4 => ("FlakePostModel", "meant", "[I", true)
  | 5 => ("FlakePostModel", "with", "[I", true)
  | 6 => ("FlakePostModel", "stood", "[I", true)
  | 7 => ("FlakePostModel", "covered", "[I", true)
  | 8 => ("FlakePostModel", "airs", "[I", true)
  | 9 => ("FlakePostModel", "sightFrom", "[I", true)
  | 10 => ("FlakePostModel", "sightTo", "[I", true)
  | 11 => ("FlakePostModel", "sights", "I", false)
  | 12 => ("FlakePostModel", "pad", "[I", true)
  | 13 => ("FlakePostModel", "padMany", "I", false)
  | 14 => ("FlakePostModel", "act", "[I", true)
  | 15 => ("FlakePostModel", "who", "[I", true)
  | 16 => ("FlakePostModel", "acts", "I", false)
  | 17 => ("FlakePostModel", "downMany", "I", false)
  | 18 => ("FlakePostModel", "firstPosted", "I", false)
  | 19 => ("FlakePostModel", "actNow", "I", false)
  | 20 => ("FlakePostModel", "had", "[I", true)
  | 21 => ("FlakePostModel", "badAct", "I", false)
  | 22 => ("FlakePostModel", "badWhy", "I", false)
  | 23 => ("FlakePostModel", "ways", "[J", true)
  | 24 => ("FlakePostModel", "off", "[I", true)
  | 25 => ("FlakePostModel", "mostBy", "[I", true)
  | 26 => ("FlakePostModel", "byArm", "[I", true)
  | 27 => ("FlakePostModel", "isLaw", "[Z", true)
  | 28 => ("FlakePostModel", "parts", "[J", true)
  | 29 => ("FlakePostModel", "partsThen", "[J", true)
  | 30 => ("FlakePostModel", "takes", "[I", true)
  | 31 => ("FlakePostModel", "kept", "[I", true)
  | 32 => ("FlakePostModel", "isKept", "[Z", true)
  | 33 => ("FlakePostModel", "keptAt", "I", false)
  | _ => ("FlakePostModel", "isWriting", "Z", false)
def tyX9 : Nat → FieldType := fun k => match k with
  | 0 => .int
  | 1 => .array .int
  | 2 => .array .int
  | 3 => .array .int
  | 4 => .array .int
  | 5 => .array .int
  | 6 => .array .int
  | 7 => .array .int
  | 8 => .array .int
  | 9 => .array .int
  | 10 => .array .int
  | 11 => .int
  | 12 => .array .int
  | 13 => .int
  | 14 => .array .int
  | 15 => .array .int
  | 16 => .int
  | 17 => .int
  | 18 => .int
  | 19 => .int
  | 20 => .array .int
  | 21 => .int
  | 22 => .int
  | 23 => .array .long
  | 24 => .array .int
  | 25 => .array .int
  | 26 => .array .int
  | 27 => .array .boolean
  | 28 => .array .long
  | 29 => .array .long
  | 30 => .array .int
  | 31 => .array .int
  | 32 => .array .boolean
  | 33 => .int
  | _ => .boolean
abbrev wsX90 : List Cond := u_ws RX9 TX9 35
theorem nmX9 : ∀ a, a < 35 → ∀ b, b < 35 → a ≠ b → (TX9 a).2.1 ≠ (TX9 b).2.1 := by decide +kernel
theorem tyX9_ok : ∀ k, k < 35 → parseFieldDescriptor (TX9 k).2.2.1 = some (tyX9 k) := by decide +kernel
abbrev cX9_init : ByteArray := prog_11_method_1_code
def yX9_init : MethodName := ⟨RX9, "<init>", "()V"⟩
abbrev cX9_in : ByteArray := prog_11_method_3_code
def yX9_in : MethodName := ⟨RX9, "in", "(JJJ)Z"⟩
abbrev cX9_bitsOf : ByteArray := prog_11_method_4_code
def yX9_bitsOf : MethodName := ⟨RX9, "bitsOf", "(I)I"⟩
abbrev cX9_isFlake : ByteArray := prog_11_method_5_code
def yX9_isFlake : MethodName := ⟨RX9, "isFlake", "(I)Z"⟩
abbrev cX9_isOne : ByteArray := prog_11_method_6_code
def yX9_isOne : MethodName := ⟨RX9, "isOne", "(I)Z"⟩
abbrev cX9_isArm : ByteArray := prog_11_method_7_code
def yX9_isArm : MethodName := ⟨RX9, "isArm", "(I)Z"⟩
abbrev cX9_flake : ByteArray := prog_11_method_8_code
def yX9_flake : MethodName := ⟨RX9, "flake", "(IIIII)I"⟩
abbrev cX9_melt : ByteArray := prog_11_method_9_code
def yX9_melt : MethodName := ⟨RX9, "melt", "(I)I"⟩
abbrev cX9_stand : ByteArray := prog_11_method_10_code
def yX9_stand : MethodName := ⟨RX9, "stand", "(II)I"⟩
abbrev cX9_air : ByteArray := prog_11_method_11_code
def yX9_air : MethodName := ⟨RX9, "air", "(II)I"⟩
abbrev cX9_say : ByteArray := prog_11_method_12_code
def yX9_say : MethodName := ⟨RX9, "say", "(I)I"⟩
abbrev cX9_wipe : ByteArray := prog_11_method_13_code
def yX9_wipe : MethodName := ⟨RX9, "wipe", "()I"⟩
abbrev cX9_close : ByteArray := prog_11_method_14_code
def yX9_close : MethodName := ⟨RX9, "close", "(I)I"⟩
abbrev cX9_readOn : ByteArray := prog_11_method_15_code
def yX9_readOn : MethodName := ⟨RX9, "readOn", "(II)I"⟩
abbrev cX9_fault : ByteArray := prog_11_method_16_code
def yX9_fault : MethodName := ⟨RX9, "fault", "()I"⟩
abbrev cX9_isAbove : ByteArray := prog_11_method_17_code
def yX9_isAbove : MethodName := ⟨RX9, "isAbove", "(I)Z"⟩
abbrev cX9_aboveMany : ByteArray := prog_11_method_18_code
def yX9_aboveMany : MethodName := ⟨RX9, "aboveMany", "()I"⟩
abbrev cX9_whyNot : ByteArray := prog_11_method_19_code
def yX9_whyNot : MethodName := ⟨RX9, "whyNot", "(II)I"⟩
abbrev cX9_grown : ByteArray := prog_11_method_20_code
def yX9_grown : MethodName := ⟨RX9, "grown", "(II)I"⟩
abbrev cX9_grow : ByteArray := prog_11_method_21_code
def yX9_grow : MethodName := ⟨RX9, "grow", "(I)V"⟩
abbrev cX9_blowOne : ByteArray := prog_11_method_22_code
def yX9_blowOne : MethodName := ⟨RX9, "blowOne", "(II)V"⟩
abbrev cX9_blow : ByteArray := prog_11_method_23_code
def yX9_blow : MethodName := ⟨RX9, "blow", "(I)V"⟩
abbrev cX9_comeDown : ByteArray := prog_11_method_24_code
def yX9_comeDown : MethodName := ⟨RX9, "comeDown", "(I)V"⟩
abbrev cX9_fall : ByteArray := prog_11_method_25_code
def yX9_fall : MethodName := ⟨RX9, "fall", "()V"⟩
abbrev cX9_happen : ByteArray := prog_11_method_26_code
def yX9_happen : MethodName := ⟨RX9, "happen", "(II)V"⟩
abbrev cX9_keepNow : ByteArray := prog_11_method_27_code
def yX9_keepNow : MethodName := ⟨RX9, "keepNow", "()V"⟩
abbrev cX9_back : ByteArray := prog_11_method_28_code
def yX9_back : MethodName := ⟨RX9, "back", "(I)I"⟩
abbrev cX9_goDays : ByteArray := prog_11_method_29_code
def yX9_goDays : MethodName := ⟨RX9, "goDays", "()V"⟩
abbrev cX9_refusal : ByteArray := prog_11_method_30_code
def yX9_refusal : MethodName := ⟨RX9, "refusal", "()I"⟩
abbrev cX9_judge : ByteArray := prog_11_method_31_code
def yX9_judge : MethodName := ⟨RX9, "judge", "(I)I"⟩
abbrev cX9_ofFlake : ByteArray := prog_11_method_32_code
def yX9_ofFlake : MethodName := ⟨RX9, "ofFlake", "(II)I"⟩
abbrev cX9_behind : ByteArray := prog_11_method_33_code
def yX9_behind : MethodName := ⟨RX9, "behind", "(II)I"⟩
abbrev cX9_flakesOf : ByteArray := prog_11_method_34_code
def yX9_flakesOf : MethodName := ⟨RX9, "flakesOf", "(I)I"⟩
abbrev cX9_stands : ByteArray := prog_11_method_35_code
def yX9_stands : MethodName := ⟨RX9, "stands", "(II)I"⟩
abbrev cX9_postedNow : ByteArray := prog_11_method_36_code
def yX9_postedNow : MethodName := ⟨RX9, "postedNow", "()I"⟩
abbrev cX9_riverNow : ByteArray := prog_11_method_37_code
def yX9_riverNow : MethodName := ⟨RX9, "riverNow", "()I"⟩
abbrev cX9_posted : ByteArray := prog_11_method_38_code
def yX9_posted : MethodName := ⟨RX9, "posted", "(I)I"⟩
abbrev cX9_done : ByteArray := prog_11_method_39_code
def yX9_done : MethodName := ⟨RX9, "done", "()I"⟩
abbrev cX9_says : ByteArray := prog_11_method_40_code
def yX9_says : MethodName := ⟨RX9, "says", "(I)I"⟩
abbrev cX9_findWays : ByteArray := prog_11_method_41_code
def yX9_findWays : MethodName := ⟨RX9, "findWays", "(II)V"⟩
abbrev cX9_firstAirs : ByteArray := prog_11_method_42_code
def yX9_firstAirs : MethodName := ⟨RX9, "firstAirs", "(II)J"⟩
abbrev cX9_grew : ByteArray := prog_11_method_43_code
def yX9_grew : MethodName := ⟨RX9, "grew", "(IIII)J"⟩
abbrev cX9_findOff : ByteArray := prog_11_method_44_code
def yX9_findOff : MethodName := ⟨RX9, "findOff", "(I)Z"⟩
abbrev cX9_soon : ByteArray := prog_11_method_45_code
def yX9_soon : MethodName := ⟨RX9, "soon", "(II)I"⟩
abbrev cX9_canGet : ByteArray := prog_11_method_46_code
def yX9_canGet : MethodName := ⟨RX9, "canGet", "(II)Z"⟩
abbrev cX9_canGetOwn : ByteArray := prog_11_method_47_code
def yX9_canGetOwn : MethodName := ⟨RX9, "canGetOwn", "(I)Z"⟩
abbrev cX9_addFlake : ByteArray := prog_11_method_48_code
def yX9_addFlake : MethodName := ⟨RX9, "addFlake", "(I)V"⟩
abbrev cX9_most : ByteArray := prog_11_method_49_code
def yX9_most : MethodName := ⟨RX9, "most", "(I)I"⟩
abbrev cX9_isFree : ByteArray := prog_11_method_50_code
def yX9_isFree : MethodName := ⟨RX9, "isFree", "(I)Z"⟩
abbrev cX9_patch : ByteArray := prog_11_method_51_code
def yX9_patch : MethodName := ⟨RX9, "patch", "(I)I"⟩
abbrev cX9_seen : ByteArray := prog_11_method_52_code
def yX9_seen : MethodName := ⟨RX9, "seen", "(II)I"⟩
abbrev cX9_forget : ByteArray := prog_11_method_53_code
def yX9_forget : MethodName := ⟨RX9, "forget", "()I"⟩
abbrev cX9_fits : ByteArray := prog_11_method_54_code
def yX9_fits : MethodName := ⟨RX9, "fits", "(I)Z"⟩
abbrev cX9_laws : ByteArray := prog_11_method_55_code
def yX9_laws : MethodName := ⟨RX9, "laws", "(I)I"⟩
abbrev cX9_mostLeft : ByteArray := prog_11_method_56_code
def yX9_mostLeft : MethodName := ⟨RX9, "mostLeft", "(I)I"⟩
abbrev cX9_look : ByteArray := prog_11_method_57_code
def yX9_look : MethodName := ⟨RX9, "look", "(I)I"⟩
abbrev cX9_gust : ByteArray := prog_11_method_58_code
def yX9_gust : MethodName := ⟨RX9, "gust", "(II)V"⟩
abbrev cX9_lowest : ByteArray := prog_11_method_59_code
def yX9_lowest : MethodName := ⟨RX9, "lowest", "(JJI)J"⟩
abbrev cX9_areGusts : ByteArray := prog_11_method_60_code
def yX9_areGusts : MethodName := ⟨RX9, "areGusts", "(IIIII)Z"⟩
abbrev cX9_gusts : ByteArray := prog_11_method_61_code
def yX9_gusts : MethodName := ⟨RX9, "gusts", "(IIIIII)J"⟩
abbrev cX9_bestTake : ByteArray := prog_11_method_62_code
def yX9_bestTake : MethodName := ⟨RX9, "bestTake", "(II)I"⟩
abbrev cX9_spoon : ByteArray := prog_11_method_63_code
def yX9_spoon : MethodName := ⟨RX9, "spoon", "(II)I"⟩
abbrev cX9_year : ByteArray := prog_11_method_64_code
def yX9_year : MethodName := ⟨RX9, "year", "(III)I"⟩
abbrev cX9_pass : ByteArray := prog_11_method_65_code
def yX9_pass : MethodName := ⟨RX9, "pass", "(I)I"⟩
abbrev cX9_passRow : ByteArray := prog_11_method_66_code
def yX9_passRow : MethodName := ⟨RX9, "passRow", "([II)V"⟩
abbrev cX9_passAll : ByteArray := prog_11_method_67_code
def yX9_passAll : MethodName := ⟨RX9, "passAll", "()V"⟩
abbrev cX9_image : ByteArray := prog_11_method_68_code
def yX9_image : MethodName := ⟨RX9, "image", "(I)I"⟩
abbrev cX9_restore : ByteArray := prog_11_method_69_code
def yX9_restore : MethodName := ⟨RX9, "restore", "(I)I"⟩
abbrev cX9_toldOf : ByteArray := prog_11_method_70_code
def yX9_toldOf : MethodName := ⟨RX9, "toldOf", "(II)I"⟩
abbrev cX9_told : ByteArray := prog_11_method_71_code
def yX9_told : MethodName := ⟨RX9, "told", "(I)I"⟩
def RJ6 : String := "java/lang/Integer"
def TJ6 : u_T := fun k => match k with
  | _ => ("", "", "", false)
def tyJ6 : Nat → FieldType := fun k => match k with
  | _ => .int
abbrev wsJ60 : List Cond := u_ws RJ6 TJ6 0
theorem nmJ6 : ∀ a, a < 0 → ∀ b, b < 0 → a ≠ b → (TJ6 a).2.1 ≠ (TJ6 b).2.1 := by decide +kernel
theorem tyJ6_ok : ∀ k, k < 0 → parseFieldDescriptor (TJ6 k).2.2.1 = some (tyJ6 k) := by decide +kernel
abbrev cJ6_bitCount_0f7a4 : ByteArray := prog_12_method_49_code
def yJ6_bitCount_0f7a4 : MethodName := ⟨RJ6, "bitCount", "(I)I"⟩
def RJ9 : String := "java/lang/Math"
def TJ9 : u_T := fun k => match k with
  | _ => ("", "", "", false)
def tyJ9 : Nat → FieldType := fun k => match k with
  | _ => .int
abbrev wsJ90 : List Cond := u_ws RJ9 TJ9 0
theorem nmJ9 : ∀ a, a < 0 → ∀ b, b < 0 → a ≠ b → (TJ9 a).2.1 ≠ (TJ9 b).2.1 := by decide +kernel
theorem tyJ9_ok : ∀ k, k < 0 → parseFieldDescriptor (TJ9 k).2.2.1 = some (tyJ9 k) := by decide +kernel
abbrev cJ9_abs_0f7a4 : ByteArray := prog_13_method_59_code
def yJ9_abs_0f7a4 : MethodName := ⟨RJ9, "abs", "(I)I"⟩
abbrev cJ9_max_7cf53 : ByteArray := prog_13_method_65_code
def yJ9_max_7cf53 : MethodName := ⟨RJ9, "max", "(II)I"⟩
def RJ10 : String := "java/lang/System"
def TJ10 : u_T := fun k => match k with
  | _ => ("", "", "", false)
def tyJ10 : Nat → FieldType := fun k => match k with
  | _ => .int
abbrev wsJ100 : List Cond := u_ws RJ10 TJ10 0
theorem nmJ10 : ∀ a, a < 0 → ∀ b, b < 0 → a ≠ b → (TJ10 a).2.1 ≠ (TJ10 b).2.1 := by decide +kernel
theorem tyJ10_ok : ∀ k, k < 0 → parseFieldDescriptor (TJ10 k).2.2.1 = some (tyJ10 k) := by decide +kernel
def RJ7 : String := "java/util/Arrays"
def TJ7 : u_T := fun k => match k with
  | _ => ("", "", "", false)
def tyJ7 : Nat → FieldType := fun k => match k with
  | _ => .int
abbrev wsJ70 : List Cond := u_ws RJ7 TJ7 0
theorem nmJ7 : ∀ a, a < 0 → ∀ b, b < 0 → a ≠ b → (TJ7 a).2.1 ≠ (TJ7 b).2.1 := by decide +kernel
theorem tyJ7_ok : ∀ k, k < 0 → parseFieldDescriptor (TJ7 k).2.2.1 = some (tyJ7 k) := by decide +kernel
abbrev cJ7_fill_53178 : ByteArray := prog_15_method_103_code
def yJ7_fill_53178 : MethodName := ⟨RJ7, "fill", "([II)V"⟩
def RL : String := "FlakePostLaw"
abbrev cL_law : ByteArray := code
def yL_law : MethodName := ⟨RL, "law", "([I)Z"⟩
abbrev vwCl : List vw_C := [(RX0, TX0, 3), (RX2, TX2, 5), (RX4, TX4, 1), (RX5, TX5, 5), (RX6, TX6, 1), (RX7, TX7, 13), (RX8, TX8, 8), (RX9, TX9, 35)]
end
section
/-! the words: zG, those of the tables that every state keeps; zN, those of nest mates -/
def zG : List Cond := lw_tbl.filter goodWord
theorem z_t0 {w : Cond} (h : w ∈ tables_1) (hg : goodWord w = true) : w ∈ zG := List.mem_filter.mpr ⟨List.mem_append_right _ h, hg⟩
theorem z_t1 {w : Cond} (i : Nat) (h : tables_1_1[i]? = some w) (hg : goodWord w = true) : w ∈ zG := z_t0 (List.mem_append_left _ (List.mem_of_getElem? h)) hg
theorem z_t2 {w : Cond} (i : Nat) (h : tables_1_2[i]? = some w) (hg : goodWord w = true) : w ∈ zG := z_t0 (List.mem_append_right _ (List.mem_append_left _ (List.mem_of_getElem? h))) hg
theorem z_t3 {w : Cond} (i : Nat) (h : tables_1_3[i]? = some w) (hg : goodWord w = true) : w ∈ zG := z_t0 (List.mem_append_right _ (List.mem_append_right _ (List.mem_append_left _ (List.mem_of_getElem? h)))) hg
theorem z_t4 {w : Cond} (i : Nat) (h : tables_1_4[i]? = some w) (hg : goodWord w = true) : w ∈ zG := z_t0 (List.mem_append_right _ (List.mem_append_right _ (List.mem_append_right _ (List.mem_of_getElem? h)))) hg
theorem z_grow : GoodIn zG zG := fun w h => ⟨h, good_of_word (List.mem_filter.mp h).2⟩
theorem z_inT {w : Cond} (h : w ∈ zG) : w ∈ lw_tbl := (List.mem_filter.mp h).1
theorem z_good {y : MethodName} {b : ByteArray} {n : Nat} {r : Option FieldType} (h : Cond.code y b n r ∈ zG) : GoodIn zG (.code y b n r :: zG) := by
  intro w hw
  rcases List.mem_cons.mp hw with e | h1
  · rw [e]; exact z_grow _ h
  · exact z_grow _ h1
theorem z_sel {y : MethodName} {n : Nat} (h : (y, n) ∈ lw_privs) : Cond.selects y.cls y y ∈ zG := List.mem_filter.mpr ⟨List.mem_append_left _ (List.mem_map.mpr ⟨_, h, rfl⟩), rfl⟩
theorem z_p1 {q : MethodName × Nat} (i : Nat) (h : lw_privs_1[i]? = some q) : q ∈ lw_privs := List.mem_append_left _ (List.mem_of_getElem? h)
theorem z_p2 {q : MethodName × Nat} (i : Nat) (h : lw_privs_2[i]? = some q) : q ∈ lw_privs := List.mem_append_right _ (List.mem_append_left _ (List.mem_of_getElem? h))
theorem z_p3 {q : MethodName × Nat} (i : Nat) (h : lw_privs_3[i]? = some q) : q ∈ lw_privs := List.mem_append_right _ (List.mem_append_right _ (List.mem_append_left _ (List.mem_of_getElem? h)))
theorem z_p4 {q : MethodName × Nat} (i : Nat) (h : lw_privs_4[i]? = some q) : q ∈ lw_privs := List.mem_append_right _ (List.mem_append_right _ (List.mem_append_right _ (List.mem_append_left _ (List.mem_of_getElem? h))))
theorem z_p5 {q : MethodName × Nat} (i : Nat) (h : lw_privs_5[i]? = some q) : q ∈ lw_privs := List.mem_append_right _ (List.mem_append_right _ (List.mem_append_right _ (List.mem_append_right _ (List.mem_of_getElem? h))))
/-- a method: its code, that its class is initialised -/
def zCal (y : MethodName) (b : ByteArray) (n : Nat) (r : Option FieldType) : Prop := Cond.code y b n r ∈ zG ∧ Cond.initialized y.cls ∈ zG ∧ y.cls ≠ "java/lang/invoke/MethodHandle" ∧ y.cls ≠ "java/lang/invoke/VarHandle"
def zSel (y : MethodName) : Prop := Cond.instanceMethod y ∈ zG ∧ Cond.selects y.cls y y ∈ zG
theorem zc_X0_init : zCal yX0_init cX0_init 1 none := ⟨z_t1 147 rfl rfl, z_t1 5 rfl rfl, by decide +kernel, by decide +kernel⟩
theorem zi_X0_init : Cond.instanceMethod yX0_init ∈ zG := z_t1 146 rfl rfl
theorem zc_X0_fewestAirs : zCal yX0_fewestAirs cX0_fewestAirs 7 (some .int) := ⟨z_t2 171 rfl rfl, z_t1 5 rfl rfl, by decide +kernel, by decide +kernel⟩
theorem zs_X0_fewestAirs : zSel yX0_fewestAirs := ⟨z_t2 170 rfl rfl, z_sel (z_p2 7 rfl)⟩
theorem zc_X0_reach : zCal yX0_reach cX0_reach 3 none := ⟨z_t2 178 rfl rfl, z_t1 5 rfl rfl, by decide +kernel, by decide +kernel⟩
theorem zs_X0_reach : zSel yX0_reach := ⟨z_t2 177 rfl rfl, z_sel (z_p2 8 rfl)⟩
theorem zc_X1_canGet : zCal yX1_canGet cX1_canGet 4 (some .boolean) := ⟨z_t2 189 rfl rfl, z_t1 13 rfl rfl, by decide +kernel, by decide +kernel⟩
theorem zt_X1_canGet : Cond.static yX1_canGet ∈ zG := z_t2 188 rfl rfl
theorem zc_X1_byAddressees : zCal yX1_byAddressees cX1_byAddressees 4 (some .int) := ⟨z_t2 186 rfl rfl, z_t1 13 rfl rfl, by decide +kernel, by decide +kernel⟩
theorem zt_X1_byAddressees : Cond.static yX1_byAddressees ∈ zG := z_t2 185 rfl rfl
theorem zc_X1_byWhoever : zCal yX1_byWhoever cX1_byWhoever 7 (some .int) := ⟨z_t2 196 rfl rfl, z_t1 13 rfl rfl, by decide +kernel, by decide +kernel⟩
theorem zt_X1_byWhoever : Cond.static yX1_byWhoever ∈ zG := z_t2 195 rfl rfl
theorem zc_X1_joinedBy : zCal yX1_joinedBy cX1_joinedBy 6 (some .long) := ⟨z_t2 199 rfl rfl, z_t1 13 rfl rfl, by decide +kernel, by decide +kernel⟩
theorem zt_X1_joinedBy : Cond.static yX1_joinedBy ∈ zG := z_t2 198 rfl rfl
theorem zc_X2_init : zCal yX2_init cX2_init 1 none := ⟨z_t1 119 rfl rfl, z_t1 4 rfl rfl, by decide +kernel, by decide +kernel⟩
theorem zi_X2_init : Cond.instanceMethod yX2_init ∈ zG := z_t1 118 rfl rfl
theorem zc_X2_live : zCal yX2_live cX2_live 6 none := ⟨z_t2 50 rfl rfl, z_t1 4 rfl rfl, by decide +kernel, by decide +kernel⟩
theorem zs_X2_live : zSel yX2_live := ⟨z_t2 49 rfl rfl, z_sel (z_p1 7 rfl)⟩
theorem zc_X2_begin : zCal yX2_begin cX2_begin 2 none := ⟨z_t2 54 rfl rfl, z_t1 4 rfl rfl, by decide +kernel, by decide +kernel⟩
theorem zs_X2_begin : zSel yX2_begin := ⟨z_t2 53 rfl rfl, z_sel (z_p1 8 rfl)⟩
theorem zc_X2_cameDown : zCal yX2_cameDown cX2_cameDown 1 (some .int) := ⟨z_t2 116 rfl rfl, z_t1 4 rfl rfl, by decide +kernel, by decide +kernel⟩
theorem zs_X2_cameDown : zSel yX2_cameDown := ⟨z_t2 115 rfl rfl, z_sel (z_p2 5 rfl)⟩
theorem zc_X2_dreamYear : zCal yX2_dreamYear cX2_dreamYear 8 none := ⟨z_t3 34 rfl rfl, z_t1 4 rfl rfl, by decide +kernel, by decide +kernel⟩
theorem zs_X2_dreamYear : zSel yX2_dreamYear := ⟨z_t3 33 rfl rfl, z_sel (z_p3 0 rfl)⟩
theorem zc_X3_around : zCal yX3_around cX3_around 2 (some .int) := ⟨z_t2 95 rfl rfl, z_t1 11 rfl rfl, by decide +kernel, by decide +kernel⟩
theorem zt_X3_around : Cond.static yX3_around ∈ zG := z_t2 94 rfl rfl
theorem zc_X3_grown : zCal yX3_grown cX3_grown 4 (some .int) := ⟨z_t2 92 rfl rfl, z_t1 11 rfl rfl, by decide +kernel, by decide +kernel⟩
theorem zt_X3_grown : Cond.static yX3_grown ∈ zG := z_t2 91 rfl rfl
theorem zc_X3_readAloud : zCal yX3_readAloud cX3_readAloud 4 (some .int) := ⟨z_t2 148 rfl rfl, z_t1 11 rfl rfl, by decide +kernel, by decide +kernel⟩
theorem zt_X3_readAloud : Cond.static yX3_readAloud ∈ zG := z_t2 147 rfl rfl
theorem zc_X3_rows : zCal yX3_rows cX3_rows 5 (some .int) := ⟨z_t2 156 rfl rfl, z_t1 11 rfl rfl, by decide +kernel, by decide +kernel⟩
theorem zt_X3_rows : Cond.static yX3_rows ∈ zG := z_t2 155 rfl rfl
theorem zc_X3_firstRow : zCal yX3_firstRow cX3_firstRow 11 (some .long) := ⟨z_t2 161 rfl rfl, z_t1 11 rfl rfl, by decide +kernel, by decide +kernel⟩
theorem zt_X3_firstRow : Cond.static yX3_firstRow ∈ zG := z_t2 160 rfl rfl
theorem zc_X4_init : zCal yX4_init cX4_init 1 none := ⟨z_t1 163 rfl rfl, z_t1 6 rfl rfl, by decide +kernel, by decide +kernel⟩
theorem zi_X4_init : Cond.instanceMethod yX4_init ∈ zG := z_t1 162 rfl rfl
theorem zc_X4_fall : zCal yX4_fall cX4_fall 10 none := ⟨z_t3 12 rfl rfl, z_t1 6 rfl rfl, by decide +kernel, by decide +kernel⟩
theorem zs_X4_fall : zSel yX4_fall := ⟨z_t3 11 rfl rfl, z_sel (z_p2 13 rfl)⟩
theorem zc_X4_chance : zCal yX4_chance cX4_chance 7 (some .long) := ⟨z_t3 17 rfl rfl, z_t1 6 rfl rfl, by decide +kernel, by decide +kernel⟩
theorem zs_X4_chance : zSel yX4_chance := ⟨z_t3 16 rfl rfl, z_sel (z_p2 14 rfl)⟩
theorem zc_X4_all : zCal yX4_all cX4_all 3 (some .int) := ⟨z_t3 21 rfl rfl, z_t1 6 rfl rfl, by decide +kernel, by decide +kernel⟩
theorem zs_X4_all : zSel yX4_all := ⟨z_t3 20 rfl rfl, z_sel (z_p2 15 rfl)⟩
theorem zc_X5_init : zCal yX5_init cX5_init 1 none := ⟨z_t1 92 rfl rfl, z_t1 3 rfl rfl, by decide +kernel, by decide +kernel⟩
theorem zi_X5_init : Cond.instanceMethod yX5_init ∈ zG := z_t1 91 rfl rfl
theorem zc_X5_add : zCal yX5_add cX5_add 2 (some .boolean) := ⟨z_t2 17 rfl rfl, z_t1 3 rfl rfl, by decide +kernel, by decide +kernel⟩
theorem zs_X5_add : zSel yX5_add := ⟨z_t2 16 rfl rfl, z_sel (z_p1 4 rfl)⟩
theorem zc_X5_readActs : zCal yX5_readActs cX5_readActs 4 (some .int) := ⟨z_t2 29 rfl rfl, z_t1 3 rfl rfl, by decide +kernel, by decide +kernel⟩
theorem zs_X5_readActs : zSel yX5_readActs := ⟨z_t2 28 rfl rfl, z_sel (z_p1 5 rfl)⟩
theorem zc_X5_oneOf : zCal yX5_oneOf cX5_oneOf 1 (some .int) := ⟨z_t2 32 rfl rfl, z_t1 3 rfl rfl, by decide +kernel, by decide +kernel⟩
theorem zt_X5_oneOf : Cond.static yX5_oneOf ∈ zG := z_t2 31 rfl rfl
theorem zc_X5_weatherOf : zCal yX5_weatherOf cX5_weatherOf 1 (some .int) := ⟨z_t2 35 rfl rfl, z_t1 3 rfl rfl, by decide +kernel, by decide +kernel⟩
theorem zt_X5_weatherOf : Cond.static yX5_weatherOf ∈ zG := z_t2 34 rfl rfl
theorem zc_X5_deedOf : zCal yX5_deedOf cX5_deedOf 1 (some .int) := ⟨z_t2 38 rfl rfl, z_t1 3 rfl rfl, by decide +kernel, by decide +kernel⟩
theorem zt_X5_deedOf : Cond.static yX5_deedOf ∈ zG := z_t2 37 rfl rfl
theorem zc_X6_init : zCal yX6_init cX6_init 3 none := ⟨z_t1 173 rfl rfl, z_t1 7 rfl rfl, by decide +kernel, by decide +kernel⟩
theorem zi_X6_init : Cond.instanceMethod yX6_init ∈ zG := z_t1 172 rfl rfl
theorem zc_X6_winningTake : zCal yX6_winningTake cX6_winningTake 4 (some .int) := ⟨z_t1 178 rfl rfl, z_t1 7 rfl rfl, by decide +kernel, by decide +kernel⟩
theorem zs_X6_winningTake : zSel yX6_winningTake := ⟨z_t1 177 rfl rfl, z_sel (z_p1 0 rfl)⟩
theorem zc_X7_init : zCal yX7_init cX7_init 2 none := ⟨z_t1 27 rfl rfl, z_t1 2 rfl rfl, by decide +kernel, by decide +kernel⟩
theorem zi_X7_init : Cond.instanceMethod yX7_init ∈ zG := z_t1 26 rfl rfl
theorem zc_X7_copy : zCal yX7_copy cX7_copy 2 none := ⟨z_t2 58 rfl rfl, z_t1 2 rfl rfl, by decide +kernel, by decide +kernel⟩
theorem zs_X7_copy : zSel yX7_copy := ⟨z_t2 57 rfl rfl, z_sel (z_p1 9 rfl)⟩
theorem zc_X7_has : zCal yX7_has cX7_has 2 (some .boolean) := ⟨z_t1 235 rfl rfl, z_t1 2 rfl rfl, by decide +kernel, by decide +kernel⟩
theorem zs_X7_has : zSel yX7_has := ⟨z_t1 234 rfl rfl, z_sel (z_p1 2 rfl)⟩
theorem zc_X7_putFlake : zCal yX7_putFlake cX7_putFlake 6 none := ⟨z_t1 221 rfl rfl, z_t1 2 rfl rfl, by decide +kernel, by decide +kernel⟩
theorem zs_X7_putFlake : zSel yX7_putFlake := ⟨z_t1 220 rfl rfl, z_sel (z_p1 1 rfl)⟩
theorem zc_X7_removeFlake : zCal yX7_removeFlake cX7_removeFlake 2 none := ⟨z_t2 1 rfl rfl, z_t1 2 rfl rfl, by decide +kernel, by decide +kernel⟩
theorem zs_X7_removeFlake : zSel yX7_removeFlake := ⟨z_t2 0 rfl rfl, z_sel (z_p1 3 rfl)⟩
theorem zc_X7_falling : zCal yX7_falling cX7_falling 3 (some .int) := ⟨z_t2 69 rfl rfl, z_t1 2 rfl rfl, by decide +kernel, by decide +kernel⟩
theorem zs_X7_falling : zSel yX7_falling := ⟨z_t2 68 rfl rfl, z_sel (z_p1 11 rfl)⟩
theorem zc_X7_inRiver : zCal yX7_inRiver cX7_inRiver 3 (some .int) := ⟨z_t2 73 rfl rfl, z_t1 2 rfl rfl, by decide +kernel, by decide +kernel⟩
theorem zs_X7_inRiver : zSel yX7_inRiver := ⟨z_t2 72 rfl rfl, z_sel (z_p1 12 rfl)⟩
theorem zc_X7_down : zCal yX7_down cX7_down 1 (some .int) := ⟨z_t2 65 rfl rfl, z_t1 2 rfl rfl, by decide +kernel, by decide +kernel⟩
theorem zs_X7_down : zSel yX7_down := ⟨z_t2 64 rfl rfl, z_sel (z_p1 10 rfl)⟩
theorem zc_X7_flakesWith : zCal yX7_flakesWith cX7_flakesWith 4 (some .int) := ⟨z_t2 130 rfl rfl, z_t1 2 rfl rfl, by decide +kernel, by decide +kernel⟩
theorem zs_X7_flakesWith : zSel yX7_flakesWith := ⟨z_t2 129 rfl rfl, z_sel (z_p2 6 rfl)⟩
theorem zc_X7_delivered : zCal yX7_delivered cX7_delivered 3 (some .int) := ⟨z_t2 81 rfl rfl, z_t1 2 rfl rfl, by decide +kernel, by decide +kernel⟩
theorem zs_X7_delivered : zSel yX7_delivered := ⟨z_t2 80 rfl rfl, z_sel (z_p1 14 rfl)⟩
theorem zc_X7_trodden : zCal yX7_trodden cX7_trodden 4 (some .int) := ⟨z_t2 211 rfl rfl, z_t1 2 rfl rfl, by decide +kernel, by decide +kernel⟩
theorem zs_X7_trodden : zSel yX7_trodden := ⟨z_t2 210 rfl rfl, z_sel (z_p2 9 rfl)⟩
theorem zc_X7_whyNot : zCal yX7_whyNot cX7_whyNot 3 (some .int) := ⟨z_t2 77 rfl rfl, z_t1 2 rfl rfl, by decide +kernel, by decide +kernel⟩
theorem zs_X7_whyNot : zSel yX7_whyNot := ⟨z_t2 76 rfl rfl, z_sel (z_p1 13 rfl)⟩
theorem zc_X7_carryOut : zCal yX7_carryOut cX7_carryOut 3 none := ⟨z_t2 85 rfl rfl, z_t1 2 rfl rfl, by decide +kernel, by decide +kernel⟩
theorem zs_X7_carryOut : zSel yX7_carryOut := ⟨z_t2 84 rfl rfl, z_sel (z_p1 15 rfl)⟩
theorem zc_X7_growAll : zCal yX7_growAll cX7_growAll 3 none := ⟨z_t2 89 rfl rfl, z_t1 2 rfl rfl, by decide +kernel, by decide +kernel⟩
theorem zs_X7_growAll : zSel yX7_growAll := ⟨z_t2 88 rfl rfl, z_sel (z_p2 0 rfl)⟩
theorem zc_X7_blowAll : zCal yX7_blowAll cX7_blowAll 3 none := ⟨z_t2 100 rfl rfl, z_t1 2 rfl rfl, by decide +kernel, by decide +kernel⟩
theorem zs_X7_blowAll : zSel yX7_blowAll := ⟨z_t2 99 rfl rfl, z_sel (z_p2 1 rfl)⟩
theorem zc_X7_blow : zCal yX7_blow cX7_blow 3 none := ⟨z_t2 104 rfl rfl, z_t1 2 rfl rfl, by decide +kernel, by decide +kernel⟩
theorem zs_X7_blow : zSel yX7_blow := ⟨z_t2 103 rfl rfl, z_sel (z_p2 2 rfl)⟩
theorem zc_X7_lowerAll : zCal yX7_lowerAll cX7_lowerAll 2 none := ⟨z_t2 108 rfl rfl, z_t1 2 rfl rfl, by decide +kernel, by decide +kernel⟩
theorem zs_X7_lowerAll : zSel yX7_lowerAll := ⟨z_t2 107 rfl rfl, z_sel (z_p2 3 rfl)⟩
theorem zc_X7_catcherAt : zCal yX7_catcherAt cX7_catcherAt 3 (some .int) := ⟨z_t2 112 rfl rfl, z_t1 2 rfl rfl, by decide +kernel, by decide +kernel⟩
theorem zs_X7_catcherAt : zSel yX7_catcherAt := ⟨z_t2 111 rfl rfl, z_sel (z_p2 4 rfl)⟩
theorem zc_X7_addSight : zCal yX7_addSight cX7_addSight 5 none := ⟨z_t2 221 rfl rfl, z_t1 2 rfl rfl, by decide +kernel, by decide +kernel⟩
theorem zs_X7_addSight : zSel yX7_addSight := ⟨z_t2 220 rfl rfl, z_sel (z_p2 10 rfl)⟩
theorem zc_X7_fits : zCal yX7_fits cX7_fits 2 (some .boolean) := ⟨z_t2 234 rfl rfl, z_t1 2 rfl rfl, by decide +kernel, by decide +kernel⟩
theorem zs_X7_fits : zSel yX7_fits := ⟨z_t2 233 rfl rfl, z_sel (z_p2 11 rfl)⟩
theorem zc_X7_lawsLeftBy : zCal yX7_lawsLeftBy cX7_lawsLeftBy 4 (some .int) := ⟨z_t3 2 rfl rfl, z_t1 2 rfl rfl, by decide +kernel, by decide +kernel⟩
theorem zs_X7_lawsLeftBy : zSel yX7_lawsLeftBy := ⟨z_t3 1 rfl rfl, z_sel (z_p2 12 rfl)⟩
theorem zc_X8_init : zCal yX8_init cX8_init 1 none := ⟨z_t1 19 rfl rfl, z_t1 1 rfl rfl, by decide +kernel, by decide +kernel⟩
theorem zi_X8_init : Cond.instanceMethod yX8_init ∈ zG := z_t1 18 rfl rfl
theorem zc_X8_flake : zCal yX8_flake cX8_flake 6 (some .int) := ⟨z_t1 214 rfl rfl, z_t1 1 rfl rfl, by decide +kernel, by decide +kernel⟩
theorem zs_X8_flake : zSel yX8_flake := ⟨z_t1 212 rfl rfl, z_t1 213 rfl rfl⟩
theorem zc_X8_melt : zCal yX8_melt cX8_melt 2 (some .int) := ⟨z_t1 231 rfl rfl, z_t1 1 rfl rfl, by decide +kernel, by decide +kernel⟩
theorem zs_X8_melt : zSel yX8_melt := ⟨z_t1 229 rfl rfl, z_t1 230 rfl rfl⟩
theorem zc_X8_stand : zCal yX8_stand cX8_stand 4 (some .int) := ⟨z_t2 5 rfl rfl, z_t1 1 rfl rfl, by decide +kernel, by decide +kernel⟩
theorem zs_X8_stand : zSel yX8_stand := ⟨z_t2 3 rfl rfl, z_t2 4 rfl rfl⟩
theorem zc_X8_air : zCal yX8_air cX8_air 4 (some .int) := ⟨z_t2 9 rfl rfl, z_t1 1 rfl rfl, by decide +kernel, by decide +kernel⟩
theorem zs_X8_air : zSel yX8_air := ⟨z_t2 7 rfl rfl, z_t2 8 rfl rfl⟩
theorem zc_X8_say : zCal yX8_say cX8_say 2 (some .int) := ⟨z_t2 13 rfl rfl, z_t1 1 rfl rfl, by decide +kernel, by decide +kernel⟩
theorem zs_X8_say : zSel yX8_say := ⟨z_t2 11 rfl rfl, z_t2 12 rfl rfl⟩
theorem zc_X8_wipe : zCal yX8_wipe cX8_wipe 2 (some .int) := ⟨z_t2 21 rfl rfl, z_t1 1 rfl rfl, by decide +kernel, by decide +kernel⟩
theorem zs_X8_wipe : zSel yX8_wipe := ⟨z_t2 19 rfl rfl, z_t2 20 rfl rfl⟩
theorem zc_X8_fault : zCal yX8_fault cX8_fault 1 (some .int) := ⟨z_t2 25 rfl rfl, z_t1 1 rfl rfl, by decide +kernel, by decide +kernel⟩
theorem zs_X8_fault : zSel yX8_fault := ⟨z_t2 23 rfl rfl, z_t2 24 rfl rfl⟩
theorem zc_X8_judge : zCal yX8_judge cX8_judge 3 (some .int) := ⟨z_t2 42 rfl rfl, z_t1 1 rfl rfl, by decide +kernel, by decide +kernel⟩
theorem zs_X8_judge : zSel yX8_judge := ⟨z_t2 40 rfl rfl, z_t2 41 rfl rfl⟩
theorem zc_X8_behind : zCal yX8_behind cX8_behind 4 (some .int) := ⟨z_t2 121 rfl rfl, z_t1 1 rfl rfl, by decide +kernel, by decide +kernel⟩
theorem zs_X8_behind : zSel yX8_behind := ⟨z_t2 119 rfl rfl, z_t2 120 rfl rfl⟩
theorem zc_X8_stands : zCal yX8_stands cX8_stands 4 (some .int) := ⟨z_t2 125 rfl rfl, z_t1 1 rfl rfl, by decide +kernel, by decide +kernel⟩
theorem zs_X8_stands : zSel yX8_stands := ⟨z_t2 123 rfl rfl, z_t2 124 rfl rfl⟩
theorem zc_X8_posted : zCal yX8_posted cX8_posted 3 (some .int) := ⟨z_t2 134 rfl rfl, z_t1 1 rfl rfl, by decide +kernel, by decide +kernel⟩
theorem zs_X8_posted : zSel yX8_posted := ⟨z_t2 132 rfl rfl, z_t2 133 rfl rfl⟩
theorem zc_X8_done : zCal yX8_done cX8_done 2 (some .int) := ⟨z_t2 140 rfl rfl, z_t1 1 rfl rfl, by decide +kernel, by decide +kernel⟩
theorem zs_X8_done : zSel yX8_done := ⟨z_t2 138 rfl rfl, z_t2 139 rfl rfl⟩
theorem zc_X8_says : zCal yX8_says cX8_says 2 (some .int) := ⟨z_t2 145 rfl rfl, z_t1 1 rfl rfl, by decide +kernel, by decide +kernel⟩
theorem zs_X8_says : zSel yX8_says := ⟨z_t2 143 rfl rfl, z_t2 144 rfl rfl⟩
theorem zc_X8_grew : zCal yX8_grew cX8_grew 5 (some .long) := ⟨z_t2 152 rfl rfl, z_t1 1 rfl rfl, by decide +kernel, by decide +kernel⟩
theorem zs_X8_grew : zSel yX8_grew := ⟨z_t2 150 rfl rfl, z_t2 151 rfl rfl⟩
theorem zc_X8_soon : zCal yX8_soon cX8_soon 3 (some .int) := ⟨z_t2 167 rfl rfl, z_t1 1 rfl rfl, by decide +kernel, by decide +kernel⟩
theorem zs_X8_soon : zSel yX8_soon := ⟨z_t2 165 rfl rfl, z_t2 166 rfl rfl⟩
theorem zc_X8_most : zCal yX8_most cX8_most 2 (some .int) := ⟨z_t2 183 rfl rfl, z_t1 1 rfl rfl, by decide +kernel, by decide +kernel⟩
theorem zs_X8_most : zSel yX8_most := ⟨z_t2 181 rfl rfl, z_t2 182 rfl rfl⟩
theorem zc_X8_patch : zCal yX8_patch cX8_patch 7 (some .int) := ⟨z_t2 207 rfl rfl, z_t1 1 rfl rfl, by decide +kernel, by decide +kernel⟩
theorem zs_X8_patch : zSel yX8_patch := ⟨z_t2 205 rfl rfl, z_t2 206 rfl rfl⟩
theorem zc_X8_seen : zCal yX8_seen cX8_seen 3 (some .int) := ⟨z_t2 217 rfl rfl, z_t1 1 rfl rfl, by decide +kernel, by decide +kernel⟩
theorem zs_X8_seen : zSel yX8_seen := ⟨z_t2 215 rfl rfl, z_t2 216 rfl rfl⟩
theorem zc_X8_forget : zCal yX8_forget cX8_forget 2 (some .int) := ⟨z_t2 226 rfl rfl, z_t1 1 rfl rfl, by decide +kernel, by decide +kernel⟩
theorem zs_X8_forget : zSel yX8_forget := ⟨z_t2 224 rfl rfl, z_t2 225 rfl rfl⟩
theorem zc_X8_laws : zCal yX8_laws cX8_laws 4 (some .int) := ⟨z_t2 230 rfl rfl, z_t1 1 rfl rfl, by decide +kernel, by decide +kernel⟩
theorem zs_X8_laws : zSel yX8_laws := ⟨z_t2 228 rfl rfl, z_t2 229 rfl rfl⟩
theorem zc_X8_look : zCal yX8_look cX8_look 6 (some .int) := ⟨z_t2 238 rfl rfl, z_t1 1 rfl rfl, by decide +kernel, by decide +kernel⟩
theorem zs_X8_look : zSel yX8_look := ⟨z_t2 236 rfl rfl, z_t2 237 rfl rfl⟩
theorem zc_X8_gusts : zCal yX8_gusts cX8_gusts 8 (some .long) := ⟨z_t3 7 rfl rfl, z_t1 1 rfl rfl, by decide +kernel, by decide +kernel⟩
theorem zs_X8_gusts : zSel yX8_gusts := ⟨z_t3 5 rfl rfl, z_t3 6 rfl rfl⟩
theorem zc_X8_spoon : zCal yX8_spoon cX8_spoon 4 (some .int) := ⟨z_t3 25 rfl rfl, z_t1 1 rfl rfl, by decide +kernel, by decide +kernel⟩
theorem zs_X8_spoon : zSel yX8_spoon := ⟨z_t3 23 rfl rfl, z_t3 24 rfl rfl⟩
theorem zc_X8_year : zCal yX8_year cX8_year 4 (some .int) := ⟨z_t3 30 rfl rfl, z_t1 1 rfl rfl, by decide +kernel, by decide +kernel⟩
theorem zs_X8_year : zSel yX8_year := ⟨z_t3 28 rfl rfl, z_t3 29 rfl rfl⟩
theorem zc_X8_image : zCal yX8_image cX8_image 2 (some .int) := ⟨z_t3 40 rfl rfl, z_t1 1 rfl rfl, by decide +kernel, by decide +kernel⟩
theorem zs_X8_image : zSel yX8_image := ⟨z_t3 38 rfl rfl, z_t3 39 rfl rfl⟩
theorem zc_X8_restore : zCal yX8_restore cX8_restore 2 (some .int) := ⟨z_t3 44 rfl rfl, z_t1 1 rfl rfl, by decide +kernel, by decide +kernel⟩
theorem zs_X8_restore : zSel yX8_restore := ⟨z_t3 42 rfl rfl, z_t3 43 rfl rfl⟩
theorem zc_X8_told : zCal yX8_told cX8_told 2 (some .int) := ⟨z_t3 48 rfl rfl, z_t1 1 rfl rfl, by decide +kernel, by decide +kernel⟩
theorem zs_X8_told : zSel yX8_told := ⟨z_t3 46 rfl rfl, z_t3 47 rfl rfl⟩
theorem zc_X8_toldOfFlake : zCal yX8_toldOfFlake cX8_toldOfFlake 3 (some .int) := ⟨z_t3 56 rfl rfl, z_t1 1 rfl rfl, by decide +kernel, by decide +kernel⟩
theorem zs_X8_toldOfFlake : zSel yX8_toldOfFlake := ⟨z_t3 55 rfl rfl, z_sel (z_p3 2 rfl)⟩
theorem zc_X8_toldOfOne : zCal yX8_toldOfOne cX8_toldOfOne 3 (some .int) := ⟨z_t3 52 rfl rfl, z_t1 1 rfl rfl, by decide +kernel, by decide +kernel⟩
theorem zs_X8_toldOfOne : zSel yX8_toldOfOne := ⟨z_t3 51 rfl rfl, z_sel (z_p3 1 rfl)⟩
theorem zc_X8_refusalOfDays : zCal yX8_refusalOfDays cX8_refusalOfDays 1 (some .int) := ⟨z_t2 46 rfl rfl, z_t1 1 rfl rfl, by decide +kernel, by decide +kernel⟩
theorem zs_X8_refusalOfDays : zSel yX8_refusalOfDays := ⟨z_t2 45 rfl rfl, z_sel (z_p1 6 rfl)⟩
theorem zc_X8_isBelow : zCal yX8_isBelow cX8_isBelow 2 (some .boolean) := ⟨z_t1 217 rfl rfl, z_t1 1 rfl rfl, by decide +kernel, by decide +kernel⟩
theorem zt_X8_isBelow : Cond.static yX8_isBelow ∈ zG := z_t1 216 rfl rfl
theorem zc_X8_bit : zCal yX8_bit cX8_bit 2 (some .int) := ⟨z_t1 181 rfl rfl, z_t1 1 rfl rfl, by decide +kernel, by decide +kernel⟩
theorem zt_X8_bit : Cond.static yX8_bit ∈ zG := z_t1 180 rfl rfl
theorem zc_X9_init : zCal yX9_init cX9_init 2 none := ⟨z_t3 61 rfl rfl, z_t1 8 rfl rfl, by decide +kernel, by decide +kernel⟩
theorem zi_X9_init : Cond.instanceMethod yX9_init ∈ zG := z_t3 60 rfl rfl
theorem zc_X9_in : zCal yX9_in cX9_in 6 (some .boolean) := ⟨z_t3 178 rfl rfl, z_t1 8 rfl rfl, by decide +kernel, by decide +kernel⟩
theorem zt_X9_in : Cond.static yX9_in ∈ zG := z_t3 177 rfl rfl
theorem zc_X9_bitsOf : zCal yX9_bitsOf cX9_bitsOf 3 (some .int) := ⟨z_t3 191 rfl rfl, z_t1 8 rfl rfl, by decide +kernel, by decide +kernel⟩
theorem zt_X9_bitsOf : Cond.static yX9_bitsOf ∈ zG := z_t3 190 rfl rfl
theorem zc_X9_isFlake : zCal yX9_isFlake cX9_isFlake 2 (some .boolean) := ⟨z_t3 199 rfl rfl, z_t1 8 rfl rfl, by decide +kernel, by decide +kernel⟩
theorem zs_X9_isFlake : zSel yX9_isFlake := ⟨z_t3 198 rfl rfl, z_sel (z_p3 3 rfl)⟩
theorem zc_X9_isOne : zCal yX9_isOne cX9_isOne 1 (some .boolean) := ⟨z_t3 181 rfl rfl, z_t1 8 rfl rfl, by decide +kernel, by decide +kernel⟩
theorem zt_X9_isOne : Cond.static yX9_isOne ∈ zG := z_t3 180 rfl rfl
theorem zc_X9_isArm : zCal yX9_isArm cX9_isArm 1 (some .boolean) := ⟨z_t3 185 rfl rfl, z_t1 8 rfl rfl, by decide +kernel, by decide +kernel⟩
theorem zt_X9_isArm : Cond.static yX9_isArm ∈ zG := z_t3 184 rfl rfl
theorem zc_X9_flake : zCal yX9_flake cX9_flake 6 (some .int) := ⟨z_t3 174 rfl rfl, z_t1 8 rfl rfl, by decide +kernel, by decide +kernel⟩
theorem zs_X9_flake : zSel yX9_flake := ⟨z_t3 172 rfl rfl, z_t3 173 rfl rfl⟩
theorem zc_X9_melt : zCal yX9_melt cX9_melt 2 (some .int) := ⟨z_t3 195 rfl rfl, z_t1 8 rfl rfl, by decide +kernel, by decide +kernel⟩
theorem zs_X9_melt : zSel yX9_melt := ⟨z_t3 193 rfl rfl, z_t3 194 rfl rfl⟩
theorem zc_X9_stand : zCal yX9_stand cX9_stand 4 (some .int) := ⟨z_t3 203 rfl rfl, z_t1 8 rfl rfl, by decide +kernel, by decide +kernel⟩
theorem zs_X9_stand : zSel yX9_stand := ⟨z_t3 201 rfl rfl, z_t3 202 rfl rfl⟩
theorem zc_X9_air : zCal yX9_air cX9_air 4 (some .int) := ⟨z_t3 207 rfl rfl, z_t1 8 rfl rfl, by decide +kernel, by decide +kernel⟩
theorem zs_X9_air : zSel yX9_air := ⟨z_t3 205 rfl rfl, z_t3 206 rfl rfl⟩
theorem zc_X9_say : zCal yX9_say cX9_say 2 (some .int) := ⟨z_t3 211 rfl rfl, z_t1 8 rfl rfl, by decide +kernel, by decide +kernel⟩
theorem zs_X9_say : zSel yX9_say := ⟨z_t3 209 rfl rfl, z_t3 210 rfl rfl⟩
theorem zc_X9_wipe : zCal yX9_wipe cX9_wipe 2 (some .int) := ⟨z_t3 217 rfl rfl, z_t1 8 rfl rfl, by decide +kernel, by decide +kernel⟩
theorem zs_X9_wipe : zSel yX9_wipe := ⟨z_t3 215 rfl rfl, z_t3 216 rfl rfl⟩
theorem zc_X9_close : zCal yX9_close cX9_close 2 (some .int) := ⟨z_t3 229 rfl rfl, z_t1 8 rfl rfl, by decide +kernel, by decide +kernel⟩
theorem zs_X9_close : zSel yX9_close := ⟨z_t3 228 rfl rfl, z_sel (z_p3 5 rfl)⟩
theorem zc_X9_readOn : zCal yX9_readOn cX9_readOn 4 (some .int) := ⟨z_t3 225 rfl rfl, z_t1 8 rfl rfl, by decide +kernel, by decide +kernel⟩
theorem zs_X9_readOn : zSel yX9_readOn := ⟨z_t3 224 rfl rfl, z_sel (z_p3 4 rfl)⟩
theorem zc_X9_fault : zCal yX9_fault cX9_fault 3 (some .int) := ⟨z_t3 221 rfl rfl, z_t1 8 rfl rfl, by decide +kernel, by decide +kernel⟩
theorem zs_X9_fault : zSel yX9_fault := ⟨z_t3 219 rfl rfl, z_t3 220 rfl rfl⟩
theorem zc_X9_isAbove : zCal yX9_isAbove cX9_isAbove 2 (some .boolean) := ⟨z_t4 21 rfl rfl, z_t1 8 rfl rfl, by decide +kernel, by decide +kernel⟩
theorem zs_X9_isAbove : zSel yX9_isAbove := ⟨z_t4 20 rfl rfl, z_sel (z_p3 11 rfl)⟩
theorem zc_X9_aboveMany : zCal yX9_aboveMany cX9_aboveMany 3 (some .int) := ⟨z_t4 17 rfl rfl, z_t1 8 rfl rfl, by decide +kernel, by decide +kernel⟩
theorem zs_X9_aboveMany : zSel yX9_aboveMany := ⟨z_t4 16 rfl rfl, z_sel (z_p3 10 rfl)⟩
theorem zc_X9_whyNot : zCal yX9_whyNot cX9_whyNot 3 (some .int) := ⟨z_t4 13 rfl rfl, z_t1 8 rfl rfl, by decide +kernel, by decide +kernel⟩
theorem zs_X9_whyNot : zSel yX9_whyNot := ⟨z_t4 12 rfl rfl, z_sel (z_p3 9 rfl)⟩
theorem zc_X9_grown : zCal yX9_grown cX9_grown 8 (some .int) := ⟨z_t4 32 rfl rfl, z_t1 8 rfl rfl, by decide +kernel, by decide +kernel⟩
theorem zt_X9_grown : Cond.static yX9_grown ∈ zG := z_t4 31 rfl rfl
theorem zc_X9_grow : zCal yX9_grow cX9_grow 3 none := ⟨z_t4 29 rfl rfl, z_t1 8 rfl rfl, by decide +kernel, by decide +kernel⟩
theorem zs_X9_grow : zSel yX9_grow := ⟨z_t4 28 rfl rfl, z_sel (z_p3 13 rfl)⟩
theorem zc_X9_blowOne : zCal yX9_blowOne cX9_blowOne 5 none := ⟨z_t4 40 rfl rfl, z_t1 8 rfl rfl, by decide +kernel, by decide +kernel⟩
theorem zs_X9_blowOne : zSel yX9_blowOne := ⟨z_t4 39 rfl rfl, z_sel (z_p3 15 rfl)⟩
theorem zc_X9_blow : zCal yX9_blow cX9_blow 3 none := ⟨z_t4 36 rfl rfl, z_t1 8 rfl rfl, by decide +kernel, by decide +kernel⟩
theorem zs_X9_blow : zSel yX9_blow := ⟨z_t4 35 rfl rfl, z_sel (z_p3 14 rfl)⟩
theorem zc_X9_comeDown : zCal yX9_comeDown cX9_comeDown 3 none := ⟨z_t4 48 rfl rfl, z_t1 8 rfl rfl, by decide +kernel, by decide +kernel⟩
theorem zs_X9_comeDown : zSel yX9_comeDown := ⟨z_t4 47 rfl rfl, z_sel (z_p4 1 rfl)⟩
theorem zc_X9_fall : zCal yX9_fall cX9_fall 2 none := ⟨z_t4 44 rfl rfl, z_t1 8 rfl rfl, by decide +kernel, by decide +kernel⟩
theorem zs_X9_fall : zSel yX9_fall := ⟨z_t4 43 rfl rfl, z_sel (z_p4 0 rfl)⟩
theorem zc_X9_happen : zCal yX9_happen cX9_happen 3 none := ⟨z_t4 25 rfl rfl, z_t1 8 rfl rfl, by decide +kernel, by decide +kernel⟩
theorem zs_X9_happen : zSel yX9_happen := ⟨z_t4 24 rfl rfl, z_sel (z_p3 12 rfl)⟩
theorem zc_X9_keepNow : zCal yX9_keepNow cX9_keepNow 2 none := ⟨z_t4 4 rfl rfl, z_t1 8 rfl rfl, by decide +kernel, by decide +kernel⟩
theorem zs_X9_keepNow : zSel yX9_keepNow := ⟨z_t4 3 rfl rfl, z_sel (z_p3 7 rfl)⟩
theorem zc_X9_back : zCal yX9_back cX9_back 3 (some .int) := ⟨z_t4 52 rfl rfl, z_t1 8 rfl rfl, by decide +kernel, by decide +kernel⟩
theorem zs_X9_back : zSel yX9_back := ⟨z_t4 51 rfl rfl, z_sel (z_p4 2 rfl)⟩
theorem zc_X9_goDays : zCal yX9_goDays cX9_goDays 3 none := ⟨z_t4 9 rfl rfl, z_t1 8 rfl rfl, by decide +kernel, by decide +kernel⟩
theorem zs_X9_goDays : zSel yX9_goDays := ⟨z_t4 8 rfl rfl, z_sel (z_p3 8 rfl)⟩
theorem zc_X9_refusal : zCal yX9_refusal cX9_refusal 1 (some .int) := ⟨z_t4 0 rfl rfl, z_t1 8 rfl rfl, by decide +kernel, by decide +kernel⟩
theorem zs_X9_refusal : zSel yX9_refusal := ⟨z_t3 239 rfl rfl, z_sel (z_p3 6 rfl)⟩
theorem zc_X9_judge : zCal yX9_judge cX9_judge 3 (some .int) := ⟨z_t3 235 rfl rfl, z_t1 8 rfl rfl, by decide +kernel, by decide +kernel⟩
theorem zs_X9_judge : zSel yX9_judge := ⟨z_t3 233 rfl rfl, z_t3 234 rfl rfl⟩
theorem zc_X9_ofFlake : zCal yX9_ofFlake cX9_ofFlake 3 (some .int) := ⟨z_t4 61 rfl rfl, z_t1 8 rfl rfl, by decide +kernel, by decide +kernel⟩
theorem zs_X9_ofFlake : zSel yX9_ofFlake := ⟨z_t4 60 rfl rfl, z_sel (z_p4 3 rfl)⟩
theorem zc_X9_behind : zCal yX9_behind cX9_behind 4 (some .int) := ⟨z_t4 56 rfl rfl, z_t1 8 rfl rfl, by decide +kernel, by decide +kernel⟩
theorem zs_X9_behind : zSel yX9_behind := ⟨z_t4 54 rfl rfl, z_t4 55 rfl rfl⟩
theorem zc_X9_flakesOf : zCal yX9_flakesOf cX9_flakesOf 4 (some .int) := ⟨z_t4 69 rfl rfl, z_t1 8 rfl rfl, by decide +kernel, by decide +kernel⟩
theorem zs_X9_flakesOf : zSel yX9_flakesOf := ⟨z_t4 68 rfl rfl, z_sel (z_p4 4 rfl)⟩
theorem zc_X9_stands : zCal yX9_stands cX9_stands 5 (some .int) := ⟨z_t4 65 rfl rfl, z_t1 8 rfl rfl, by decide +kernel, by decide +kernel⟩
theorem zs_X9_stands : zSel yX9_stands := ⟨z_t4 63 rfl rfl, z_t4 64 rfl rfl⟩
theorem zc_X9_postedNow : zCal yX9_postedNow cX9_postedNow 3 (some .int) := ⟨z_t4 77 rfl rfl, z_t1 8 rfl rfl, by decide +kernel, by decide +kernel⟩
theorem zs_X9_postedNow : zSel yX9_postedNow := ⟨z_t4 76 rfl rfl, z_sel (z_p4 5 rfl)⟩
theorem zc_X9_riverNow : zCal yX9_riverNow cX9_riverNow 3 (some .int) := ⟨z_t4 81 rfl rfl, z_t1 8 rfl rfl, by decide +kernel, by decide +kernel⟩
theorem zs_X9_riverNow : zSel yX9_riverNow := ⟨z_t4 80 rfl rfl, z_sel (z_p4 6 rfl)⟩
theorem zc_X9_posted : zCal yX9_posted cX9_posted 4 (some .int) := ⟨z_t4 73 rfl rfl, z_t1 8 rfl rfl, by decide +kernel, by decide +kernel⟩
theorem zs_X9_posted : zSel yX9_posted := ⟨z_t4 71 rfl rfl, z_t4 72 rfl rfl⟩
theorem zc_X9_done : zCal yX9_done cX9_done 2 (some .int) := ⟨z_t4 85 rfl rfl, z_t1 8 rfl rfl, by decide +kernel, by decide +kernel⟩
theorem zs_X9_done : zSel yX9_done := ⟨z_t4 83 rfl rfl, z_t4 84 rfl rfl⟩
theorem zc_X9_says : zCal yX9_says cX9_says 6 (some .int) := ⟨z_t4 89 rfl rfl, z_t1 8 rfl rfl, by decide +kernel, by decide +kernel⟩
theorem zs_X9_says : zSel yX9_says := ⟨z_t4 87 rfl rfl, z_t4 88 rfl rfl⟩
theorem zc_X9_findWays : zCal yX9_findWays cX9_findWays 6 none := ⟨z_t4 99 rfl rfl, z_t1 8 rfl rfl, by decide +kernel, by decide +kernel⟩
theorem zs_X9_findWays : zSel yX9_findWays := ⟨z_t4 98 rfl rfl, z_sel (z_p4 7 rfl)⟩
theorem zc_X9_firstAirs : zCal yX9_firstAirs cX9_firstAirs 9 (some .long) := ⟨z_t4 104 rfl rfl, z_t1 8 rfl rfl, by decide +kernel, by decide +kernel⟩
theorem zs_X9_firstAirs : zSel yX9_firstAirs := ⟨z_t4 103 rfl rfl, z_sel (z_p4 8 rfl)⟩
theorem zc_X9_grew : zCal yX9_grew cX9_grew 7 (some .long) := ⟨z_t4 93 rfl rfl, z_t1 8 rfl rfl, by decide +kernel, by decide +kernel⟩
theorem zs_X9_grew : zSel yX9_grew := ⟨z_t4 91 rfl rfl, z_t4 92 rfl rfl⟩
theorem zc_X9_findOff : zCal yX9_findOff cX9_findOff 5 (some .boolean) := ⟨z_t4 112 rfl rfl, z_t1 8 rfl rfl, by decide +kernel, by decide +kernel⟩
theorem zs_X9_findOff : zSel yX9_findOff := ⟨z_t4 111 rfl rfl, z_sel (z_p4 9 rfl)⟩
theorem zc_X9_soon : zCal yX9_soon cX9_soon 4 (some .int) := ⟨z_t4 108 rfl rfl, z_t1 8 rfl rfl, by decide +kernel, by decide +kernel⟩
theorem zs_X9_soon : zSel yX9_soon := ⟨z_t4 106 rfl rfl, z_t4 107 rfl rfl⟩
theorem zc_X9_canGet : zCal yX9_canGet cX9_canGet 4 (some .boolean) := ⟨z_t4 124 rfl rfl, z_t1 8 rfl rfl, by decide +kernel, by decide +kernel⟩
theorem zs_X9_canGet : zSel yX9_canGet := ⟨z_t4 123 rfl rfl, z_sel (z_p4 11 rfl)⟩
theorem zc_X9_canGetOwn : zCal yX9_canGetOwn cX9_canGetOwn 4 (some .boolean) := ⟨z_t4 120 rfl rfl, z_t1 8 rfl rfl, by decide +kernel, by decide +kernel⟩
theorem zs_X9_canGetOwn : zSel yX9_canGetOwn := ⟨z_t4 119 rfl rfl, z_sel (z_p4 10 rfl)⟩
theorem zc_X9_addFlake : zCal yX9_addFlake cX9_addFlake 7 none := ⟨z_t4 128 rfl rfl, z_t1 8 rfl rfl, by decide +kernel, by decide +kernel⟩
theorem zs_X9_addFlake : zSel yX9_addFlake := ⟨z_t4 127 rfl rfl, z_sel (z_p4 12 rfl)⟩
theorem zc_X9_most : zCal yX9_most cX9_most 4 (some .int) := ⟨z_t4 116 rfl rfl, z_t1 8 rfl rfl, by decide +kernel, by decide +kernel⟩
theorem zs_X9_most : zSel yX9_most := ⟨z_t4 114 rfl rfl, z_t4 115 rfl rfl⟩
theorem zc_X9_isFree : zCal yX9_isFree cX9_isFree 5 (some .boolean) := ⟨z_t4 136 rfl rfl, z_t1 8 rfl rfl, by decide +kernel, by decide +kernel⟩
theorem zs_X9_isFree : zSel yX9_isFree := ⟨z_t4 135 rfl rfl, z_sel (z_p4 13 rfl)⟩
theorem zc_X9_patch : zCal yX9_patch cX9_patch 6 (some .int) := ⟨z_t4 132 rfl rfl, z_t1 8 rfl rfl, by decide +kernel, by decide +kernel⟩
theorem zs_X9_patch : zSel yX9_patch := ⟨z_t4 130 rfl rfl, z_t4 131 rfl rfl⟩
theorem zc_X9_seen : zCal yX9_seen cX9_seen 3 (some .int) := ⟨z_t4 140 rfl rfl, z_t1 8 rfl rfl, by decide +kernel, by decide +kernel⟩
theorem zs_X9_seen : zSel yX9_seen := ⟨z_t4 138 rfl rfl, z_t4 139 rfl rfl⟩
theorem zc_X9_forget : zCal yX9_forget cX9_forget 2 (some .int) := ⟨z_t4 144 rfl rfl, z_t1 8 rfl rfl, by decide +kernel, by decide +kernel⟩
theorem zs_X9_forget : zSel yX9_forget := ⟨z_t4 142 rfl rfl, z_t4 143 rfl rfl⟩
theorem zc_X9_fits : zCal yX9_fits cX9_fits 4 (some .boolean) := ⟨z_t4 152 rfl rfl, z_t1 8 rfl rfl, by decide +kernel, by decide +kernel⟩
theorem zs_X9_fits : zSel yX9_fits := ⟨z_t4 151 rfl rfl, z_sel (z_p4 14 rfl)⟩
theorem zc_X9_laws : zCal yX9_laws cX9_laws 4 (some .int) := ⟨z_t4 148 rfl rfl, z_t1 8 rfl rfl, by decide +kernel, by decide +kernel⟩
theorem zs_X9_laws : zSel yX9_laws := ⟨z_t4 146 rfl rfl, z_t4 147 rfl rfl⟩
theorem zc_X9_mostLeft : zCal yX9_mostLeft cX9_mostLeft 5 (some .int) := ⟨z_t4 160 rfl rfl, z_t1 8 rfl rfl, by decide +kernel, by decide +kernel⟩
theorem zs_X9_mostLeft : zSel yX9_mostLeft := ⟨z_t4 159 rfl rfl, z_sel (z_p4 15 rfl)⟩
theorem zc_X9_look : zCal yX9_look cX9_look 6 (some .int) := ⟨z_t4 156 rfl rfl, z_t1 8 rfl rfl, by decide +kernel, by decide +kernel⟩
theorem zs_X9_look : zSel yX9_look := ⟨z_t4 154 rfl rfl, z_t4 155 rfl rfl⟩
theorem zc_X9_gust : zCal yX9_gust cX9_gust 4 none := ⟨z_t4 174 rfl rfl, z_t1 8 rfl rfl, by decide +kernel, by decide +kernel⟩
theorem zs_X9_gust : zSel yX9_gust := ⟨z_t4 173 rfl rfl, z_sel (z_p5 0 rfl)⟩
theorem zc_X9_lowest : zCal yX9_lowest cX9_lowest 11 (some .long) := ⟨z_t4 177 rfl rfl, z_t1 8 rfl rfl, by decide +kernel, by decide +kernel⟩
theorem zt_X9_lowest : Cond.static yX9_lowest ∈ zG := z_t4 176 rfl rfl
theorem zc_X9_areGusts : zCal yX9_areGusts cX9_areGusts 5 (some .boolean) := ⟨z_t4 167 rfl rfl, z_t1 8 rfl rfl, by decide +kernel, by decide +kernel⟩
theorem zt_X9_areGusts : Cond.static yX9_areGusts ∈ zG := z_t4 166 rfl rfl
theorem zc_X9_gusts : zCal yX9_gusts cX9_gusts 10 (some .long) := ⟨z_t4 164 rfl rfl, z_t1 8 rfl rfl, by decide +kernel, by decide +kernel⟩
theorem zs_X9_gusts : zSel yX9_gusts := ⟨z_t4 162 rfl rfl, z_t4 163 rfl rfl⟩
theorem zc_X9_bestTake : zCal yX9_bestTake cX9_bestTake 6 (some .int) := ⟨z_t4 186 rfl rfl, z_t1 8 rfl rfl, by decide +kernel, by decide +kernel⟩
theorem zs_X9_bestTake : zSel yX9_bestTake := ⟨z_t4 185 rfl rfl, z_sel (z_p5 1 rfl)⟩
theorem zc_X9_spoon : zCal yX9_spoon cX9_spoon 5 (some .int) := ⟨z_t4 181 rfl rfl, z_t1 8 rfl rfl, by decide +kernel, by decide +kernel⟩
theorem zs_X9_spoon : zSel yX9_spoon := ⟨z_t4 179 rfl rfl, z_t4 180 rfl rfl⟩
theorem zc_X9_year : zCal yX9_year cX9_year 7 (some .int) := ⟨z_t4 190 rfl rfl, z_t1 8 rfl rfl, by decide +kernel, by decide +kernel⟩
theorem zs_X9_year : zSel yX9_year := ⟨z_t4 188 rfl rfl, z_t4 189 rfl rfl⟩
theorem zc_X9_pass : zCal yX9_pass cX9_pass 3 (some .int) := ⟨z_t4 207 rfl rfl, z_t1 8 rfl rfl, by decide +kernel, by decide +kernel⟩
theorem zs_X9_pass : zSel yX9_pass := ⟨z_t4 206 rfl rfl, z_sel (z_p5 3 rfl)⟩
theorem zc_X9_passRow : zCal yX9_passRow cX9_passRow 4 none := ⟨z_t4 211 rfl rfl, z_t1 8 rfl rfl, by decide +kernel, by decide +kernel⟩
theorem zs_X9_passRow : zSel yX9_passRow := ⟨z_t4 210 rfl rfl, z_sel (z_p5 4 rfl)⟩
theorem zc_X9_passAll : zCal yX9_passAll cX9_passAll 1 none := ⟨z_t4 203 rfl rfl, z_t1 8 rfl rfl, by decide +kernel, by decide +kernel⟩
theorem zs_X9_passAll : zSel yX9_passAll := ⟨z_t4 202 rfl rfl, z_sel (z_p5 2 rfl)⟩
theorem zc_X9_image : zCal yX9_image cX9_image 2 (some .int) := ⟨z_t4 199 rfl rfl, z_t1 8 rfl rfl, by decide +kernel, by decide +kernel⟩
theorem zs_X9_image : zSel yX9_image := ⟨z_t4 197 rfl rfl, z_t4 198 rfl rfl⟩
theorem zc_X9_restore : zCal yX9_restore cX9_restore 2 (some .int) := ⟨z_t4 215 rfl rfl, z_t1 8 rfl rfl, by decide +kernel, by decide +kernel⟩
theorem zs_X9_restore : zSel yX9_restore := ⟨z_t4 213 rfl rfl, z_t4 214 rfl rfl⟩
theorem zc_X9_toldOf : zCal yX9_toldOf cX9_toldOf 3 (some .int) := ⟨z_t4 226 rfl rfl, z_t1 8 rfl rfl, by decide +kernel, by decide +kernel⟩
theorem zs_X9_toldOf : zSel yX9_toldOf := ⟨z_t4 225 rfl rfl, z_sel (z_p5 5 rfl)⟩
theorem zc_X9_told : zCal yX9_told cX9_told 3 (some .int) := ⟨z_t4 219 rfl rfl, z_t1 8 rfl rfl, by decide +kernel, by decide +kernel⟩
theorem zs_X9_told : zSel yX9_told := ⟨z_t4 217 rfl rfl, z_t4 218 rfl rfl⟩
theorem zc_J6_bitCount_0f7a4 : zCal yJ6_bitCount_0f7a4 cJ6_bitCount_0f7a4 1 (some .int) := ⟨z_t1 224 rfl rfl, z_t1 9 rfl rfl, by decide +kernel, by decide +kernel⟩
theorem zt_J6_bitCount_0f7a4 : Cond.static yJ6_bitCount_0f7a4 ∈ zG := z_t1 223 rfl rfl
theorem zc_J9_abs_0f7a4 : zCal yJ9_abs_0f7a4 cJ9_abs_0f7a4 1 (some .int) := ⟨z_t2 192 rfl rfl, z_t1 14 rfl rfl, by decide +kernel, by decide +kernel⟩
theorem zt_J9_abs_0f7a4 : Cond.static yJ9_abs_0f7a4 ∈ zG := z_t2 191 rfl rfl
theorem zc_J9_max_7cf53 : zCal yJ9_max_7cf53 cJ9_max_7cf53 2 (some .int) := ⟨z_t2 203 rfl rfl, z_t1 14 rfl rfl, by decide +kernel, by decide +kernel⟩
theorem zt_J9_max_7cf53 : Cond.static yJ9_max_7cf53 ∈ zG := z_t2 202 rfl rfl
theorem zc_J7_fill_53178 : zCal yJ7_fill_53178 cJ7_fill_53178 4 none := ⟨z_t2 174 rfl rfl, z_t1 12 rfl rfl, by decide +kernel, by decide +kernel⟩
theorem zt_J7_fill_53178 : Cond.static yJ7_fill_53178 ∈ zG := z_t2 173 rfl rfl
theorem zd_L_7 : Cond.classLink RL 7 RX8 ∈ zG := z_t1 15 rfl rfl
theorem zx_X8 : Cond.instantiable RX8 8 ∈ zG := z_t1 16 rfl rfl
theorem zl_L_9 : Cond.methodLink RL 9 yX8_init ∈ zG := z_t1 17 rfl rfl
theorem zl_X8_1 : Cond.methodLink RX8 1 objectInit ∈ zG := z_t1 20 rfl rfl
theorem zd_X8_7 : Cond.classLink RX8 7 RX7 ∈ zG := z_t1 23 rfl rfl
theorem zx_X7 : Cond.instantiable RX7 13 ∈ zG := z_t1 24 rfl rfl
theorem zl_X7_3 : Cond.methodLink RX7 3 objectInit ∈ zG := z_t1 28 rfl rfl
theorem zl_X7_9 : Cond.fieldLink RX7 9 "FlakePost$Yard" "there" "I" ∈ zG := z_t1 29 rfl rfl
theorem zl_X7_15 : Cond.fieldLink RX7 15 "FlakePost$Yard" "arm" "[I" ∈ zG := z_t1 31 rfl rfl
theorem zl_X7_19 : Cond.fieldLink RX7 19 "FlakePost$Yard" "place" "[I" ∈ zG := z_t1 33 rfl rfl
theorem zl_X7_22 : Cond.fieldLink RX7 22 "FlakePost$Yard" "height" "[I" ∈ zG := z_t1 36 rfl rfl
theorem zl_X7_25 : Cond.fieldLink RX7 25 "FlakePost$Yard" "addressee" "[I" ∈ zG := z_t1 39 rfl rfl
theorem zl_X7_28 : Cond.fieldLink RX7 28 "FlakePost$Yard" "with" "[I" ∈ zG := z_t1 42 rfl rfl
theorem zl_X7_31 : Cond.fieldLink RX7 31 "FlakePost$Yard" "standing" "[I" ∈ zG := z_t1 44 rfl rfl
theorem zl_X7_34 : Cond.fieldLink RX7 34 "FlakePost$Yard" "umbrellas" "I" ∈ zG := z_t1 47 rfl rfl
theorem zl_X7_37 : Cond.fieldLink RX7 37 "FlakePost$Yard" "coldLaw" "I" ∈ zG := z_t1 49 rfl rfl
theorem zl_X7_40 : Cond.fieldLink RX7 40 "FlakePost$Yard" "dampLaw" "I" ∈ zG := z_t1 51 rfl rfl
theorem zl_X7_43 : Cond.fieldLink RX7 43 "FlakePost$Yard" "sights" "I" ∈ zG := z_t1 53 rfl rfl
theorem zl_X7_46 : Cond.fieldLink RX7 46 "FlakePost$Yard" "lawHas" "I" ∈ zG := z_t1 55 rfl rfl
theorem zl_X7_49 : Cond.fieldLink RX7 49 "FlakePost$Yard" "lawLacks" "I" ∈ zG := z_t1 57 rfl rfl
theorem zd_X8_24 : Cond.classLink RX8 24 RX5 ∈ zG := z_t1 88 rfl rfl
theorem zx_X5 : Cond.instantiable RX5 5 ∈ zG := z_t1 89 rfl rfl
theorem zl_X5_3 : Cond.methodLink RX5 3 objectInit ∈ zG := z_t1 93 rfl rfl
theorem zl_X5_11 : Cond.fieldLink RX5 11 "FlakePost$Pad" "signs" "[I" ∈ zG := z_t1 94 rfl rfl
theorem zl_X5_15 : Cond.fieldLink RX5 15 "FlakePost$Pad" "count" "I" ∈ zG := z_t1 95 rfl rfl
theorem zl_X5_19 : Cond.fieldLink RX5 19 "FlakePost$Pad" "kinds" "[I" ∈ zG := z_t1 97 rfl rfl
theorem zl_X5_22 : Cond.fieldLink RX5 22 "FlakePost$Pad" "ones" "[I" ∈ zG := z_t1 99 rfl rfl
theorem zl_X5_25 : Cond.fieldLink RX5 25 "FlakePost$Pad" "acts" "I" ∈ zG := z_t1 101 rfl rfl
theorem zd_X8_31 : Cond.classLink RX8 31 RX2 ∈ zG := z_t1 115 rfl rfl
theorem zx_X2 : Cond.instantiable RX2 5 ∈ zG := z_t1 116 rfl rfl
theorem zl_X2_3 : Cond.methodLink RX2 3 objectInit ∈ zG := z_t1 120 rfl rfl
theorem zd_X2_9 : Cond.classLink RX2 9 RX7 ∈ zG := z_t1 121 rfl rfl
theorem zl_X2_12 : Cond.fieldLink RX2 12 "FlakePost$Day" "after" "LFlakePost$Yard;" ∈ zG := z_t1 123 rfl rfl
theorem zl_X2_18 : Cond.fieldLink RX2 18 "FlakePost$Day" "badAct" "I" ∈ zG := z_t1 125 rfl rfl
theorem zl_X2_22 : Cond.fieldLink RX2 22 "FlakePost$Day" "badWhy" "I" ∈ zG := z_t1 127 rfl rfl
theorem zl_X2_25 : Cond.fieldLink RX2 25 "FlakePost$Day" "firstDelivery" "I" ∈ zG := z_t1 129 rfl rfl
theorem zl_X2_28 : Cond.fieldLink RX2 28 "FlakePost$Day" "downAtFirst" "I" ∈ zG := z_t1 131 rfl rfl
theorem zd_X8_38 : Cond.classLink RX8 38 RX0 ∈ zG := z_t1 143 rfl rfl
theorem zx_X0 : Cond.instantiable RX0 3 ∈ zG := z_t1 144 rfl rfl
theorem zl_X0_3 : Cond.methodLink RX0 3 objectInit ∈ zG := z_t1 148 rfl rfl
theorem zl_X0_9 : Cond.fieldLink RX0 9 "FlakePost$AirSearch" "airs" "[I" ∈ zG := z_t1 149 rfl rfl
theorem zl_X0_15 : Cond.fieldLink RX0 15 "FlakePost$AirSearch" "queue" "[I" ∈ zG := z_t1 150 rfl rfl
theorem zl_X0_18 : Cond.fieldLink RX0 18 "FlakePost$AirSearch" "waiting" "I" ∈ zG := z_t1 151 rfl rfl
theorem zd_X8_45 : Cond.classLink RX8 45 RX4 ∈ zG := z_t1 159 rfl rfl
theorem zx_X4 : Cond.instantiable RX4 1 ∈ zG := z_t1 160 rfl rfl
theorem zl_X4_3 : Cond.methodLink RX4 3 objectInit ∈ zG := z_t1 164 rfl rfl
theorem zl_X4_9 : Cond.fieldLink RX4 9 "FlakePost$GustRow" "ways" "[I" ∈ zG := z_t1 165 rfl rfl
theorem zd_X8_52 : Cond.classLink RX8 52 RX6 ∈ zG := z_t1 169 rfl rfl
theorem zx_X6 : Cond.instantiable RX6 1 ∈ zG := z_t1 170 rfl rfl
theorem zl_X6_3 : Cond.methodLink RX6 3 objectInit ∈ zG := z_t1 174 rfl rfl
theorem zl_X6_15 : Cond.methodLink RX6 15 yX6_winningTake ∈ zG := z_t1 175 rfl rfl
theorem zl_X6_9 : Cond.fieldLink RX6 9 "FlakePost$SpoonTable" "wins" "[I" ∈ zG := z_t1 182 rfl rfl
theorem zl_X8_10 : Cond.fieldLink RX8 10 "FlakePost" "now" "LFlakePost$Yard;" ∈ zG := z_t1 186 rfl rfl
theorem zl_X8_16 : Cond.fieldLink RX8 16 "FlakePost" "images" "[LFlakePost$Yard;" ∈ zG := z_t1 187 rfl rfl
theorem zl_X8_20 : Cond.fieldLink RX8 20 "FlakePost" "imagesKept" "I" ∈ zG := z_t1 188 rfl rfl
theorem zl_X8_27 : Cond.fieldLink RX8 27 "FlakePost" "pad" "LFlakePost$Pad;" ∈ zG := z_t1 189 rfl rfl
theorem zl_X8_34 : Cond.fieldLink RX8 34 "FlakePost" "day" "LFlakePost$Day;" ∈ zG := z_t1 190 rfl rfl
theorem zl_X8_41 : Cond.fieldLink RX8 41 "FlakePost" "search" "LFlakePost$AirSearch;" ∈ zG := z_t1 191 rfl rfl
theorem zl_X8_48 : Cond.fieldLink RX8 48 "FlakePost" "gustRow" "LFlakePost$GustRow;" ∈ zG := z_t1 192 rfl rfl
theorem zl_X8_55 : Cond.fieldLink RX8 55 "FlakePost" "spoons" "LFlakePost$SpoonTable;" ∈ zG := z_t1 193 rfl rfl
theorem zl_L_13 : Cond.methodLink RL 13 yX8_flake ∈ zG := z_t1 211 rfl rfl
theorem zl_X8_59 : Cond.methodLink RX8 59 yX8_isBelow ∈ zG := z_t1 215 rfl rfl
theorem zl_X8_70 : Cond.methodLink RX8 70 yJ6_bitCount_0f7a4 ∈ zG := z_t1 222 rfl rfl
theorem zk_J6_265 : Cond.constant RJ6 265 (1431655765) ∈ zG := z_t1 225 rfl rfl
theorem zk_J6_266 : Cond.constant RJ6 266 (858993459) ∈ zG := z_t1 226 rfl rfl
theorem zk_J6_267 : Cond.constant RJ6 267 (252645135) ∈ zG := z_t1 227 rfl rfl
theorem zl_L_18 : Cond.methodLink RL 18 yX8_melt ∈ zG := z_t1 228 rfl rfl
theorem zl_L_23 : Cond.methodLink RL 23 yX8_stand ∈ zG := z_t2 2 rfl rfl
theorem zl_L_28 : Cond.methodLink RL 28 yX8_air ∈ zG := z_t2 6 rfl rfl
theorem zl_L_32 : Cond.methodLink RL 32 yX8_say ∈ zG := z_t2 10 rfl rfl
theorem zl_L_36 : Cond.methodLink RL 36 yX8_wipe ∈ zG := z_t2 18 rfl rfl
theorem zl_L_41 : Cond.methodLink RL 41 yX8_fault ∈ zG := z_t2 22 rfl rfl
theorem zl_X5_28 : Cond.methodLink RX5 28 yX5_oneOf ∈ zG := z_t2 30 rfl rfl
theorem zl_X5_32 : Cond.methodLink RX5 32 yX5_weatherOf ∈ zG := z_t2 33 rfl rfl
theorem zl_X5_35 : Cond.methodLink RX5 35 yX5_deedOf ∈ zG := z_t2 36 rfl rfl
theorem zl_L_45 : Cond.methodLink RL 45 yX8_judge ∈ zG := z_t2 39 rfl rfl
theorem zl_X8_107 : Cond.methodLink RX8 107 yX8_refusalOfDays ∈ zG := z_t2 43 rfl rfl
theorem zl_X2_31 : Cond.methodLink RX2 31 yX2_begin ∈ zG := z_t2 51 rfl rfl
theorem zl_X7_52 : Cond.methodLink RX7 52 arraycopyName ∈ zG := z_t2 59 rfl rfl
theorem zl_X7_66 : Cond.methodLink RX7 66 yX7_falling ∈ zG := z_t2 66 rfl rfl
theorem zl_X7_70 : Cond.methodLink RX7 70 yX7_inRiver ∈ zG := z_t2 70 rfl rfl
theorem zl_X7_80 : Cond.methodLink RX7 80 yX7_growAll ∈ zG := z_t2 86 rfl rfl
theorem zl_X3_9 : Cond.methodLink RX3 9 yX3_around ∈ zG := z_t2 93 rfl rfl
theorem zl_X7_84 : Cond.methodLink RX7 84 yX7_blowAll ∈ zG := z_t2 97 rfl rfl
theorem zl_X7_95 : Cond.methodLink RX7 95 yX7_blow ∈ zG := z_t2 101 rfl rfl
theorem zl_X7_87 : Cond.methodLink RX7 87 yX7_lowerAll ∈ zG := z_t2 105 rfl rfl
theorem zl_X7_99 : Cond.methodLink RX7 99 yX7_catcherAt ∈ zG := z_t2 109 rfl rfl
theorem zl_X2_65 : Cond.methodLink RX2 65 yJ6_bitCount_0f7a4 ∈ zG := z_t2 117 rfl rfl
theorem zl_L_49 : Cond.methodLink RL 49 yX8_behind ∈ zG := z_t2 118 rfl rfl
theorem zl_L_53 : Cond.methodLink RL 53 yX8_stands ∈ zG := z_t2 122 rfl rfl
theorem zl_X8_134 : Cond.methodLink RX8 134 yX8_bit ∈ zG := z_t2 126 rfl rfl
theorem zl_L_57 : Cond.methodLink RL 57 yX8_posted ∈ zG := z_t2 131 rfl rfl
theorem zl_L_61 : Cond.methodLink RL 61 yX8_done ∈ zG := z_t2 137 rfl rfl
theorem zl_L_65 : Cond.methodLink RL 65 yX8_says ∈ zG := z_t2 142 rfl rfl
theorem zl_L_69 : Cond.methodLink RL 69 yX8_grew ∈ zG := z_t2 149 rfl rfl
theorem zk_X8_162 : Cond.constantLong RX8 162 (-2) ∈ zG := z_t2 153 rfl rfl
theorem zl_X3_18 : Cond.methodLink RX3 18 yX3_grown ∈ zG := z_t2 157 rfl rfl
theorem zl_X3_21 : Cond.methodLink RX3 21 yX3_rows ∈ zG := z_t2 158 rfl rfl
theorem zk_X3_25 : Cond.constantLong RX3 25 (-6) ∈ zG := z_t2 162 rfl rfl
theorem zk_X3_27 : Cond.constantLong RX3 27 (10) ∈ zG := z_t2 163 rfl rfl
theorem zl_L_74 : Cond.methodLink RL 74 yX8_soon ∈ zG := z_t2 164 rfl rfl
theorem zl_X0_22 : Cond.methodLink RX0 22 yJ7_fill_53178 ∈ zG := z_t2 172 rfl rfl
theorem zl_X0_28 : Cond.methodLink RX0 28 yX0_reach ∈ zG := z_t2 175 rfl rfl
theorem zl_L_78 : Cond.methodLink RL 78 yX8_most ∈ zG := z_t2 180 rfl rfl
theorem zl_X1_30 : Cond.methodLink RX1 30 yX1_canGet ∈ zG := z_t2 187 rfl rfl
theorem zl_X1_21 : Cond.methodLink RX1 21 yJ9_abs_0f7a4 ∈ zG := z_t2 190 rfl rfl
theorem zl_X1_36 : Cond.methodLink RX1 36 yJ6_bitCount_0f7a4 ∈ zG := z_t2 193 rfl rfl
theorem zl_X1_41 : Cond.methodLink RX1 41 yX1_joinedBy ∈ zG := z_t2 197 rfl rfl
theorem zl_X1_45 : Cond.methodLink RX1 45 yJ9_max_7cf53 ∈ zG := z_t2 201 rfl rfl
theorem zl_L_82 : Cond.methodLink RL 82 yX8_patch ∈ zG := z_t2 204 rfl rfl
theorem zl_X7_73 : Cond.methodLink RX7 73 yX7_down ∈ zG := z_t2 212 rfl rfl
theorem zl_X7_76 : Cond.methodLink RX7 76 yX7_flakesWith ∈ zG := z_t2 213 rfl rfl
theorem zl_L_86 : Cond.methodLink RL 86 yX8_seen ∈ zG := z_t2 214 rfl rfl
theorem zl_L_90 : Cond.methodLink RL 90 yX8_forget ∈ zG := z_t2 223 rfl rfl
theorem zl_L_94 : Cond.methodLink RL 94 yX8_laws ∈ zG := z_t2 227 rfl rfl
theorem zl_L_98 : Cond.methodLink RL 98 yX8_look ∈ zG := z_t2 235 rfl rfl
theorem zl_X7_105 : Cond.methodLink RX7 105 yJ6_bitCount_0f7a4 ∈ zG := z_t3 3 rfl rfl
theorem zl_L_102 : Cond.methodLink RL 102 yX8_gusts ∈ zG := z_t3 4 rfl rfl
theorem zk_X8_207 : Cond.constantLong RX8 207 (-1000000000000000002) ∈ zG := z_t3 8 rfl rfl
theorem zl_X4_15 : Cond.methodLink RX4 15 yJ7_fill_53178 ∈ zG := z_t3 13 rfl rfl
theorem zl_X4_21 : Cond.methodLink RX4 21 yX4_all ∈ zG := z_t3 18 rfl rfl
theorem zl_L_107 : Cond.methodLink RL 107 yX8_spoon ∈ zG := z_t3 22 rfl rfl
theorem zl_L_111 : Cond.methodLink RL 111 yX8_year ∈ zG := z_t3 27 rfl rfl
theorem zk_X2_71 : Cond.constant RX2 71 (65537) ∈ zG := z_t3 35 rfl rfl
theorem zl_L_116 : Cond.methodLink RL 116 yX8_image ∈ zG := z_t3 37 rfl rfl
theorem zl_L_120 : Cond.methodLink RL 120 yX8_restore ∈ zG := z_t3 41 rfl rfl
theorem zl_L_124 : Cond.methodLink RL 124 yX8_told ∈ zG := z_t3 45 rfl rfl
theorem zl_X8_227 : Cond.methodLink RX8 227 yX8_toldOfOne ∈ zG := z_t3 49 rfl rfl
theorem zl_X8_230 : Cond.methodLink RX8 230 yX8_toldOfFlake ∈ zG := z_t3 53 rfl rfl
theorem zd_L_10 : Cond.classLink RL 10 RX9 ∈ zG := z_t3 57 rfl rfl
theorem zx_X9 : Cond.instantiable RX9 35 ∈ zG := z_t3 58 rfl rfl
theorem zl_L_12 : Cond.methodLink RL 12 yX9_init ∈ zG := z_t3 59 rfl rfl
theorem zl_X9_1 : Cond.methodLink RX9 1 objectInit ∈ zG := z_t3 62 rfl rfl
theorem zl_X9_90 : Cond.fieldLink RX9 90 "FlakePostModel" "there" "I" ∈ zG := z_t3 63 rfl rfl
theorem zl_X9_7 : Cond.fieldLink RX9 7 "FlakePostModel" "arm" "[I" ∈ zG := z_t3 64 rfl rfl
theorem zl_X9_13 : Cond.fieldLink RX9 13 "FlakePostModel" "place" "[I" ∈ zG := z_t3 65 rfl rfl
theorem zl_X9_16 : Cond.fieldLink RX9 16 "FlakePostModel" "height" "[I" ∈ zG := z_t3 66 rfl rfl
theorem zl_X9_19 : Cond.fieldLink RX9 19 "FlakePostModel" "meant" "[I" ∈ zG := z_t3 67 rfl rfl
theorem zl_X9_22 : Cond.fieldLink RX9 22 "FlakePostModel" "with" "[I" ∈ zG := z_t3 68 rfl rfl
theorem zl_X9_25 : Cond.fieldLink RX9 25 "FlakePostModel" "stood" "[I" ∈ zG := z_t3 69 rfl rfl
theorem zl_X9_28 : Cond.fieldLink RX9 28 "FlakePostModel" "covered" "[I" ∈ zG := z_t3 70 rfl rfl
theorem zl_X9_31 : Cond.fieldLink RX9 31 "FlakePostModel" "airs" "[I" ∈ zG := z_t3 71 rfl rfl
theorem zl_X9_34 : Cond.fieldLink RX9 34 "FlakePostModel" "sightFrom" "[I" ∈ zG := z_t3 72 rfl rfl
theorem zl_X9_37 : Cond.fieldLink RX9 37 "FlakePostModel" "sightTo" "[I" ∈ zG := z_t3 73 rfl rfl
theorem zl_X9_245 : Cond.fieldLink RX9 245 "FlakePostModel" "sights" "I" ∈ zG := z_t3 74 rfl rfl
theorem zl_X9_40 : Cond.fieldLink RX9 40 "FlakePostModel" "pad" "[I" ∈ zG := z_t3 75 rfl rfl
theorem zl_X9_120 : Cond.fieldLink RX9 120 "FlakePostModel" "padMany" "I" ∈ zG := z_t3 76 rfl rfl
theorem zl_X9_43 : Cond.fieldLink RX9 43 "FlakePostModel" "act" "[I" ∈ zG := z_t3 77 rfl rfl
theorem zl_X9_46 : Cond.fieldLink RX9 46 "FlakePostModel" "who" "[I" ∈ zG := z_t3 78 rfl rfl
theorem zl_X9_123 : Cond.fieldLink RX9 123 "FlakePostModel" "acts" "I" ∈ zG := z_t3 79 rfl rfl
theorem zl_X9_151 : Cond.fieldLink RX9 151 "FlakePostModel" "downMany" "I" ∈ zG := z_t3 80 rfl rfl
theorem zl_X9_154 : Cond.fieldLink RX9 154 "FlakePostModel" "firstPosted" "I" ∈ zG := z_t3 81 rfl rfl
theorem zl_X9_157 : Cond.fieldLink RX9 157 "FlakePostModel" "actNow" "I" ∈ zG := z_t3 82 rfl rfl
theorem zl_X9_49 : Cond.fieldLink RX9 49 "FlakePostModel" "had" "[I" ∈ zG := z_t3 83 rfl rfl
theorem zl_X9_173 : Cond.fieldLink RX9 173 "FlakePostModel" "badAct" "I" ∈ zG := z_t3 84 rfl rfl
theorem zl_X9_176 : Cond.fieldLink RX9 176 "FlakePostModel" "badWhy" "I" ∈ zG := z_t3 85 rfl rfl
theorem zl_X9_52 : Cond.fieldLink RX9 52 "FlakePostModel" "ways" "[J" ∈ zG := z_t3 86 rfl rfl
theorem zl_X9_56 : Cond.fieldLink RX9 56 "FlakePostModel" "off" "[I" ∈ zG := z_t3 87 rfl rfl
theorem zl_X9_59 : Cond.fieldLink RX9 59 "FlakePostModel" "mostBy" "[I" ∈ zG := z_t3 88 rfl rfl
theorem zl_X9_62 : Cond.fieldLink RX9 62 "FlakePostModel" "byArm" "[I" ∈ zG := z_t3 89 rfl rfl
theorem zl_X9_65 : Cond.fieldLink RX9 65 "FlakePostModel" "isLaw" "[Z" ∈ zG := z_t3 90 rfl rfl
theorem zl_X9_69 : Cond.fieldLink RX9 69 "FlakePostModel" "parts" "[J" ∈ zG := z_t3 91 rfl rfl
theorem zl_X9_72 : Cond.fieldLink RX9 72 "FlakePostModel" "partsThen" "[J" ∈ zG := z_t3 92 rfl rfl
theorem zl_X9_75 : Cond.fieldLink RX9 75 "FlakePostModel" "takes" "[I" ∈ zG := z_t3 93 rfl rfl
theorem zl_X9_78 : Cond.fieldLink RX9 78 "FlakePostModel" "kept" "[I" ∈ zG := z_t3 94 rfl rfl
theorem zl_X9_81 : Cond.fieldLink RX9 81 "FlakePostModel" "isKept" "[Z" ∈ zG := z_t3 95 rfl rfl
theorem zl_X9_290 : Cond.fieldLink RX9 290 "FlakePostModel" "keptAt" "I" ∈ zG := z_t3 96 rfl rfl
theorem zl_X9_286 : Cond.fieldLink RX9 286 "FlakePostModel" "isWriting" "Z" ∈ zG := z_t3 97 rfl rfl
theorem zl_L_17 : Cond.methodLink RL 17 yX9_flake ∈ zG := z_t3 171 rfl rfl
theorem zk_X9_84 : Cond.constantLong RX9 84 (7) ∈ zG := z_t3 175 rfl rfl
theorem zl_X9_86 : Cond.methodLink RX9 86 yX9_in ∈ zG := z_t3 176 rfl rfl
theorem zl_X9_98 : Cond.methodLink RX9 98 yX9_isOne ∈ zG := z_t3 179 rfl rfl
theorem zk_X9_94 : Cond.constantLong RX9 94 (5) ∈ zG := z_t3 182 rfl rfl
theorem zl_X9_102 : Cond.methodLink RX9 102 yX9_isArm ∈ zG := z_t3 183 rfl rfl
theorem zk_X9_96 : Cond.constantLong RX9 96 (255) ∈ zG := z_t3 186 rfl rfl
theorem zk_X9_105 : Cond.constantLong RX9 105 (15) ∈ zG := z_t3 187 rfl rfl
theorem zk_X9_107 : Cond.constantLong RX9 107 (9) ∈ zG := z_t3 188 rfl rfl
theorem zl_X9_109 : Cond.methodLink RX9 109 yX9_bitsOf ∈ zG := z_t3 189 rfl rfl
theorem zl_L_22 : Cond.methodLink RL 22 yX9_melt ∈ zG := z_t3 192 rfl rfl
theorem zl_X9_113 : Cond.methodLink RX9 113 yX9_isFlake ∈ zG := z_t3 196 rfl rfl
theorem zl_L_27 : Cond.methodLink RL 27 yX9_stand ∈ zG := z_t3 200 rfl rfl
theorem zl_L_31 : Cond.methodLink RL 31 yX9_air ∈ zG := z_t3 204 rfl rfl
theorem zl_L_35 : Cond.methodLink RL 35 yX9_say ∈ zG := z_t3 208 rfl rfl
theorem zk_X9_116 : Cond.constantLong RX9 116 (33) ∈ zG := z_t3 212 rfl rfl
theorem zk_X9_118 : Cond.constantLong RX9 118 (126) ∈ zG := z_t3 213 rfl rfl
theorem zl_L_40 : Cond.methodLink RL 40 yX9_wipe ∈ zG := z_t3 214 rfl rfl
theorem zl_L_44 : Cond.methodLink RL 44 yX9_fault ∈ zG := z_t3 218 rfl rfl
theorem zl_X9_133 : Cond.methodLink RX9 133 yX9_readOn ∈ zG := z_t3 222 rfl rfl
theorem zl_X9_126 : Cond.methodLink RX9 126 yX9_close ∈ zG := z_t3 226 rfl rfl
theorem zk_X9_129 : Cond.constantLong RX9 129 (65) ∈ zG := z_t3 230 rfl rfl
theorem zk_X9_131 : Cond.constantLong RX9 131 (70) ∈ zG := z_t3 231 rfl rfl
theorem zl_L_48 : Cond.methodLink RL 48 yX9_judge ∈ zG := z_t3 232 rfl rfl
theorem zk_X9_194 : Cond.constantLong RX9 194 (2) ∈ zG := z_t3 236 rfl rfl
theorem zl_X9_196 : Cond.methodLink RX9 196 yX9_refusal ∈ zG := z_t3 237 rfl rfl
theorem zl_X9_185 : Cond.methodLink RX9 185 yX9_keepNow ∈ zG := z_t4 1 rfl rfl
theorem zl_X9_188 : Cond.methodLink RX9 188 yX9_fault ∈ zG := z_t4 5 rfl rfl
theorem zl_X9_191 : Cond.methodLink RX9 191 yX9_goDays ∈ zG := z_t4 6 rfl rfl
theorem zl_X9_179 : Cond.methodLink RX9 179 yX9_whyNot ∈ zG := z_t4 10 rfl rfl
theorem zl_X9_140 : Cond.methodLink RX9 140 yX9_aboveMany ∈ zG := z_t4 14 rfl rfl
theorem zl_X9_137 : Cond.methodLink RX9 137 yX9_isAbove ∈ zG := z_t4 18 rfl rfl
theorem zl_X9_182 : Cond.methodLink RX9 182 yX9_happen ∈ zG := z_t4 22 rfl rfl
theorem zl_X9_164 : Cond.methodLink RX9 164 yX9_grow ∈ zG := z_t4 26 rfl rfl
theorem zl_X9_144 : Cond.methodLink RX9 144 yX9_grown ∈ zG := z_t4 30 rfl rfl
theorem zl_X9_167 : Cond.methodLink RX9 167 yX9_blow ∈ zG := z_t4 33 rfl rfl
theorem zl_X9_147 : Cond.methodLink RX9 147 yX9_blowOne ∈ zG := z_t4 37 rfl rfl
theorem zl_X9_170 : Cond.methodLink RX9 170 yX9_fall ∈ zG := z_t4 41 rfl rfl
theorem zl_X9_160 : Cond.methodLink RX9 160 yX9_comeDown ∈ zG := z_t4 45 rfl rfl
theorem zl_X9_199 : Cond.methodLink RX9 199 yX9_back ∈ zG := z_t4 49 rfl rfl
theorem zl_L_52 : Cond.methodLink RL 52 yX9_behind ∈ zG := z_t4 53 rfl rfl
theorem zk_X9_202 : Cond.constantLong RX9 202 (3) ∈ zG := z_t4 57 rfl rfl
theorem zl_X9_204 : Cond.methodLink RX9 204 yX9_ofFlake ∈ zG := z_t4 58 rfl rfl
theorem zl_L_56 : Cond.methodLink RL 56 yX9_stands ∈ zG := z_t4 62 rfl rfl
theorem zl_X9_207 : Cond.methodLink RX9 207 yX9_flakesOf ∈ zG := z_t4 66 rfl rfl
theorem zl_L_60 : Cond.methodLink RL 60 yX9_posted ∈ zG := z_t4 70 rfl rfl
theorem zl_X9_210 : Cond.methodLink RX9 210 yX9_postedNow ∈ zG := z_t4 74 rfl rfl
theorem zl_X9_213 : Cond.methodLink RX9 213 yX9_riverNow ∈ zG := z_t4 78 rfl rfl
theorem zl_L_64 : Cond.methodLink RL 64 yX9_done ∈ zG := z_t4 82 rfl rfl
theorem zl_L_68 : Cond.methodLink RL 68 yX9_says ∈ zG := z_t4 86 rfl rfl
theorem zl_L_73 : Cond.methodLink RL 73 yX9_grew ∈ zG := z_t4 90 rfl rfl
theorem zk_X9_216 : Cond.constantLong RX9 216 (10) ∈ zG := z_t4 94 rfl rfl
theorem zk_X9_218 : Cond.constantLong RX9 218 (-2) ∈ zG := z_t4 95 rfl rfl
theorem zl_X9_220 : Cond.methodLink RX9 220 yX9_findWays ∈ zG := z_t4 96 rfl rfl
theorem zk_X9_223 : Cond.constantLong RX9 223 (-6) ∈ zG := z_t4 100 rfl rfl
theorem zl_X9_225 : Cond.methodLink RX9 225 yX9_firstAirs ∈ zG := z_t4 101 rfl rfl
theorem zl_L_77 : Cond.methodLink RL 77 yX9_soon ∈ zG := z_t4 105 rfl rfl
theorem zl_X9_229 : Cond.methodLink RX9 229 yX9_findOff ∈ zG := z_t4 109 rfl rfl
theorem zl_L_81 : Cond.methodLink RL 81 yX9_most ∈ zG := z_t4 113 rfl rfl
theorem zl_X9_236 : Cond.methodLink RX9 236 yX9_canGetOwn ∈ zG := z_t4 117 rfl rfl
theorem zl_X9_232 : Cond.methodLink RX9 232 yX9_canGet ∈ zG := z_t4 121 rfl rfl
theorem zl_X9_239 : Cond.methodLink RX9 239 yX9_addFlake ∈ zG := z_t4 125 rfl rfl
theorem zl_L_85 : Cond.methodLink RL 85 yX9_patch ∈ zG := z_t4 129 rfl rfl
theorem zl_X9_242 : Cond.methodLink RX9 242 yX9_isFree ∈ zG := z_t4 133 rfl rfl
theorem zl_L_89 : Cond.methodLink RL 89 yX9_seen ∈ zG := z_t4 137 rfl rfl
theorem zl_L_93 : Cond.methodLink RL 93 yX9_forget ∈ zG := z_t4 141 rfl rfl
theorem zl_L_97 : Cond.methodLink RL 97 yX9_laws ∈ zG := z_t4 145 rfl rfl
theorem zl_X9_248 : Cond.methodLink RX9 248 yX9_fits ∈ zG := z_t4 149 rfl rfl
theorem zl_L_101 : Cond.methodLink RL 101 yX9_look ∈ zG := z_t4 153 rfl rfl
theorem zl_X9_251 : Cond.methodLink RX9 251 yX9_mostLeft ∈ zG := z_t4 157 rfl rfl
theorem zl_L_106 : Cond.methodLink RL 106 yX9_gusts ∈ zG := z_t4 161 rfl rfl
theorem zl_X9_258 : Cond.methodLink RX9 258 yX9_areGusts ∈ zG := z_t4 165 rfl rfl
theorem zk_X9_254 : Cond.constantLong RX9 254 (6) ∈ zG := z_t4 168 rfl rfl
theorem zk_X9_256 : Cond.constantLong RX9 256 (-1) ∈ zG := z_t4 169 rfl rfl
theorem zk_X9_262 : Cond.constantLong RX9 262 (-1000000000000000002) ∈ zG := z_t4 170 rfl rfl
theorem zl_X9_264 : Cond.methodLink RX9 264 yX9_gust ∈ zG := z_t4 171 rfl rfl
theorem zl_X9_267 : Cond.methodLink RX9 267 yX9_lowest ∈ zG := z_t4 175 rfl rfl
theorem zl_L_110 : Cond.methodLink RL 110 yX9_spoon ∈ zG := z_t4 178 rfl rfl
theorem zk_X9_271 : Cond.constantLong RX9 271 (60) ∈ zG := z_t4 182 rfl rfl
theorem zl_X9_273 : Cond.methodLink RX9 273 yX9_bestTake ∈ zG := z_t4 183 rfl rfl
theorem zl_L_115 : Cond.methodLink RL 115 yX9_year ∈ zG := z_t4 187 rfl rfl
theorem zk_X9_276 : Cond.constantLong RX9 276 (9999) ∈ zG := z_t4 191 rfl rfl
theorem zk_X9_278 : Cond.constantLong RX9 278 (99) ∈ zG := z_t4 192 rfl rfl
theorem zk_X9_280 : Cond.constantLong RX9 280 (75) ∈ zG := z_t4 193 rfl rfl
theorem zk_X9_282 : Cond.constantLong RX9 282 (74) ∈ zG := z_t4 194 rfl rfl
theorem zk_X9_284 : Cond.constantLong RX9 284 (65537) ∈ zG := z_t4 195 rfl rfl
theorem zl_L_119 : Cond.methodLink RL 119 yX9_image ∈ zG := z_t4 196 rfl rfl
theorem zl_X9_300 : Cond.methodLink RX9 300 yX9_passAll ∈ zG := z_t4 200 rfl rfl
theorem zl_X9_293 : Cond.methodLink RX9 293 yX9_pass ∈ zG := z_t4 204 rfl rfl
theorem zl_X9_296 : Cond.methodLink RX9 296 yX9_passRow ∈ zG := z_t4 208 rfl rfl
theorem zl_L_123 : Cond.methodLink RL 123 yX9_restore ∈ zG := z_t4 212 rfl rfl
theorem zl_L_127 : Cond.methodLink RL 127 yX9_told ∈ zG := z_t4 216 rfl rfl
theorem zk_X9_303 : Cond.constantLong RX9 303 (100) ∈ zG := z_t4 220 rfl rfl
theorem zk_X9_305 : Cond.constantLong RX9 305 (159) ∈ zG := z_t4 221 rfl rfl
theorem zk_X9_307 : Cond.constantLong RX9 307 (89) ∈ zG := z_t4 222 rfl rfl
theorem zl_X9_309 : Cond.methodLink RX9 309 yX9_toldOf ∈ zG := z_t4 223 rfl rfl
theorem zw_native : Cond.native arraycopyName ∈ zG := z_t2 61 rfl rfl
theorem zw_nstat : Cond.static arraycopyName ∈ zG := z_t2 60 rfl rfl
theorem zw_nini : Cond.initialized "java/lang/System" ∈ zG := z_t1 10 rfl rfl
theorem zw_oi : Cond.instanceMethod objectInit ∈ zG := z_t1 21 rfl rfl
theorem zw_oc : Cond.code objectInit ⟨#[0xb1]⟩ 1 none ∈ zG := z_t1 22 rfl rfl
theorem zw_acint : Cond.arrayClass .int ∈ zG := z_t1 86 rfl rfl
theorem zw_aclong : Cond.arrayClass .long ∈ zG := z_t3 169 rfl rfl
theorem zw_acboolean : Cond.arrayClass .boolean ∈ zG := z_t3 170 rfl rfl
def zN : List Cond := [Cond.methodLinkNest RX8 9 yX7_init RX8,
  Cond.fieldLinkNest RX8 67 "FlakePost$Yard" "there" "I" RX8,
  Cond.fieldLinkNest RX8 122 "FlakePost$Yard" "arm" "[I" RX8,
  Cond.fieldLinkNest RX1 18 "FlakePost$Yard" "place" "[I" RX8,
  Cond.fieldLinkNest RX8 125 "FlakePost$Yard" "place" "[I" RX8,
  Cond.fieldLinkNest RX1 9 "FlakePost$Yard" "height" "[I" RX8,
  Cond.fieldLinkNest RX8 128 "FlakePost$Yard" "height" "[I" RX8,
  Cond.fieldLinkNest RX1 27 "FlakePost$Yard" "addressee" "[I" RX8,
  Cond.fieldLinkNest RX8 233 "FlakePost$Yard" "addressee" "[I" RX8,
  Cond.fieldLinkNest RX8 131 "FlakePost$Yard" "with" "[I" RX8,
  Cond.fieldLinkNest RX1 15 "FlakePost$Yard" "standing" "[I" RX8,
  Cond.fieldLinkNest RX8 84 "FlakePost$Yard" "standing" "[I" RX8,
  Cond.fieldLinkNest RX8 88 "FlakePost$Yard" "umbrellas" "I" RX8,
  Cond.fieldLinkNest RX8 91 "FlakePost$Yard" "coldLaw" "I" RX8,
  Cond.fieldLinkNest RX8 94 "FlakePost$Yard" "dampLaw" "I" RX8,
  Cond.fieldLinkNest RX8 188 "FlakePost$Yard" "sights" "I" RX8,
  Cond.fieldLinkNest RX8 195 "FlakePost$Yard" "lawHas" "I" RX8,
  Cond.fieldLinkNest RX8 198 "FlakePost$Yard" "lawLacks" "I" RX8,
  Cond.methodLinkNest RX8 26 yX5_init RX8,
  Cond.fieldLinkNest RX8 100 "FlakePost$Pad" "count" "I" RX8,
  Cond.fieldLinkNest RX2 40 "FlakePost$Pad" "kinds" "[I" RX8,
  Cond.fieldLinkNest RX2 44 "FlakePost$Pad" "ones" "[I" RX8,
  Cond.fieldLinkNest RX2 35 "FlakePost$Pad" "acts" "I" RX8,
  Cond.fieldLinkNest RX8 154 "FlakePost$Pad" "acts" "I" RX8,
  Cond.methodLinkNest RX8 33 yX2_init RX8,
  Cond.methodLinkNest RX2 11 yX7_init RX8,
  Cond.fieldLinkNest RX8 119 "FlakePost$Day" "after" "LFlakePost$Yard;" RX8,
  Cond.fieldLinkNest RX8 110 "FlakePost$Day" "badAct" "I" RX8,
  Cond.fieldLinkNest RX8 113 "FlakePost$Day" "badWhy" "I" RX8,
  Cond.fieldLinkNest RX8 144 "FlakePost$Day" "firstDelivery" "I" RX8,
  Cond.methodLinkNest RX8 40 yX0_init RX8,
  Cond.methodLinkNest RX8 47 yX4_init RX8,
  Cond.methodLinkNest RX8 54 yX6_init RX8,
  Cond.methodLinkNest RX6 19 yX8_bit RX8,
  Cond.methodLinkNest RX8 63 yX7_putFlake RX8,
  Cond.methodLinkNest RX8 76 yX7_has RX8,
  Cond.methodLinkNest RX7 58 yX8_isBelow RX8,
  Cond.methodLinkNest RX7 62 yX8_bit RX8,
  Cond.methodLinkNest RX8 80 yX7_removeFlake RX8,
  Cond.methodLinkNest RX8 97 yX5_add RX8,
  Cond.methodLinkNest RX8 103 yX5_readActs RX8,
  Cond.methodLinkNest RX8 236 yX2_live RX8,
  Cond.methodLinkNest RX2 59 yX7_copy RX8,
  Cond.methodLinkNest RX2 62 yX7_down RX8,
  Cond.methodLinkNest RX2 47 yX7_whyNot RX8,
  Cond.methodLinkNest RX2 51 yX7_delivered RX8,
  Cond.methodLinkNest RX2 55 yX7_carryOut RX8,
  Cond.methodLinkNest RX7 90 yX3_grown RX8,
  Cond.methodLinkNest RX3 15 yX8_bit RX8,
  Cond.methodLinkNest RX8 116 yX2_cameDown RX8,
  Cond.methodLinkNest RX8 138 yX7_flakesWith RX8,
  Cond.methodLinkNest RX8 141 yX7_delivered RX8,
  Cond.methodLinkNest RX8 147 yX7_inRiver RX8,
  Cond.methodLinkNest RX8 150 yX7_copy RX8,
  Cond.methodLinkNest RX8 157 yX3_readAloud RX8,
  Cond.methodLinkNest RX8 164 yX3_rows RX8,
  Cond.methodLinkNest RX8 168 yX3_firstRow RX8,
  Cond.methodLinkNest RX8 172 yX0_fewestAirs RX8,
  Cond.methodLinkNest RX0 32 yX3_grown RX8,
  Cond.methodLinkNest RX8 176 yX1_byAddressees RX8,
  Cond.methodLinkNest RX8 182 yX1_byWhoever RX8,
  Cond.methodLinkNest RX1 49 yX8_bit RX8,
  Cond.methodLinkNest RX8 185 yX7_trodden RX8,
  Cond.methodLinkNest RX8 191 yX7_addSight RX8,
  Cond.methodLinkNest RX7 102 yX3_around RX8,
  Cond.methodLinkNest RX8 201 yX7_fits RX8,
  Cond.methodLinkNest RX8 204 yX7_lawsLeftBy RX8,
  Cond.methodLinkNest RX8 209 yX4_fall RX8,
  Cond.methodLinkNest RX8 213 yX4_chance RX8,
  Cond.methodLinkNest RX8 217 yX6_winningTake RX8,
  Cond.methodLinkNest RX8 220 yX2_dreamYear RX8,
  Cond.methodLinkNest RX8 224 yX7_falling RX8]
theorem zn_X8_9 : Cond.methodLinkNest RX8 9 yX7_init RX8 ∈ zN := List.mem_of_getElem? (i := 0) rfl
theorem zn_X8_67 : Cond.fieldLinkNest RX8 67 "FlakePost$Yard" "there" "I" RX8 ∈ zN := List.mem_of_getElem? (i := 1) rfl
theorem zn_X8_122 : Cond.fieldLinkNest RX8 122 "FlakePost$Yard" "arm" "[I" RX8 ∈ zN := List.mem_of_getElem? (i := 2) rfl
theorem zn_X1_18 : Cond.fieldLinkNest RX1 18 "FlakePost$Yard" "place" "[I" RX8 ∈ zN := List.mem_of_getElem? (i := 3) rfl
theorem zn_X8_125 : Cond.fieldLinkNest RX8 125 "FlakePost$Yard" "place" "[I" RX8 ∈ zN := List.mem_of_getElem? (i := 4) rfl
theorem zn_X1_9 : Cond.fieldLinkNest RX1 9 "FlakePost$Yard" "height" "[I" RX8 ∈ zN := List.mem_of_getElem? (i := 5) rfl
theorem zn_X8_128 : Cond.fieldLinkNest RX8 128 "FlakePost$Yard" "height" "[I" RX8 ∈ zN := List.mem_of_getElem? (i := 6) rfl
theorem zn_X1_27 : Cond.fieldLinkNest RX1 27 "FlakePost$Yard" "addressee" "[I" RX8 ∈ zN := List.mem_of_getElem? (i := 7) rfl
theorem zn_X8_233 : Cond.fieldLinkNest RX8 233 "FlakePost$Yard" "addressee" "[I" RX8 ∈ zN := List.mem_of_getElem? (i := 8) rfl
theorem zn_X8_131 : Cond.fieldLinkNest RX8 131 "FlakePost$Yard" "with" "[I" RX8 ∈ zN := List.mem_of_getElem? (i := 9) rfl
theorem zn_X1_15 : Cond.fieldLinkNest RX1 15 "FlakePost$Yard" "standing" "[I" RX8 ∈ zN := List.mem_of_getElem? (i := 10) rfl
theorem zn_X8_84 : Cond.fieldLinkNest RX8 84 "FlakePost$Yard" "standing" "[I" RX8 ∈ zN := List.mem_of_getElem? (i := 11) rfl
theorem zn_X8_88 : Cond.fieldLinkNest RX8 88 "FlakePost$Yard" "umbrellas" "I" RX8 ∈ zN := List.mem_of_getElem? (i := 12) rfl
theorem zn_X8_91 : Cond.fieldLinkNest RX8 91 "FlakePost$Yard" "coldLaw" "I" RX8 ∈ zN := List.mem_of_getElem? (i := 13) rfl
theorem zn_X8_94 : Cond.fieldLinkNest RX8 94 "FlakePost$Yard" "dampLaw" "I" RX8 ∈ zN := List.mem_of_getElem? (i := 14) rfl
theorem zn_X8_188 : Cond.fieldLinkNest RX8 188 "FlakePost$Yard" "sights" "I" RX8 ∈ zN := List.mem_of_getElem? (i := 15) rfl
theorem zn_X8_195 : Cond.fieldLinkNest RX8 195 "FlakePost$Yard" "lawHas" "I" RX8 ∈ zN := List.mem_of_getElem? (i := 16) rfl
theorem zn_X8_198 : Cond.fieldLinkNest RX8 198 "FlakePost$Yard" "lawLacks" "I" RX8 ∈ zN := List.mem_of_getElem? (i := 17) rfl
theorem zn_X8_26 : Cond.methodLinkNest RX8 26 yX5_init RX8 ∈ zN := List.mem_of_getElem? (i := 18) rfl
theorem zn_X8_100 : Cond.fieldLinkNest RX8 100 "FlakePost$Pad" "count" "I" RX8 ∈ zN := List.mem_of_getElem? (i := 19) rfl
theorem zn_X2_40 : Cond.fieldLinkNest RX2 40 "FlakePost$Pad" "kinds" "[I" RX8 ∈ zN := List.mem_of_getElem? (i := 20) rfl
theorem zn_X2_44 : Cond.fieldLinkNest RX2 44 "FlakePost$Pad" "ones" "[I" RX8 ∈ zN := List.mem_of_getElem? (i := 21) rfl
theorem zn_X2_35 : Cond.fieldLinkNest RX2 35 "FlakePost$Pad" "acts" "I" RX8 ∈ zN := List.mem_of_getElem? (i := 22) rfl
theorem zn_X8_154 : Cond.fieldLinkNest RX8 154 "FlakePost$Pad" "acts" "I" RX8 ∈ zN := List.mem_of_getElem? (i := 23) rfl
theorem zn_X8_33 : Cond.methodLinkNest RX8 33 yX2_init RX8 ∈ zN := List.mem_of_getElem? (i := 24) rfl
theorem zn_X2_11 : Cond.methodLinkNest RX2 11 yX7_init RX8 ∈ zN := List.mem_of_getElem? (i := 25) rfl
theorem zn_X8_119 : Cond.fieldLinkNest RX8 119 "FlakePost$Day" "after" "LFlakePost$Yard;" RX8 ∈ zN := List.mem_of_getElem? (i := 26) rfl
theorem zn_X8_110 : Cond.fieldLinkNest RX8 110 "FlakePost$Day" "badAct" "I" RX8 ∈ zN := List.mem_of_getElem? (i := 27) rfl
theorem zn_X8_113 : Cond.fieldLinkNest RX8 113 "FlakePost$Day" "badWhy" "I" RX8 ∈ zN := List.mem_of_getElem? (i := 28) rfl
theorem zn_X8_144 : Cond.fieldLinkNest RX8 144 "FlakePost$Day" "firstDelivery" "I" RX8 ∈ zN := List.mem_of_getElem? (i := 29) rfl
theorem zn_X8_40 : Cond.methodLinkNest RX8 40 yX0_init RX8 ∈ zN := List.mem_of_getElem? (i := 30) rfl
theorem zn_X8_47 : Cond.methodLinkNest RX8 47 yX4_init RX8 ∈ zN := List.mem_of_getElem? (i := 31) rfl
theorem zn_X8_54 : Cond.methodLinkNest RX8 54 yX6_init RX8 ∈ zN := List.mem_of_getElem? (i := 32) rfl
theorem zn_X6_19 : Cond.methodLinkNest RX6 19 yX8_bit RX8 ∈ zN := List.mem_of_getElem? (i := 33) rfl
theorem zn_X8_63 : Cond.methodLinkNest RX8 63 yX7_putFlake RX8 ∈ zN := List.mem_of_getElem? (i := 34) rfl
theorem zn_X8_76 : Cond.methodLinkNest RX8 76 yX7_has RX8 ∈ zN := List.mem_of_getElem? (i := 35) rfl
theorem zn_X7_58 : Cond.methodLinkNest RX7 58 yX8_isBelow RX8 ∈ zN := List.mem_of_getElem? (i := 36) rfl
theorem zn_X7_62 : Cond.methodLinkNest RX7 62 yX8_bit RX8 ∈ zN := List.mem_of_getElem? (i := 37) rfl
theorem zn_X8_80 : Cond.methodLinkNest RX8 80 yX7_removeFlake RX8 ∈ zN := List.mem_of_getElem? (i := 38) rfl
theorem zn_X8_97 : Cond.methodLinkNest RX8 97 yX5_add RX8 ∈ zN := List.mem_of_getElem? (i := 39) rfl
theorem zn_X8_103 : Cond.methodLinkNest RX8 103 yX5_readActs RX8 ∈ zN := List.mem_of_getElem? (i := 40) rfl
theorem zn_X8_236 : Cond.methodLinkNest RX8 236 yX2_live RX8 ∈ zN := List.mem_of_getElem? (i := 41) rfl
theorem zn_X2_59 : Cond.methodLinkNest RX2 59 yX7_copy RX8 ∈ zN := List.mem_of_getElem? (i := 42) rfl
theorem zn_X2_62 : Cond.methodLinkNest RX2 62 yX7_down RX8 ∈ zN := List.mem_of_getElem? (i := 43) rfl
theorem zn_X2_47 : Cond.methodLinkNest RX2 47 yX7_whyNot RX8 ∈ zN := List.mem_of_getElem? (i := 44) rfl
theorem zn_X2_51 : Cond.methodLinkNest RX2 51 yX7_delivered RX8 ∈ zN := List.mem_of_getElem? (i := 45) rfl
theorem zn_X2_55 : Cond.methodLinkNest RX2 55 yX7_carryOut RX8 ∈ zN := List.mem_of_getElem? (i := 46) rfl
theorem zn_X7_90 : Cond.methodLinkNest RX7 90 yX3_grown RX8 ∈ zN := List.mem_of_getElem? (i := 47) rfl
theorem zn_X3_15 : Cond.methodLinkNest RX3 15 yX8_bit RX8 ∈ zN := List.mem_of_getElem? (i := 48) rfl
theorem zn_X8_116 : Cond.methodLinkNest RX8 116 yX2_cameDown RX8 ∈ zN := List.mem_of_getElem? (i := 49) rfl
theorem zn_X8_138 : Cond.methodLinkNest RX8 138 yX7_flakesWith RX8 ∈ zN := List.mem_of_getElem? (i := 50) rfl
theorem zn_X8_141 : Cond.methodLinkNest RX8 141 yX7_delivered RX8 ∈ zN := List.mem_of_getElem? (i := 51) rfl
theorem zn_X8_147 : Cond.methodLinkNest RX8 147 yX7_inRiver RX8 ∈ zN := List.mem_of_getElem? (i := 52) rfl
theorem zn_X8_150 : Cond.methodLinkNest RX8 150 yX7_copy RX8 ∈ zN := List.mem_of_getElem? (i := 53) rfl
theorem zn_X8_157 : Cond.methodLinkNest RX8 157 yX3_readAloud RX8 ∈ zN := List.mem_of_getElem? (i := 54) rfl
theorem zn_X8_164 : Cond.methodLinkNest RX8 164 yX3_rows RX8 ∈ zN := List.mem_of_getElem? (i := 55) rfl
theorem zn_X8_168 : Cond.methodLinkNest RX8 168 yX3_firstRow RX8 ∈ zN := List.mem_of_getElem? (i := 56) rfl
theorem zn_X8_172 : Cond.methodLinkNest RX8 172 yX0_fewestAirs RX8 ∈ zN := List.mem_of_getElem? (i := 57) rfl
theorem zn_X0_32 : Cond.methodLinkNest RX0 32 yX3_grown RX8 ∈ zN := List.mem_of_getElem? (i := 58) rfl
theorem zn_X8_176 : Cond.methodLinkNest RX8 176 yX1_byAddressees RX8 ∈ zN := List.mem_of_getElem? (i := 59) rfl
theorem zn_X8_182 : Cond.methodLinkNest RX8 182 yX1_byWhoever RX8 ∈ zN := List.mem_of_getElem? (i := 60) rfl
theorem zn_X1_49 : Cond.methodLinkNest RX1 49 yX8_bit RX8 ∈ zN := List.mem_of_getElem? (i := 61) rfl
theorem zn_X8_185 : Cond.methodLinkNest RX8 185 yX7_trodden RX8 ∈ zN := List.mem_of_getElem? (i := 62) rfl
theorem zn_X8_191 : Cond.methodLinkNest RX8 191 yX7_addSight RX8 ∈ zN := List.mem_of_getElem? (i := 63) rfl
theorem zn_X7_102 : Cond.methodLinkNest RX7 102 yX3_around RX8 ∈ zN := List.mem_of_getElem? (i := 64) rfl
theorem zn_X8_201 : Cond.methodLinkNest RX8 201 yX7_fits RX8 ∈ zN := List.mem_of_getElem? (i := 65) rfl
theorem zn_X8_204 : Cond.methodLinkNest RX8 204 yX7_lawsLeftBy RX8 ∈ zN := List.mem_of_getElem? (i := 66) rfl
theorem zn_X8_209 : Cond.methodLinkNest RX8 209 yX4_fall RX8 ∈ zN := List.mem_of_getElem? (i := 67) rfl
theorem zn_X8_213 : Cond.methodLinkNest RX8 213 yX4_chance RX8 ∈ zN := List.mem_of_getElem? (i := 68) rfl
theorem zn_X8_217 : Cond.methodLinkNest RX8 217 yX6_winningTake RX8 ∈ zN := List.mem_of_getElem? (i := 69) rfl
theorem zn_X8_220 : Cond.methodLinkNest RX8 220 yX2_dreamYear RX8 ∈ zN := List.mem_of_getElem? (i := 70) rfl
theorem zn_X8_224 : Cond.methodLinkNest RX8 224 yX7_falling RX8 ∈ zN := List.mem_of_getElem? (i := 71) rfl
theorem zN_in : ∀ w ∈ zN, w ∈ tables_1 := by
  intro w hw
  obtain ⟨i, hi⟩ := List.getElem?_of_mem hw
  have hlt : i < 72 := (List.getElem?_eq_some_iff.mp hi).1
  have key : ∀ (i : Nat) (w : Cond), i < 72 → zN[i]? = some w → w ∈ tables_1 := by
    intro i w hlt hi
    match i, hlt, hi with
    | 0, _, hi => cases hi; exact List.mem_append_left _ (List.mem_of_getElem? (i := 25) rfl)
    | 1, _, hi => cases hi; exact List.mem_append_left _ (List.mem_of_getElem? (i := 30) rfl)
    | 2, _, hi => cases hi; exact List.mem_append_left _ (List.mem_of_getElem? (i := 32) rfl)
    | 3, _, hi => cases hi; exact List.mem_append_left _ (List.mem_of_getElem? (i := 34) rfl)
    | 4, _, hi => cases hi; exact List.mem_append_left _ (List.mem_of_getElem? (i := 35) rfl)
    | 5, _, hi => cases hi; exact List.mem_append_left _ (List.mem_of_getElem? (i := 37) rfl)
    | 6, _, hi => cases hi; exact List.mem_append_left _ (List.mem_of_getElem? (i := 38) rfl)
    | 7, _, hi => cases hi; exact List.mem_append_left _ (List.mem_of_getElem? (i := 40) rfl)
    | 8, _, hi => cases hi; exact List.mem_append_left _ (List.mem_of_getElem? (i := 41) rfl)
    | 9, _, hi => cases hi; exact List.mem_append_left _ (List.mem_of_getElem? (i := 43) rfl)
    | 10, _, hi => cases hi; exact List.mem_append_left _ (List.mem_of_getElem? (i := 45) rfl)
    | 11, _, hi => cases hi; exact List.mem_append_left _ (List.mem_of_getElem? (i := 46) rfl)
    | 12, _, hi => cases hi; exact List.mem_append_left _ (List.mem_of_getElem? (i := 48) rfl)
    | 13, _, hi => cases hi; exact List.mem_append_left _ (List.mem_of_getElem? (i := 50) rfl)
    | 14, _, hi => cases hi; exact List.mem_append_left _ (List.mem_of_getElem? (i := 52) rfl)
    | 15, _, hi => cases hi; exact List.mem_append_left _ (List.mem_of_getElem? (i := 54) rfl)
    | 16, _, hi => cases hi; exact List.mem_append_left _ (List.mem_of_getElem? (i := 56) rfl)
    | 17, _, hi => cases hi; exact List.mem_append_left _ (List.mem_of_getElem? (i := 58) rfl)
    | 18, _, hi => cases hi; exact List.mem_append_left _ (List.mem_of_getElem? (i := 90) rfl)
    | 19, _, hi => cases hi; exact List.mem_append_left _ (List.mem_of_getElem? (i := 96) rfl)
    | 20, _, hi => cases hi; exact List.mem_append_left _ (List.mem_of_getElem? (i := 98) rfl)
    | 21, _, hi => cases hi; exact List.mem_append_left _ (List.mem_of_getElem? (i := 100) rfl)
    | 22, _, hi => cases hi; exact List.mem_append_left _ (List.mem_of_getElem? (i := 102) rfl)
    | 23, _, hi => cases hi; exact List.mem_append_left _ (List.mem_of_getElem? (i := 103) rfl)
    | 24, _, hi => cases hi; exact List.mem_append_left _ (List.mem_of_getElem? (i := 117) rfl)
    | 25, _, hi => cases hi; exact List.mem_append_left _ (List.mem_of_getElem? (i := 122) rfl)
    | 26, _, hi => cases hi; exact List.mem_append_left _ (List.mem_of_getElem? (i := 124) rfl)
    | 27, _, hi => cases hi; exact List.mem_append_left _ (List.mem_of_getElem? (i := 126) rfl)
    | 28, _, hi => cases hi; exact List.mem_append_left _ (List.mem_of_getElem? (i := 128) rfl)
    | 29, _, hi => cases hi; exact List.mem_append_left _ (List.mem_of_getElem? (i := 130) rfl)
    | 30, _, hi => cases hi; exact List.mem_append_left _ (List.mem_of_getElem? (i := 145) rfl)
    | 31, _, hi => cases hi; exact List.mem_append_left _ (List.mem_of_getElem? (i := 161) rfl)
    | 32, _, hi => cases hi; exact List.mem_append_left _ (List.mem_of_getElem? (i := 171) rfl)
    | 33, _, hi => cases hi; exact List.mem_append_left _ (List.mem_of_getElem? (i := 179) rfl)
    | 34, _, hi => cases hi; exact List.mem_append_left _ (List.mem_of_getElem? (i := 218) rfl)
    | 35, _, hi => cases hi; exact List.mem_append_left _ (List.mem_of_getElem? (i := 232) rfl)
    | 36, _, hi => cases hi; exact List.mem_append_left _ (List.mem_of_getElem? (i := 236) rfl)
    | 37, _, hi => cases hi; exact List.mem_append_left _ (List.mem_of_getElem? (i := 237) rfl)
    | 38, _, hi => cases hi; exact List.mem_append_left _ (List.mem_of_getElem? (i := 238) rfl)
    | 39, _, hi => cases hi; exact List.mem_append_right _ (List.mem_append_left _ (List.mem_of_getElem? (i := 14) rfl))
    | 40, _, hi => cases hi; exact List.mem_append_right _ (List.mem_append_left _ (List.mem_of_getElem? (i := 26) rfl))
    | 41, _, hi => cases hi; exact List.mem_append_right _ (List.mem_append_left _ (List.mem_of_getElem? (i := 47) rfl))
    | 42, _, hi => cases hi; exact List.mem_append_right _ (List.mem_append_left _ (List.mem_of_getElem? (i := 55) rfl))
    | 43, _, hi => cases hi; exact List.mem_append_right _ (List.mem_append_left _ (List.mem_of_getElem? (i := 62) rfl))
    | 44, _, hi => cases hi; exact List.mem_append_right _ (List.mem_append_left _ (List.mem_of_getElem? (i := 74) rfl))
    | 45, _, hi => cases hi; exact List.mem_append_right _ (List.mem_append_left _ (List.mem_of_getElem? (i := 78) rfl))
    | 46, _, hi => cases hi; exact List.mem_append_right _ (List.mem_append_left _ (List.mem_of_getElem? (i := 82) rfl))
    | 47, _, hi => cases hi; exact List.mem_append_right _ (List.mem_append_left _ (List.mem_of_getElem? (i := 90) rfl))
    | 48, _, hi => cases hi; exact List.mem_append_right _ (List.mem_append_left _ (List.mem_of_getElem? (i := 96) rfl))
    | 49, _, hi => cases hi; exact List.mem_append_right _ (List.mem_append_left _ (List.mem_of_getElem? (i := 113) rfl))
    | 50, _, hi => cases hi; exact List.mem_append_right _ (List.mem_append_left _ (List.mem_of_getElem? (i := 127) rfl))
    | 51, _, hi => cases hi; exact List.mem_append_right _ (List.mem_append_left _ (List.mem_of_getElem? (i := 135) rfl))
    | 52, _, hi => cases hi; exact List.mem_append_right _ (List.mem_append_left _ (List.mem_of_getElem? (i := 136) rfl))
    | 53, _, hi => cases hi; exact List.mem_append_right _ (List.mem_append_left _ (List.mem_of_getElem? (i := 141) rfl))
    | 54, _, hi => cases hi; exact List.mem_append_right _ (List.mem_append_left _ (List.mem_of_getElem? (i := 146) rfl))
    | 55, _, hi => cases hi; exact List.mem_append_right _ (List.mem_append_left _ (List.mem_of_getElem? (i := 154) rfl))
    | 56, _, hi => cases hi; exact List.mem_append_right _ (List.mem_append_left _ (List.mem_of_getElem? (i := 159) rfl))
    | 57, _, hi => cases hi; exact List.mem_append_right _ (List.mem_append_left _ (List.mem_of_getElem? (i := 168) rfl))
    | 58, _, hi => cases hi; exact List.mem_append_right _ (List.mem_append_left _ (List.mem_of_getElem? (i := 179) rfl))
    | 59, _, hi => cases hi; exact List.mem_append_right _ (List.mem_append_left _ (List.mem_of_getElem? (i := 184) rfl))
    | 60, _, hi => cases hi; exact List.mem_append_right _ (List.mem_append_left _ (List.mem_of_getElem? (i := 194) rfl))
    | 61, _, hi => cases hi; exact List.mem_append_right _ (List.mem_append_left _ (List.mem_of_getElem? (i := 200) rfl))
    | 62, _, hi => cases hi; exact List.mem_append_right _ (List.mem_append_left _ (List.mem_of_getElem? (i := 208) rfl))
    | 63, _, hi => cases hi; exact List.mem_append_right _ (List.mem_append_left _ (List.mem_of_getElem? (i := 218) rfl))
    | 64, _, hi => cases hi; exact List.mem_append_right _ (List.mem_append_left _ (List.mem_of_getElem? (i := 222) rfl))
    | 65, _, hi => cases hi; exact List.mem_append_right _ (List.mem_append_left _ (List.mem_of_getElem? (i := 231) rfl))
    | 66, _, hi => cases hi; exact List.mem_append_right _ (List.mem_append_left _ (List.mem_of_getElem? (i := 239) rfl))
    | 67, _, hi => cases hi; exact List.mem_append_right _ (List.mem_append_right _ (List.mem_append_left _ (List.mem_of_getElem? (i := 9) rfl)))
    | 68, _, hi => cases hi; exact List.mem_append_right _ (List.mem_append_right _ (List.mem_append_left _ (List.mem_of_getElem? (i := 14) rfl)))
    | 69, _, hi => cases hi; exact List.mem_append_right _ (List.mem_append_right _ (List.mem_append_left _ (List.mem_of_getElem? (i := 26) rfl)))
    | 70, _, hi => cases hi; exact List.mem_append_right _ (List.mem_append_right _ (List.mem_append_left _ (List.mem_of_getElem? (i := 31) rfl)))
    | 71, _, hi => cases hi; exact List.mem_append_right _ (List.mem_append_right _ (List.mem_append_left _ (List.mem_of_getElem? (i := 36) rfl)))
    | _ + 72, hlt, _ => exact absurd hlt (by omega)
  exact key i w hlt hi
theorem zN_nest : ∀ w ∈ zN, (∃ a i b n d h, w = Cond.fieldLinkNest a i b n d h) ∨ ∃ a i x h, w = Cond.methodLinkNest a i x h := by
  intro w hw
  simp only [zN, List.mem_cons, List.not_mem_nil, or_false] at hw
  rcases hw with rfl | rfl | rfl | rfl | rfl | rfl | rfl | rfl | rfl | rfl | rfl | rfl | rfl | rfl | rfl | rfl | rfl | rfl | rfl | rfl | rfl | rfl | rfl | rfl | rfl | rfl | rfl | rfl | rfl | rfl | rfl | rfl | rfl | rfl | rfl | rfl | rfl | rfl | rfl | rfl | rfl | rfl | rfl | rfl | rfl | rfl | rfl | rfl | rfl | rfl | rfl | rfl | rfl | rfl | rfl | rfl | rfl | rfl | rfl | rfl | rfl | rfl | rfl | rfl | rfl | rfl | rfl | rfl | rfl | rfl | rfl | rfl
  · exact Or.inr ⟨_, _, _, _, rfl⟩
  · exact Or.inl ⟨_, _, _, _, _, _, rfl⟩
  · exact Or.inl ⟨_, _, _, _, _, _, rfl⟩
  · exact Or.inl ⟨_, _, _, _, _, _, rfl⟩
  · exact Or.inl ⟨_, _, _, _, _, _, rfl⟩
  · exact Or.inl ⟨_, _, _, _, _, _, rfl⟩
  · exact Or.inl ⟨_, _, _, _, _, _, rfl⟩
  · exact Or.inl ⟨_, _, _, _, _, _, rfl⟩
  · exact Or.inl ⟨_, _, _, _, _, _, rfl⟩
  · exact Or.inl ⟨_, _, _, _, _, _, rfl⟩
  · exact Or.inl ⟨_, _, _, _, _, _, rfl⟩
  · exact Or.inl ⟨_, _, _, _, _, _, rfl⟩
  · exact Or.inl ⟨_, _, _, _, _, _, rfl⟩
  · exact Or.inl ⟨_, _, _, _, _, _, rfl⟩
  · exact Or.inl ⟨_, _, _, _, _, _, rfl⟩
  · exact Or.inl ⟨_, _, _, _, _, _, rfl⟩
  · exact Or.inl ⟨_, _, _, _, _, _, rfl⟩
  · exact Or.inl ⟨_, _, _, _, _, _, rfl⟩
  · exact Or.inr ⟨_, _, _, _, rfl⟩
  · exact Or.inl ⟨_, _, _, _, _, _, rfl⟩
  · exact Or.inl ⟨_, _, _, _, _, _, rfl⟩
  · exact Or.inl ⟨_, _, _, _, _, _, rfl⟩
  · exact Or.inl ⟨_, _, _, _, _, _, rfl⟩
  · exact Or.inl ⟨_, _, _, _, _, _, rfl⟩
  · exact Or.inr ⟨_, _, _, _, rfl⟩
  · exact Or.inr ⟨_, _, _, _, rfl⟩
  · exact Or.inl ⟨_, _, _, _, _, _, rfl⟩
  · exact Or.inl ⟨_, _, _, _, _, _, rfl⟩
  · exact Or.inl ⟨_, _, _, _, _, _, rfl⟩
  · exact Or.inl ⟨_, _, _, _, _, _, rfl⟩
  · exact Or.inr ⟨_, _, _, _, rfl⟩
  · exact Or.inr ⟨_, _, _, _, rfl⟩
  · exact Or.inr ⟨_, _, _, _, rfl⟩
  · exact Or.inr ⟨_, _, _, _, rfl⟩
  · exact Or.inr ⟨_, _, _, _, rfl⟩
  · exact Or.inr ⟨_, _, _, _, rfl⟩
  · exact Or.inr ⟨_, _, _, _, rfl⟩
  · exact Or.inr ⟨_, _, _, _, rfl⟩
  · exact Or.inr ⟨_, _, _, _, rfl⟩
  · exact Or.inr ⟨_, _, _, _, rfl⟩
  · exact Or.inr ⟨_, _, _, _, rfl⟩
  · exact Or.inr ⟨_, _, _, _, rfl⟩
  · exact Or.inr ⟨_, _, _, _, rfl⟩
  · exact Or.inr ⟨_, _, _, _, rfl⟩
  · exact Or.inr ⟨_, _, _, _, rfl⟩
  · exact Or.inr ⟨_, _, _, _, rfl⟩
  · exact Or.inr ⟨_, _, _, _, rfl⟩
  · exact Or.inr ⟨_, _, _, _, rfl⟩
  · exact Or.inr ⟨_, _, _, _, rfl⟩
  · exact Or.inr ⟨_, _, _, _, rfl⟩
  · exact Or.inr ⟨_, _, _, _, rfl⟩
  · exact Or.inr ⟨_, _, _, _, rfl⟩
  · exact Or.inr ⟨_, _, _, _, rfl⟩
  · exact Or.inr ⟨_, _, _, _, rfl⟩
  · exact Or.inr ⟨_, _, _, _, rfl⟩
  · exact Or.inr ⟨_, _, _, _, rfl⟩
  · exact Or.inr ⟨_, _, _, _, rfl⟩
  · exact Or.inr ⟨_, _, _, _, rfl⟩
  · exact Or.inr ⟨_, _, _, _, rfl⟩
  · exact Or.inr ⟨_, _, _, _, rfl⟩
  · exact Or.inr ⟨_, _, _, _, rfl⟩
  · exact Or.inr ⟨_, _, _, _, rfl⟩
  · exact Or.inr ⟨_, _, _, _, rfl⟩
  · exact Or.inr ⟨_, _, _, _, rfl⟩
  · exact Or.inr ⟨_, _, _, _, rfl⟩
  · exact Or.inr ⟨_, _, _, _, rfl⟩
  · exact Or.inr ⟨_, _, _, _, rfl⟩
  · exact Or.inr ⟨_, _, _, _, rfl⟩
  · exact Or.inr ⟨_, _, _, _, rfl⟩
  · exact Or.inr ⟨_, _, _, _, rfl⟩
  · exact Or.inr ⟨_, _, _, _, rfl⟩
  · exact Or.inr ⟨_, _, _, _, rfl⟩
theorem zu_X0 : ∀ w ∈ wsX00, w ∈ zG := by
  intro w hw
  obtain ⟨k, hk, rfl⟩ := List.mem_map.mp hw
  have hk := List.mem_range.mp hk
  match k, hk with
  | 0, _ => exact z_t1 152 rfl rfl
  | 1, _ => exact z_t1 154 rfl rfl
  | 2, _ => exact z_t1 156 rfl rfl
  | _ + 3, hk => exact absurd hk (by omega)
theorem zu_X2 : ∀ w ∈ wsX20, w ∈ zG := by
  intro w hw
  obtain ⟨k, hk, rfl⟩ := List.mem_map.mp hw
  have hk := List.mem_range.mp hk
  match k, hk with
  | 0, _ => exact z_t1 132 rfl rfl
  | 1, _ => exact z_t1 134 rfl rfl
  | 2, _ => exact z_t1 136 rfl rfl
  | 3, _ => exact z_t1 138 rfl rfl
  | 4, _ => exact z_t1 140 rfl rfl
  | _ + 5, hk => exact absurd hk (by omega)
theorem zu_X4 : ∀ w ∈ wsX40, w ∈ zG := by
  intro w hw
  obtain ⟨k, hk, rfl⟩ := List.mem_map.mp hw
  have hk := List.mem_range.mp hk
  match k, hk with
  | 0, _ => exact z_t1 166 rfl rfl
  | _ + 1, hk => exact absurd hk (by omega)
theorem zu_X5 : ∀ w ∈ wsX50, w ∈ zG := by
  intro w hw
  obtain ⟨k, hk, rfl⟩ := List.mem_map.mp hw
  have hk := List.mem_range.mp hk
  match k, hk with
  | 0, _ => exact z_t1 104 rfl rfl
  | 1, _ => exact z_t1 106 rfl rfl
  | 2, _ => exact z_t1 108 rfl rfl
  | 3, _ => exact z_t1 110 rfl rfl
  | 4, _ => exact z_t1 112 rfl rfl
  | _ + 5, hk => exact absurd hk (by omega)
theorem zu_X6 : ∀ w ∈ wsX60, w ∈ zG := by
  intro w hw
  obtain ⟨k, hk, rfl⟩ := List.mem_map.mp hw
  have hk := List.mem_range.mp hk
  match k, hk with
  | 0, _ => exact z_t1 183 rfl rfl
  | _ + 1, hk => exact absurd hk (by omega)
theorem zu_X7 : ∀ w ∈ wsX70, w ∈ zG := by
  intro w hw
  obtain ⟨k, hk, rfl⟩ := List.mem_map.mp hw
  have hk := List.mem_range.mp hk
  match k, hk with
  | 0, _ => exact z_t1 59 rfl rfl
  | 1, _ => exact z_t1 61 rfl rfl
  | 2, _ => exact z_t1 63 rfl rfl
  | 3, _ => exact z_t1 65 rfl rfl
  | 4, _ => exact z_t1 67 rfl rfl
  | 5, _ => exact z_t1 69 rfl rfl
  | 6, _ => exact z_t1 71 rfl rfl
  | 7, _ => exact z_t1 73 rfl rfl
  | 8, _ => exact z_t1 75 rfl rfl
  | 9, _ => exact z_t1 77 rfl rfl
  | 10, _ => exact z_t1 79 rfl rfl
  | 11, _ => exact z_t1 81 rfl rfl
  | 12, _ => exact z_t1 83 rfl rfl
  | _ + 13, hk => exact absurd hk (by omega)
theorem zu_X8 : ∀ w ∈ wsX80, w ∈ zG := by
  intro w hw
  obtain ⟨k, hk, rfl⟩ := List.mem_map.mp hw
  have hk := List.mem_range.mp hk
  match k, hk with
  | 0, _ => exact z_t1 194 rfl rfl
  | 1, _ => exact z_t1 196 rfl rfl
  | 2, _ => exact z_t1 198 rfl rfl
  | 3, _ => exact z_t1 200 rfl rfl
  | 4, _ => exact z_t1 202 rfl rfl
  | 5, _ => exact z_t1 204 rfl rfl
  | 6, _ => exact z_t1 206 rfl rfl
  | 7, _ => exact z_t1 208 rfl rfl
  | _ + 8, hk => exact absurd hk (by omega)
theorem zu_X9 : ∀ w ∈ wsX90, w ∈ zG := by
  intro w hw
  obtain ⟨k, hk, rfl⟩ := List.mem_map.mp hw
  have hk := List.mem_range.mp hk
  match k, hk with
  | 0, _ => exact z_t3 98 rfl rfl
  | 1, _ => exact z_t3 100 rfl rfl
  | 2, _ => exact z_t3 102 rfl rfl
  | 3, _ => exact z_t3 104 rfl rfl
  | 4, _ => exact z_t3 106 rfl rfl
  | 5, _ => exact z_t3 108 rfl rfl
  | 6, _ => exact z_t3 110 rfl rfl
  | 7, _ => exact z_t3 112 rfl rfl
  | 8, _ => exact z_t3 114 rfl rfl
  | 9, _ => exact z_t3 116 rfl rfl
  | 10, _ => exact z_t3 118 rfl rfl
  | 11, _ => exact z_t3 120 rfl rfl
  | 12, _ => exact z_t3 122 rfl rfl
  | 13, _ => exact z_t3 124 rfl rfl
  | 14, _ => exact z_t3 126 rfl rfl
  | 15, _ => exact z_t3 128 rfl rfl
  | 16, _ => exact z_t3 130 rfl rfl
  | 17, _ => exact z_t3 132 rfl rfl
  | 18, _ => exact z_t3 134 rfl rfl
  | 19, _ => exact z_t3 136 rfl rfl
  | 20, _ => exact z_t3 138 rfl rfl
  | 21, _ => exact z_t3 140 rfl rfl
  | 22, _ => exact z_t3 142 rfl rfl
  | 23, _ => exact z_t3 144 rfl rfl
  | 24, _ => exact z_t3 146 rfl rfl
  | 25, _ => exact z_t3 148 rfl rfl
  | 26, _ => exact z_t3 150 rfl rfl
  | 27, _ => exact z_t3 152 rfl rfl
  | 28, _ => exact z_t3 154 rfl rfl
  | 29, _ => exact z_t3 156 rfl rfl
  | 30, _ => exact z_t3 158 rfl rfl
  | 31, _ => exact z_t3 160 rfl rfl
  | 32, _ => exact z_t3 162 rfl rfl
  | 33, _ => exact z_t3 164 rfl rfl
  | 34, _ => exact z_t3 166 rfl rfl
  | _ + 35, hk => exact absurd hk (by omega)
end
section
/-! the system as one world: 67 cells, at the addresses ad 0 .. ad 66; M the ints, L the longs of each cell -/
abbrev Mm : Type := Nat → Nat → Int32
abbrev Ml : Type := Nat → Nat → Int64
def zr (M : Mm) (k : Nat) (f : Nat → Int32) : Mm := fun a => if a = k then f else M a
def zrl (L : Ml) (k : Nat) (f : Nat → Int64) : Ml := fun a => if a = k then f else L a
def zs (M : Mm) (k j : Nat) (v : Int32) : Mm := zr M k (upd (M k) j v)
def zsl (L : Ml) (k j : Nat) (v : Int64) : Ml := zrl L k (vp_updL (L k) j v)
/-- the cell of the image with number j -/
def zY (j : Nat) : Nat := if j = 0 then 21 else 28
def isY (b : Nat) : Prop := b = 14 ∨ b = 21 ∨ b = 28 ∨ b = 35
theorem isY_14 : isY 14 := Or.inl rfl
theorem isY_21 : isY 21 := Or.inr (Or.inl rfl)
theorem isY_28 : isY 28 := Or.inr (Or.inr (Or.inl rfl))
theorem isY_35 : isY 35 := Or.inr (Or.inr (Or.inr rfl))
theorem isY_z (j : Nat) : isY (zY j) := by unfold zY; split; exact isY_21; exact isY_28
def zW (cy : Nat → ClassId) (ad : Nat → Nat) (M : Mm) (L : Ml) : va_W := [
  (ad 0, .inr (6, [.ref (ad 14), .ref (ad 1), .int (M 0 2), .ref (ad 2), .ref (ad 6), .ref (ad 7), .ref (ad 10), .ref (ad 12)])),
  (ad 1, .inl (cy 1, 2, .inr (.inr (.inr (.inr (fun j => some (ad (zY j)))))))),
  (ad 2, .inr (3, [.ref (ad 3), .int (M 2 1), .ref (ad 4), .ref (ad 5), .int (M 2 4)])),
  (ad 3, .inl (cy 3, 60, .inl (M 3))),
  (ad 4, .inl (cy 4, 60, .inl (M 4))),
  (ad 5, .inl (cy 5, 60, .inl (M 5))),
  (ad 6, .inr (1, [.ref (ad 35), .int (M 6 1), .int (M 6 2), .int (M 6 3), .int (M 6 4)])),
  (ad 7, .inr (0, [.ref (ad 8), .ref (ad 9), .int (M 7 2)])),
  (ad 8, .inl (cy 8, 256, .inl (M 8))),
  (ad 9, .inl (cy 9, 256, .inl (M 9))),
  (ad 10, .inr (2, [.ref (ad 11)])),
  (ad 11, .inl (cy 11, 16, .inl (M 11))),
  (ad 12, .inr (4, [.ref (ad 13)])),
  (ad 13, .inl (cy 13, 61, .inl (M 13))),
  (ad 14, .inr (5, [.int (M 14 0), .ref (ad 15), .ref (ad 16), .ref (ad 17), .ref (ad 18), .ref (ad 19), .ref (ad 20), .int (M 14 7), .int (M 14 8), .int (M 14 9), .int (M 14 10), .int (M 14 11), .int (M 14 12)])),
  (ad 15, .inl (cy 15, 8, .inl (M 15))),
  (ad 16, .inl (cy 16, 8, .inl (M 16))),
  (ad 17, .inl (cy 17, 8, .inl (M 17))),
  (ad 18, .inl (cy 18, 8, .inl (M 18))),
  (ad 19, .inl (cy 19, 8, .inl (M 19))),
  (ad 20, .inl (cy 20, 6, .inl (M 20))),
  (ad 21, .inr (5, [.int (M 21 0), .ref (ad 22), .ref (ad 23), .ref (ad 24), .ref (ad 25), .ref (ad 26), .ref (ad 27), .int (M 21 7), .int (M 21 8), .int (M 21 9), .int (M 21 10), .int (M 21 11), .int (M 21 12)])),
  (ad 22, .inl (cy 22, 8, .inl (M 22))),
  (ad 23, .inl (cy 23, 8, .inl (M 23))),
  (ad 24, .inl (cy 24, 8, .inl (M 24))),
  (ad 25, .inl (cy 25, 8, .inl (M 25))),
  (ad 26, .inl (cy 26, 8, .inl (M 26))),
  (ad 27, .inl (cy 27, 6, .inl (M 27))),
  (ad 28, .inr (5, [.int (M 28 0), .ref (ad 29), .ref (ad 30), .ref (ad 31), .ref (ad 32), .ref (ad 33), .ref (ad 34), .int (M 28 7), .int (M 28 8), .int (M 28 9), .int (M 28 10), .int (M 28 11), .int (M 28 12)])),
  (ad 29, .inl (cy 29, 8, .inl (M 29))),
  (ad 30, .inl (cy 30, 8, .inl (M 30))),
  (ad 31, .inl (cy 31, 8, .inl (M 31))),
  (ad 32, .inl (cy 32, 8, .inl (M 32))),
  (ad 33, .inl (cy 33, 8, .inl (M 33))),
  (ad 34, .inl (cy 34, 6, .inl (M 34))),
  (ad 35, .inr (5, [.int (M 35 0), .ref (ad 36), .ref (ad 37), .ref (ad 38), .ref (ad 39), .ref (ad 40), .ref (ad 41), .int (M 35 7), .int (M 35 8), .int (M 35 9), .int (M 35 10), .int (M 35 11), .int (M 35 12)])),
  (ad 36, .inl (cy 36, 8, .inl (M 36))),
  (ad 37, .inl (cy 37, 8, .inl (M 37))),
  (ad 38, .inl (cy 38, 8, .inl (M 38))),
  (ad 39, .inl (cy 39, 8, .inl (M 39))),
  (ad 40, .inl (cy 40, 8, .inl (M 40))),
  (ad 41, .inl (cy 41, 6, .inl (M 41))),
  (ad 42, .inr (7, [.int (M 42 0), .ref (ad 43), .ref (ad 44), .ref (ad 45), .ref (ad 46), .ref (ad 47), .ref (ad 48), .ref (ad 49), .ref (ad 50), .ref (ad 51), .ref (ad 52), .int (M 42 11), .ref (ad 53), .int (M 42 13), .ref (ad 54), .ref (ad 55), .int (M 42 16), .int (M 42 17), .int (M 42 18), .int (M 42 19), .ref (ad 56), .int (M 42 21), .int (M 42 22), .ref (ad 57), .ref (ad 58), .ref (ad 59), .ref (ad 60), .ref (ad 61), .ref (ad 62), .ref (ad 63), .ref (ad 64), .ref (ad 65), .ref (ad 66), .int (M 42 33), .int (M 42 34)])),
  (ad 43, .inl (cy 43, 8, .inl (M 43))),
  (ad 44, .inl (cy 44, 8, .inl (M 44))),
  (ad 45, .inl (cy 45, 8, .inl (M 45))),
  (ad 46, .inl (cy 46, 8, .inl (M 46))),
  (ad 47, .inl (cy 47, 8, .inl (M 47))),
  (ad 48, .inl (cy 48, 6, .inl (M 48))),
  (ad 49, .inl (cy 49, 6, .inl (M 49))),
  (ad 50, .inl (cy 50, 2, .inl (M 50))),
  (ad 51, .inl (cy 51, 8, .inl (M 51))),
  (ad 52, .inl (cy 52, 8, .inl (M 52))),
  (ad 53, .inl (cy 53, 60, .inl (M 53))),
  (ad 54, .inl (cy 54, 60, .inl (M 54))),
  (ad 55, .inl (cy 55, 60, .inl (M 55))),
  (ad 56, .inl (cy 56, 44, .inl (M 56))),
  (ad 57, .inl (cy 57, 2816, .inr (.inl (L 57)))),
  (ad 58, .inl (cy 58, 256, .inl (M 58))),
  (ad 59, .inl (cy 59, 64, .inl (M 59))),
  (ad 60, .inl (cy 60, 256, .inl (M 60))),
  (ad 61, .inl (cy 61, 256, .inl (M 61))),
  (ad 62, .inl (cy 62, 17, .inr (.inl (L 62)))),
  (ad 63, .inl (cy 63, 17, .inr (.inl (L 63)))),
  (ad 64, .inl (cy 64, 244, .inl (M 64))),
  (ad 65, .inl (cy 65, 180, .inl (M 65))),
  (ad 66, .inl (cy 66, 2, .inl (M 66)))]
/-- the classes of the arrays -/
def zT (cy : Nat → ClassId) : List (ClassId × FieldType) := [(cy 1, .object RX7), (cy 3, .int), (cy 4, .int), (cy 5, .int), (cy 8, .int), (cy 9, .int), (cy 11, .int), (cy 13, .int), (cy 15, .int), (cy 16, .int), (cy 17, .int), (cy 18, .int), (cy 19, .int), (cy 20, .int), (cy 22, .int), (cy 23, .int), (cy 24, .int), (cy 25, .int), (cy 26, .int), (cy 27, .int), (cy 29, .int), (cy 30, .int), (cy 31, .int), (cy 32, .int), (cy 33, .int), (cy 34, .int), (cy 36, .int), (cy 37, .int), (cy 38, .int), (cy 39, .int), (cy 40, .int), (cy 41, .int), (cy 43, .int), (cy 44, .int), (cy 45, .int), (cy 46, .int), (cy 47, .int), (cy 48, .int), (cy 49, .int), (cy 50, .int), (cy 51, .int), (cy 52, .int), (cy 53, .int), (cy 54, .int), (cy 55, .int), (cy 56, .int), (cy 57, .long), (cy 58, .int), (cy 59, .int), (cy 60, .int), (cy 61, .boolean), (cy 62, .long), (cy 63, .long), (cy 64, .int), (cy 65, .int), (cy 66, .boolean)]
theorem zW_len (cy : Nat → ClassId) (ad : Nat → Nat) (M : Mm) (L : Ml) : (zW cy ad M L).map Prod.fst = (List.range 67).map ad := rfl
theorem zW_at {cy : Nat → ClassId} {ad : Nat → Nat} {M : Mm} {L : Ml} {i : Nat} {q : Nat × va_E} (h : (zW cy ad M L)[i]? = some q) : i < 67 ∧ q.1 = ad i := by
  have h1 : ((zW cy ad M L).map Prod.fst)[i]? = some q.1 := by rw [List.getElem?_map, h]; rfl
  rw [zW_len, List.getElem?_map] at h1
  by_cases hi : i < 67
  · rw [List.getElem?_range hi] at h1
    exact ⟨hi, (Option.some.inj h1).symm⟩
  · rw [List.getElem?_eq_none (by simpa using Nat.le_of_not_lt hi)] at h1
    cases h1
def zInj (ad : Nat → Nat) : Prop := ∀ i j, i < 67 → j < 67 → ad i = ad j → i = j
theorem zD {cy : Nat → ClassId} {ad : Nat → Nat} {A : Nat → Prop} (hi : zInj ad) (hA : ∀ k, k < 67 → A (ad k)) (M : Mm) (L : Ml) : va_D A (zW cy ad M L) :=
  ⟨fun i j p q h1 h2 e => hi i j (zW_at h1).1 (zW_at h2).1 (by rw [← (zW_at h1).2, ← (zW_at h2).2]; exact e), fun k q h => by rw [(zW_at h).2]; exact hA k (zW_at h).1⟩
/-- a row of n ints at the cell k -/
def zRow (k n : Nat) : Prop := (∃ t0 : Nat, ∀ cy, (zT cy)[t0]? = some (cy k, .int)) ∧ ∀ cy ad M L, (zW cy ad M L)[k]? = some (ad k, .inl (cy k, n, .inl (M k))) ∧ ∀ f, (zW cy ad M L).set k (ad k, .inl (cy k, n, .inl f)) = zW cy ad (zr M k f) L
def zRowZ (k n : Nat) : Prop := (∃ t0 : Nat, ∀ cy, (zT cy)[t0]? = some (cy k, .boolean)) ∧ ∀ cy ad M L, (zW cy ad M L)[k]? = some (ad k, .inl (cy k, n, .inl (M k))) ∧ ∀ f, (zW cy ad M L).set k (ad k, .inl (cy k, n, .inl f)) = zW cy ad (zr M k f) L
def zRowJ (k n : Nat) : Prop := (∃ t0 : Nat, ∀ cy, (zT cy)[t0]? = some (cy k, .long)) ∧ ∀ cy ad M L, (zW cy ad M L)[k]? = some (ad k, .inl (cy k, n, .inr (.inl (L k)))) ∧ ∀ f, (zW cy ad M L).set k (ad k, .inl (cy k, n, .inr (.inl f))) = zW cy ad M (zrl L k f)
/-- the object at the cell k; its int j; its cell j -/
def zOb (ci k : Nat) : Prop := ∃ fs : (Nat → Nat) → Mm → List Value, ∀ cy ad M L, (zW cy ad M L)[k]? = some (ad k, .inr (ci, fs ad M))
def zFi (ci k j : Nat) : Prop := ∃ fs : (Nat → Nat) → Mm → List Value, ∀ cy ad M L, (zW cy ad M L)[k]? = some (ad k, .inr (ci, fs ad M)) ∧ (fs ad M)[j]? = some (.int (M k j)) ∧ ∀ v, (zW cy ad M L).set k (ad k, .inr (ci, (fs ad M).set j (.int v))) = zW cy ad (zs M k j v) L
def zFr (ci k j k2 : Nat) : Prop := ∃ fs : (Nat → Nat) → Mm → List Value, ∀ cy ad M L, (zW cy ad M L)[k]? = some (ad k, .inr (ci, fs ad M)) ∧ (fs ad M)[j]? = some (.ref (ad k2))
theorem zI_3 : zRow 3 60 := ⟨⟨1, fun _ => rfl⟩, fun _ _ _ _ => ⟨rfl, fun _ => rfl⟩⟩
theorem zI_4 : zRow 4 60 := ⟨⟨2, fun _ => rfl⟩, fun _ _ _ _ => ⟨rfl, fun _ => rfl⟩⟩
theorem zI_5 : zRow 5 60 := ⟨⟨3, fun _ => rfl⟩, fun _ _ _ _ => ⟨rfl, fun _ => rfl⟩⟩
theorem zI_8 : zRow 8 256 := ⟨⟨4, fun _ => rfl⟩, fun _ _ _ _ => ⟨rfl, fun _ => rfl⟩⟩
theorem zI_9 : zRow 9 256 := ⟨⟨5, fun _ => rfl⟩, fun _ _ _ _ => ⟨rfl, fun _ => rfl⟩⟩
theorem zI_11 : zRow 11 16 := ⟨⟨6, fun _ => rfl⟩, fun _ _ _ _ => ⟨rfl, fun _ => rfl⟩⟩
theorem zI_13 : zRow 13 61 := ⟨⟨7, fun _ => rfl⟩, fun _ _ _ _ => ⟨rfl, fun _ => rfl⟩⟩
theorem zI_43 : zRow 43 8 := ⟨⟨32, fun _ => rfl⟩, fun _ _ _ _ => ⟨rfl, fun _ => rfl⟩⟩
theorem zI_44 : zRow 44 8 := ⟨⟨33, fun _ => rfl⟩, fun _ _ _ _ => ⟨rfl, fun _ => rfl⟩⟩
theorem zI_45 : zRow 45 8 := ⟨⟨34, fun _ => rfl⟩, fun _ _ _ _ => ⟨rfl, fun _ => rfl⟩⟩
theorem zI_46 : zRow 46 8 := ⟨⟨35, fun _ => rfl⟩, fun _ _ _ _ => ⟨rfl, fun _ => rfl⟩⟩
theorem zI_47 : zRow 47 8 := ⟨⟨36, fun _ => rfl⟩, fun _ _ _ _ => ⟨rfl, fun _ => rfl⟩⟩
theorem zI_48 : zRow 48 6 := ⟨⟨37, fun _ => rfl⟩, fun _ _ _ _ => ⟨rfl, fun _ => rfl⟩⟩
theorem zI_49 : zRow 49 6 := ⟨⟨38, fun _ => rfl⟩, fun _ _ _ _ => ⟨rfl, fun _ => rfl⟩⟩
theorem zI_50 : zRow 50 2 := ⟨⟨39, fun _ => rfl⟩, fun _ _ _ _ => ⟨rfl, fun _ => rfl⟩⟩
theorem zI_51 : zRow 51 8 := ⟨⟨40, fun _ => rfl⟩, fun _ _ _ _ => ⟨rfl, fun _ => rfl⟩⟩
theorem zI_52 : zRow 52 8 := ⟨⟨41, fun _ => rfl⟩, fun _ _ _ _ => ⟨rfl, fun _ => rfl⟩⟩
theorem zI_53 : zRow 53 60 := ⟨⟨42, fun _ => rfl⟩, fun _ _ _ _ => ⟨rfl, fun _ => rfl⟩⟩
theorem zI_54 : zRow 54 60 := ⟨⟨43, fun _ => rfl⟩, fun _ _ _ _ => ⟨rfl, fun _ => rfl⟩⟩
theorem zI_55 : zRow 55 60 := ⟨⟨44, fun _ => rfl⟩, fun _ _ _ _ => ⟨rfl, fun _ => rfl⟩⟩
theorem zI_56 : zRow 56 44 := ⟨⟨45, fun _ => rfl⟩, fun _ _ _ _ => ⟨rfl, fun _ => rfl⟩⟩
theorem zI_57 : zRowJ 57 2816 := ⟨⟨46, fun _ => rfl⟩, fun _ _ _ _ => ⟨rfl, fun _ => rfl⟩⟩
theorem zI_58 : zRow 58 256 := ⟨⟨47, fun _ => rfl⟩, fun _ _ _ _ => ⟨rfl, fun _ => rfl⟩⟩
theorem zI_59 : zRow 59 64 := ⟨⟨48, fun _ => rfl⟩, fun _ _ _ _ => ⟨rfl, fun _ => rfl⟩⟩
theorem zI_60 : zRow 60 256 := ⟨⟨49, fun _ => rfl⟩, fun _ _ _ _ => ⟨rfl, fun _ => rfl⟩⟩
theorem zI_61 : zRowZ 61 256 := ⟨⟨50, fun _ => rfl⟩, fun _ _ _ _ => ⟨rfl, fun _ => rfl⟩⟩
theorem zI_62 : zRowJ 62 17 := ⟨⟨51, fun _ => rfl⟩, fun _ _ _ _ => ⟨rfl, fun _ => rfl⟩⟩
theorem zI_63 : zRowJ 63 17 := ⟨⟨52, fun _ => rfl⟩, fun _ _ _ _ => ⟨rfl, fun _ => rfl⟩⟩
theorem zI_64 : zRow 64 244 := ⟨⟨53, fun _ => rfl⟩, fun _ _ _ _ => ⟨rfl, fun _ => rfl⟩⟩
theorem zI_65 : zRow 65 180 := ⟨⟨54, fun _ => rfl⟩, fun _ _ _ _ => ⟨rfl, fun _ => rfl⟩⟩
theorem zI_66 : zRowZ 66 2 := ⟨⟨55, fun _ => rfl⟩, fun _ _ _ _ => ⟨rfl, fun _ => rfl⟩⟩
theorem zO_0 : zOb 6 0 := ⟨fun ad M => [.ref (ad 14), .ref (ad 1), .int (M 0 2), .ref (ad 2), .ref (ad 6), .ref (ad 7), .ref (ad 10), .ref (ad 12)], fun _ _ _ _ => rfl⟩
theorem zR_0_0 : zFr 6 0 0 14 := ⟨fun ad M => [.ref (ad 14), .ref (ad 1), .int (M 0 2), .ref (ad 2), .ref (ad 6), .ref (ad 7), .ref (ad 10), .ref (ad 12)], fun _ _ _ _ => ⟨rfl, rfl⟩⟩
theorem zR_0_1 : zFr 6 0 1 1 := ⟨fun ad M => [.ref (ad 14), .ref (ad 1), .int (M 0 2), .ref (ad 2), .ref (ad 6), .ref (ad 7), .ref (ad 10), .ref (ad 12)], fun _ _ _ _ => ⟨rfl, rfl⟩⟩
theorem zF_0_2 : zFi 6 0 2 := ⟨fun ad M => [.ref (ad 14), .ref (ad 1), .int (M 0 2), .ref (ad 2), .ref (ad 6), .ref (ad 7), .ref (ad 10), .ref (ad 12)], fun _ _ _ _ => ⟨rfl, rfl, fun _ => rfl⟩⟩
theorem zR_0_3 : zFr 6 0 3 2 := ⟨fun ad M => [.ref (ad 14), .ref (ad 1), .int (M 0 2), .ref (ad 2), .ref (ad 6), .ref (ad 7), .ref (ad 10), .ref (ad 12)], fun _ _ _ _ => ⟨rfl, rfl⟩⟩
theorem zR_0_4 : zFr 6 0 4 6 := ⟨fun ad M => [.ref (ad 14), .ref (ad 1), .int (M 0 2), .ref (ad 2), .ref (ad 6), .ref (ad 7), .ref (ad 10), .ref (ad 12)], fun _ _ _ _ => ⟨rfl, rfl⟩⟩
theorem zR_0_5 : zFr 6 0 5 7 := ⟨fun ad M => [.ref (ad 14), .ref (ad 1), .int (M 0 2), .ref (ad 2), .ref (ad 6), .ref (ad 7), .ref (ad 10), .ref (ad 12)], fun _ _ _ _ => ⟨rfl, rfl⟩⟩
theorem zR_0_6 : zFr 6 0 6 10 := ⟨fun ad M => [.ref (ad 14), .ref (ad 1), .int (M 0 2), .ref (ad 2), .ref (ad 6), .ref (ad 7), .ref (ad 10), .ref (ad 12)], fun _ _ _ _ => ⟨rfl, rfl⟩⟩
theorem zR_0_7 : zFr 6 0 7 12 := ⟨fun ad M => [.ref (ad 14), .ref (ad 1), .int (M 0 2), .ref (ad 2), .ref (ad 6), .ref (ad 7), .ref (ad 10), .ref (ad 12)], fun _ _ _ _ => ⟨rfl, rfl⟩⟩
theorem zO_2 : zOb 3 2 := ⟨fun ad M => [.ref (ad 3), .int (M 2 1), .ref (ad 4), .ref (ad 5), .int (M 2 4)], fun _ _ _ _ => rfl⟩
theorem zR_2_0 : zFr 3 2 0 3 := ⟨fun ad M => [.ref (ad 3), .int (M 2 1), .ref (ad 4), .ref (ad 5), .int (M 2 4)], fun _ _ _ _ => ⟨rfl, rfl⟩⟩
theorem zF_2_1 : zFi 3 2 1 := ⟨fun ad M => [.ref (ad 3), .int (M 2 1), .ref (ad 4), .ref (ad 5), .int (M 2 4)], fun _ _ _ _ => ⟨rfl, rfl, fun _ => rfl⟩⟩
theorem zR_2_2 : zFr 3 2 2 4 := ⟨fun ad M => [.ref (ad 3), .int (M 2 1), .ref (ad 4), .ref (ad 5), .int (M 2 4)], fun _ _ _ _ => ⟨rfl, rfl⟩⟩
theorem zR_2_3 : zFr 3 2 3 5 := ⟨fun ad M => [.ref (ad 3), .int (M 2 1), .ref (ad 4), .ref (ad 5), .int (M 2 4)], fun _ _ _ _ => ⟨rfl, rfl⟩⟩
theorem zF_2_4 : zFi 3 2 4 := ⟨fun ad M => [.ref (ad 3), .int (M 2 1), .ref (ad 4), .ref (ad 5), .int (M 2 4)], fun _ _ _ _ => ⟨rfl, rfl, fun _ => rfl⟩⟩
theorem zO_6 : zOb 1 6 := ⟨fun ad M => [.ref (ad 35), .int (M 6 1), .int (M 6 2), .int (M 6 3), .int (M 6 4)], fun _ _ _ _ => rfl⟩
theorem zR_6_0 : zFr 1 6 0 35 := ⟨fun ad M => [.ref (ad 35), .int (M 6 1), .int (M 6 2), .int (M 6 3), .int (M 6 4)], fun _ _ _ _ => ⟨rfl, rfl⟩⟩
theorem zF_6_1 : zFi 1 6 1 := ⟨fun ad M => [.ref (ad 35), .int (M 6 1), .int (M 6 2), .int (M 6 3), .int (M 6 4)], fun _ _ _ _ => ⟨rfl, rfl, fun _ => rfl⟩⟩
theorem zF_6_2 : zFi 1 6 2 := ⟨fun ad M => [.ref (ad 35), .int (M 6 1), .int (M 6 2), .int (M 6 3), .int (M 6 4)], fun _ _ _ _ => ⟨rfl, rfl, fun _ => rfl⟩⟩
theorem zF_6_3 : zFi 1 6 3 := ⟨fun ad M => [.ref (ad 35), .int (M 6 1), .int (M 6 2), .int (M 6 3), .int (M 6 4)], fun _ _ _ _ => ⟨rfl, rfl, fun _ => rfl⟩⟩
theorem zF_6_4 : zFi 1 6 4 := ⟨fun ad M => [.ref (ad 35), .int (M 6 1), .int (M 6 2), .int (M 6 3), .int (M 6 4)], fun _ _ _ _ => ⟨rfl, rfl, fun _ => rfl⟩⟩
theorem zO_7 : zOb 0 7 := ⟨fun ad M => [.ref (ad 8), .ref (ad 9), .int (M 7 2)], fun _ _ _ _ => rfl⟩
theorem zR_7_0 : zFr 0 7 0 8 := ⟨fun ad M => [.ref (ad 8), .ref (ad 9), .int (M 7 2)], fun _ _ _ _ => ⟨rfl, rfl⟩⟩
theorem zR_7_1 : zFr 0 7 1 9 := ⟨fun ad M => [.ref (ad 8), .ref (ad 9), .int (M 7 2)], fun _ _ _ _ => ⟨rfl, rfl⟩⟩
theorem zF_7_2 : zFi 0 7 2 := ⟨fun ad M => [.ref (ad 8), .ref (ad 9), .int (M 7 2)], fun _ _ _ _ => ⟨rfl, rfl, fun _ => rfl⟩⟩
theorem zO_10 : zOb 2 10 := ⟨fun ad M => [.ref (ad 11)], fun _ _ _ _ => rfl⟩
theorem zR_10_0 : zFr 2 10 0 11 := ⟨fun ad M => [.ref (ad 11)], fun _ _ _ _ => ⟨rfl, rfl⟩⟩
theorem zO_12 : zOb 4 12 := ⟨fun ad M => [.ref (ad 13)], fun _ _ _ _ => rfl⟩
theorem zR_12_0 : zFr 4 12 0 13 := ⟨fun ad M => [.ref (ad 13)], fun _ _ _ _ => ⟨rfl, rfl⟩⟩
theorem zO_42 : zOb 7 42 := ⟨fun ad M => [.int (M 42 0), .ref (ad 43), .ref (ad 44), .ref (ad 45), .ref (ad 46), .ref (ad 47), .ref (ad 48), .ref (ad 49), .ref (ad 50), .ref (ad 51), .ref (ad 52), .int (M 42 11), .ref (ad 53), .int (M 42 13), .ref (ad 54), .ref (ad 55), .int (M 42 16), .int (M 42 17), .int (M 42 18), .int (M 42 19), .ref (ad 56), .int (M 42 21), .int (M 42 22), .ref (ad 57), .ref (ad 58), .ref (ad 59), .ref (ad 60), .ref (ad 61), .ref (ad 62), .ref (ad 63), .ref (ad 64), .ref (ad 65), .ref (ad 66), .int (M 42 33), .int (M 42 34)], fun _ _ _ _ => rfl⟩
theorem zF_42_0 : zFi 7 42 0 := ⟨fun ad M => [.int (M 42 0), .ref (ad 43), .ref (ad 44), .ref (ad 45), .ref (ad 46), .ref (ad 47), .ref (ad 48), .ref (ad 49), .ref (ad 50), .ref (ad 51), .ref (ad 52), .int (M 42 11), .ref (ad 53), .int (M 42 13), .ref (ad 54), .ref (ad 55), .int (M 42 16), .int (M 42 17), .int (M 42 18), .int (M 42 19), .ref (ad 56), .int (M 42 21), .int (M 42 22), .ref (ad 57), .ref (ad 58), .ref (ad 59), .ref (ad 60), .ref (ad 61), .ref (ad 62), .ref (ad 63), .ref (ad 64), .ref (ad 65), .ref (ad 66), .int (M 42 33), .int (M 42 34)], fun _ _ _ _ => ⟨rfl, rfl, fun _ => rfl⟩⟩
theorem zR_42_1 : zFr 7 42 1 43 := ⟨fun ad M => [.int (M 42 0), .ref (ad 43), .ref (ad 44), .ref (ad 45), .ref (ad 46), .ref (ad 47), .ref (ad 48), .ref (ad 49), .ref (ad 50), .ref (ad 51), .ref (ad 52), .int (M 42 11), .ref (ad 53), .int (M 42 13), .ref (ad 54), .ref (ad 55), .int (M 42 16), .int (M 42 17), .int (M 42 18), .int (M 42 19), .ref (ad 56), .int (M 42 21), .int (M 42 22), .ref (ad 57), .ref (ad 58), .ref (ad 59), .ref (ad 60), .ref (ad 61), .ref (ad 62), .ref (ad 63), .ref (ad 64), .ref (ad 65), .ref (ad 66), .int (M 42 33), .int (M 42 34)], fun _ _ _ _ => ⟨rfl, rfl⟩⟩
theorem zR_42_2 : zFr 7 42 2 44 := ⟨fun ad M => [.int (M 42 0), .ref (ad 43), .ref (ad 44), .ref (ad 45), .ref (ad 46), .ref (ad 47), .ref (ad 48), .ref (ad 49), .ref (ad 50), .ref (ad 51), .ref (ad 52), .int (M 42 11), .ref (ad 53), .int (M 42 13), .ref (ad 54), .ref (ad 55), .int (M 42 16), .int (M 42 17), .int (M 42 18), .int (M 42 19), .ref (ad 56), .int (M 42 21), .int (M 42 22), .ref (ad 57), .ref (ad 58), .ref (ad 59), .ref (ad 60), .ref (ad 61), .ref (ad 62), .ref (ad 63), .ref (ad 64), .ref (ad 65), .ref (ad 66), .int (M 42 33), .int (M 42 34)], fun _ _ _ _ => ⟨rfl, rfl⟩⟩
theorem zR_42_3 : zFr 7 42 3 45 := ⟨fun ad M => [.int (M 42 0), .ref (ad 43), .ref (ad 44), .ref (ad 45), .ref (ad 46), .ref (ad 47), .ref (ad 48), .ref (ad 49), .ref (ad 50), .ref (ad 51), .ref (ad 52), .int (M 42 11), .ref (ad 53), .int (M 42 13), .ref (ad 54), .ref (ad 55), .int (M 42 16), .int (M 42 17), .int (M 42 18), .int (M 42 19), .ref (ad 56), .int (M 42 21), .int (M 42 22), .ref (ad 57), .ref (ad 58), .ref (ad 59), .ref (ad 60), .ref (ad 61), .ref (ad 62), .ref (ad 63), .ref (ad 64), .ref (ad 65), .ref (ad 66), .int (M 42 33), .int (M 42 34)], fun _ _ _ _ => ⟨rfl, rfl⟩⟩
theorem zR_42_4 : zFr 7 42 4 46 := ⟨fun ad M => [.int (M 42 0), .ref (ad 43), .ref (ad 44), .ref (ad 45), .ref (ad 46), .ref (ad 47), .ref (ad 48), .ref (ad 49), .ref (ad 50), .ref (ad 51), .ref (ad 52), .int (M 42 11), .ref (ad 53), .int (M 42 13), .ref (ad 54), .ref (ad 55), .int (M 42 16), .int (M 42 17), .int (M 42 18), .int (M 42 19), .ref (ad 56), .int (M 42 21), .int (M 42 22), .ref (ad 57), .ref (ad 58), .ref (ad 59), .ref (ad 60), .ref (ad 61), .ref (ad 62), .ref (ad 63), .ref (ad 64), .ref (ad 65), .ref (ad 66), .int (M 42 33), .int (M 42 34)], fun _ _ _ _ => ⟨rfl, rfl⟩⟩
theorem zR_42_5 : zFr 7 42 5 47 := ⟨fun ad M => [.int (M 42 0), .ref (ad 43), .ref (ad 44), .ref (ad 45), .ref (ad 46), .ref (ad 47), .ref (ad 48), .ref (ad 49), .ref (ad 50), .ref (ad 51), .ref (ad 52), .int (M 42 11), .ref (ad 53), .int (M 42 13), .ref (ad 54), .ref (ad 55), .int (M 42 16), .int (M 42 17), .int (M 42 18), .int (M 42 19), .ref (ad 56), .int (M 42 21), .int (M 42 22), .ref (ad 57), .ref (ad 58), .ref (ad 59), .ref (ad 60), .ref (ad 61), .ref (ad 62), .ref (ad 63), .ref (ad 64), .ref (ad 65), .ref (ad 66), .int (M 42 33), .int (M 42 34)], fun _ _ _ _ => ⟨rfl, rfl⟩⟩
theorem zR_42_6 : zFr 7 42 6 48 := ⟨fun ad M => [.int (M 42 0), .ref (ad 43), .ref (ad 44), .ref (ad 45), .ref (ad 46), .ref (ad 47), .ref (ad 48), .ref (ad 49), .ref (ad 50), .ref (ad 51), .ref (ad 52), .int (M 42 11), .ref (ad 53), .int (M 42 13), .ref (ad 54), .ref (ad 55), .int (M 42 16), .int (M 42 17), .int (M 42 18), .int (M 42 19), .ref (ad 56), .int (M 42 21), .int (M 42 22), .ref (ad 57), .ref (ad 58), .ref (ad 59), .ref (ad 60), .ref (ad 61), .ref (ad 62), .ref (ad 63), .ref (ad 64), .ref (ad 65), .ref (ad 66), .int (M 42 33), .int (M 42 34)], fun _ _ _ _ => ⟨rfl, rfl⟩⟩
theorem zR_42_7 : zFr 7 42 7 49 := ⟨fun ad M => [.int (M 42 0), .ref (ad 43), .ref (ad 44), .ref (ad 45), .ref (ad 46), .ref (ad 47), .ref (ad 48), .ref (ad 49), .ref (ad 50), .ref (ad 51), .ref (ad 52), .int (M 42 11), .ref (ad 53), .int (M 42 13), .ref (ad 54), .ref (ad 55), .int (M 42 16), .int (M 42 17), .int (M 42 18), .int (M 42 19), .ref (ad 56), .int (M 42 21), .int (M 42 22), .ref (ad 57), .ref (ad 58), .ref (ad 59), .ref (ad 60), .ref (ad 61), .ref (ad 62), .ref (ad 63), .ref (ad 64), .ref (ad 65), .ref (ad 66), .int (M 42 33), .int (M 42 34)], fun _ _ _ _ => ⟨rfl, rfl⟩⟩
theorem zR_42_8 : zFr 7 42 8 50 := ⟨fun ad M => [.int (M 42 0), .ref (ad 43), .ref (ad 44), .ref (ad 45), .ref (ad 46), .ref (ad 47), .ref (ad 48), .ref (ad 49), .ref (ad 50), .ref (ad 51), .ref (ad 52), .int (M 42 11), .ref (ad 53), .int (M 42 13), .ref (ad 54), .ref (ad 55), .int (M 42 16), .int (M 42 17), .int (M 42 18), .int (M 42 19), .ref (ad 56), .int (M 42 21), .int (M 42 22), .ref (ad 57), .ref (ad 58), .ref (ad 59), .ref (ad 60), .ref (ad 61), .ref (ad 62), .ref (ad 63), .ref (ad 64), .ref (ad 65), .ref (ad 66), .int (M 42 33), .int (M 42 34)], fun _ _ _ _ => ⟨rfl, rfl⟩⟩
theorem zR_42_9 : zFr 7 42 9 51 := ⟨fun ad M => [.int (M 42 0), .ref (ad 43), .ref (ad 44), .ref (ad 45), .ref (ad 46), .ref (ad 47), .ref (ad 48), .ref (ad 49), .ref (ad 50), .ref (ad 51), .ref (ad 52), .int (M 42 11), .ref (ad 53), .int (M 42 13), .ref (ad 54), .ref (ad 55), .int (M 42 16), .int (M 42 17), .int (M 42 18), .int (M 42 19), .ref (ad 56), .int (M 42 21), .int (M 42 22), .ref (ad 57), .ref (ad 58), .ref (ad 59), .ref (ad 60), .ref (ad 61), .ref (ad 62), .ref (ad 63), .ref (ad 64), .ref (ad 65), .ref (ad 66), .int (M 42 33), .int (M 42 34)], fun _ _ _ _ => ⟨rfl, rfl⟩⟩
theorem zR_42_10 : zFr 7 42 10 52 := ⟨fun ad M => [.int (M 42 0), .ref (ad 43), .ref (ad 44), .ref (ad 45), .ref (ad 46), .ref (ad 47), .ref (ad 48), .ref (ad 49), .ref (ad 50), .ref (ad 51), .ref (ad 52), .int (M 42 11), .ref (ad 53), .int (M 42 13), .ref (ad 54), .ref (ad 55), .int (M 42 16), .int (M 42 17), .int (M 42 18), .int (M 42 19), .ref (ad 56), .int (M 42 21), .int (M 42 22), .ref (ad 57), .ref (ad 58), .ref (ad 59), .ref (ad 60), .ref (ad 61), .ref (ad 62), .ref (ad 63), .ref (ad 64), .ref (ad 65), .ref (ad 66), .int (M 42 33), .int (M 42 34)], fun _ _ _ _ => ⟨rfl, rfl⟩⟩
theorem zF_42_11 : zFi 7 42 11 := ⟨fun ad M => [.int (M 42 0), .ref (ad 43), .ref (ad 44), .ref (ad 45), .ref (ad 46), .ref (ad 47), .ref (ad 48), .ref (ad 49), .ref (ad 50), .ref (ad 51), .ref (ad 52), .int (M 42 11), .ref (ad 53), .int (M 42 13), .ref (ad 54), .ref (ad 55), .int (M 42 16), .int (M 42 17), .int (M 42 18), .int (M 42 19), .ref (ad 56), .int (M 42 21), .int (M 42 22), .ref (ad 57), .ref (ad 58), .ref (ad 59), .ref (ad 60), .ref (ad 61), .ref (ad 62), .ref (ad 63), .ref (ad 64), .ref (ad 65), .ref (ad 66), .int (M 42 33), .int (M 42 34)], fun _ _ _ _ => ⟨rfl, rfl, fun _ => rfl⟩⟩
theorem zR_42_12 : zFr 7 42 12 53 := ⟨fun ad M => [.int (M 42 0), .ref (ad 43), .ref (ad 44), .ref (ad 45), .ref (ad 46), .ref (ad 47), .ref (ad 48), .ref (ad 49), .ref (ad 50), .ref (ad 51), .ref (ad 52), .int (M 42 11), .ref (ad 53), .int (M 42 13), .ref (ad 54), .ref (ad 55), .int (M 42 16), .int (M 42 17), .int (M 42 18), .int (M 42 19), .ref (ad 56), .int (M 42 21), .int (M 42 22), .ref (ad 57), .ref (ad 58), .ref (ad 59), .ref (ad 60), .ref (ad 61), .ref (ad 62), .ref (ad 63), .ref (ad 64), .ref (ad 65), .ref (ad 66), .int (M 42 33), .int (M 42 34)], fun _ _ _ _ => ⟨rfl, rfl⟩⟩
theorem zF_42_13 : zFi 7 42 13 := ⟨fun ad M => [.int (M 42 0), .ref (ad 43), .ref (ad 44), .ref (ad 45), .ref (ad 46), .ref (ad 47), .ref (ad 48), .ref (ad 49), .ref (ad 50), .ref (ad 51), .ref (ad 52), .int (M 42 11), .ref (ad 53), .int (M 42 13), .ref (ad 54), .ref (ad 55), .int (M 42 16), .int (M 42 17), .int (M 42 18), .int (M 42 19), .ref (ad 56), .int (M 42 21), .int (M 42 22), .ref (ad 57), .ref (ad 58), .ref (ad 59), .ref (ad 60), .ref (ad 61), .ref (ad 62), .ref (ad 63), .ref (ad 64), .ref (ad 65), .ref (ad 66), .int (M 42 33), .int (M 42 34)], fun _ _ _ _ => ⟨rfl, rfl, fun _ => rfl⟩⟩
theorem zR_42_14 : zFr 7 42 14 54 := ⟨fun ad M => [.int (M 42 0), .ref (ad 43), .ref (ad 44), .ref (ad 45), .ref (ad 46), .ref (ad 47), .ref (ad 48), .ref (ad 49), .ref (ad 50), .ref (ad 51), .ref (ad 52), .int (M 42 11), .ref (ad 53), .int (M 42 13), .ref (ad 54), .ref (ad 55), .int (M 42 16), .int (M 42 17), .int (M 42 18), .int (M 42 19), .ref (ad 56), .int (M 42 21), .int (M 42 22), .ref (ad 57), .ref (ad 58), .ref (ad 59), .ref (ad 60), .ref (ad 61), .ref (ad 62), .ref (ad 63), .ref (ad 64), .ref (ad 65), .ref (ad 66), .int (M 42 33), .int (M 42 34)], fun _ _ _ _ => ⟨rfl, rfl⟩⟩
theorem zR_42_15 : zFr 7 42 15 55 := ⟨fun ad M => [.int (M 42 0), .ref (ad 43), .ref (ad 44), .ref (ad 45), .ref (ad 46), .ref (ad 47), .ref (ad 48), .ref (ad 49), .ref (ad 50), .ref (ad 51), .ref (ad 52), .int (M 42 11), .ref (ad 53), .int (M 42 13), .ref (ad 54), .ref (ad 55), .int (M 42 16), .int (M 42 17), .int (M 42 18), .int (M 42 19), .ref (ad 56), .int (M 42 21), .int (M 42 22), .ref (ad 57), .ref (ad 58), .ref (ad 59), .ref (ad 60), .ref (ad 61), .ref (ad 62), .ref (ad 63), .ref (ad 64), .ref (ad 65), .ref (ad 66), .int (M 42 33), .int (M 42 34)], fun _ _ _ _ => ⟨rfl, rfl⟩⟩
theorem zF_42_16 : zFi 7 42 16 := ⟨fun ad M => [.int (M 42 0), .ref (ad 43), .ref (ad 44), .ref (ad 45), .ref (ad 46), .ref (ad 47), .ref (ad 48), .ref (ad 49), .ref (ad 50), .ref (ad 51), .ref (ad 52), .int (M 42 11), .ref (ad 53), .int (M 42 13), .ref (ad 54), .ref (ad 55), .int (M 42 16), .int (M 42 17), .int (M 42 18), .int (M 42 19), .ref (ad 56), .int (M 42 21), .int (M 42 22), .ref (ad 57), .ref (ad 58), .ref (ad 59), .ref (ad 60), .ref (ad 61), .ref (ad 62), .ref (ad 63), .ref (ad 64), .ref (ad 65), .ref (ad 66), .int (M 42 33), .int (M 42 34)], fun _ _ _ _ => ⟨rfl, rfl, fun _ => rfl⟩⟩
theorem zF_42_17 : zFi 7 42 17 := ⟨fun ad M => [.int (M 42 0), .ref (ad 43), .ref (ad 44), .ref (ad 45), .ref (ad 46), .ref (ad 47), .ref (ad 48), .ref (ad 49), .ref (ad 50), .ref (ad 51), .ref (ad 52), .int (M 42 11), .ref (ad 53), .int (M 42 13), .ref (ad 54), .ref (ad 55), .int (M 42 16), .int (M 42 17), .int (M 42 18), .int (M 42 19), .ref (ad 56), .int (M 42 21), .int (M 42 22), .ref (ad 57), .ref (ad 58), .ref (ad 59), .ref (ad 60), .ref (ad 61), .ref (ad 62), .ref (ad 63), .ref (ad 64), .ref (ad 65), .ref (ad 66), .int (M 42 33), .int (M 42 34)], fun _ _ _ _ => ⟨rfl, rfl, fun _ => rfl⟩⟩
theorem zF_42_18 : zFi 7 42 18 := ⟨fun ad M => [.int (M 42 0), .ref (ad 43), .ref (ad 44), .ref (ad 45), .ref (ad 46), .ref (ad 47), .ref (ad 48), .ref (ad 49), .ref (ad 50), .ref (ad 51), .ref (ad 52), .int (M 42 11), .ref (ad 53), .int (M 42 13), .ref (ad 54), .ref (ad 55), .int (M 42 16), .int (M 42 17), .int (M 42 18), .int (M 42 19), .ref (ad 56), .int (M 42 21), .int (M 42 22), .ref (ad 57), .ref (ad 58), .ref (ad 59), .ref (ad 60), .ref (ad 61), .ref (ad 62), .ref (ad 63), .ref (ad 64), .ref (ad 65), .ref (ad 66), .int (M 42 33), .int (M 42 34)], fun _ _ _ _ => ⟨rfl, rfl, fun _ => rfl⟩⟩
theorem zF_42_19 : zFi 7 42 19 := ⟨fun ad M => [.int (M 42 0), .ref (ad 43), .ref (ad 44), .ref (ad 45), .ref (ad 46), .ref (ad 47), .ref (ad 48), .ref (ad 49), .ref (ad 50), .ref (ad 51), .ref (ad 52), .int (M 42 11), .ref (ad 53), .int (M 42 13), .ref (ad 54), .ref (ad 55), .int (M 42 16), .int (M 42 17), .int (M 42 18), .int (M 42 19), .ref (ad 56), .int (M 42 21), .int (M 42 22), .ref (ad 57), .ref (ad 58), .ref (ad 59), .ref (ad 60), .ref (ad 61), .ref (ad 62), .ref (ad 63), .ref (ad 64), .ref (ad 65), .ref (ad 66), .int (M 42 33), .int (M 42 34)], fun _ _ _ _ => ⟨rfl, rfl, fun _ => rfl⟩⟩
theorem zR_42_20 : zFr 7 42 20 56 := ⟨fun ad M => [.int (M 42 0), .ref (ad 43), .ref (ad 44), .ref (ad 45), .ref (ad 46), .ref (ad 47), .ref (ad 48), .ref (ad 49), .ref (ad 50), .ref (ad 51), .ref (ad 52), .int (M 42 11), .ref (ad 53), .int (M 42 13), .ref (ad 54), .ref (ad 55), .int (M 42 16), .int (M 42 17), .int (M 42 18), .int (M 42 19), .ref (ad 56), .int (M 42 21), .int (M 42 22), .ref (ad 57), .ref (ad 58), .ref (ad 59), .ref (ad 60), .ref (ad 61), .ref (ad 62), .ref (ad 63), .ref (ad 64), .ref (ad 65), .ref (ad 66), .int (M 42 33), .int (M 42 34)], fun _ _ _ _ => ⟨rfl, rfl⟩⟩
theorem zF_42_21 : zFi 7 42 21 := ⟨fun ad M => [.int (M 42 0), .ref (ad 43), .ref (ad 44), .ref (ad 45), .ref (ad 46), .ref (ad 47), .ref (ad 48), .ref (ad 49), .ref (ad 50), .ref (ad 51), .ref (ad 52), .int (M 42 11), .ref (ad 53), .int (M 42 13), .ref (ad 54), .ref (ad 55), .int (M 42 16), .int (M 42 17), .int (M 42 18), .int (M 42 19), .ref (ad 56), .int (M 42 21), .int (M 42 22), .ref (ad 57), .ref (ad 58), .ref (ad 59), .ref (ad 60), .ref (ad 61), .ref (ad 62), .ref (ad 63), .ref (ad 64), .ref (ad 65), .ref (ad 66), .int (M 42 33), .int (M 42 34)], fun _ _ _ _ => ⟨rfl, rfl, fun _ => rfl⟩⟩
theorem zF_42_22 : zFi 7 42 22 := ⟨fun ad M => [.int (M 42 0), .ref (ad 43), .ref (ad 44), .ref (ad 45), .ref (ad 46), .ref (ad 47), .ref (ad 48), .ref (ad 49), .ref (ad 50), .ref (ad 51), .ref (ad 52), .int (M 42 11), .ref (ad 53), .int (M 42 13), .ref (ad 54), .ref (ad 55), .int (M 42 16), .int (M 42 17), .int (M 42 18), .int (M 42 19), .ref (ad 56), .int (M 42 21), .int (M 42 22), .ref (ad 57), .ref (ad 58), .ref (ad 59), .ref (ad 60), .ref (ad 61), .ref (ad 62), .ref (ad 63), .ref (ad 64), .ref (ad 65), .ref (ad 66), .int (M 42 33), .int (M 42 34)], fun _ _ _ _ => ⟨rfl, rfl, fun _ => rfl⟩⟩
theorem zR_42_23 : zFr 7 42 23 57 := ⟨fun ad M => [.int (M 42 0), .ref (ad 43), .ref (ad 44), .ref (ad 45), .ref (ad 46), .ref (ad 47), .ref (ad 48), .ref (ad 49), .ref (ad 50), .ref (ad 51), .ref (ad 52), .int (M 42 11), .ref (ad 53), .int (M 42 13), .ref (ad 54), .ref (ad 55), .int (M 42 16), .int (M 42 17), .int (M 42 18), .int (M 42 19), .ref (ad 56), .int (M 42 21), .int (M 42 22), .ref (ad 57), .ref (ad 58), .ref (ad 59), .ref (ad 60), .ref (ad 61), .ref (ad 62), .ref (ad 63), .ref (ad 64), .ref (ad 65), .ref (ad 66), .int (M 42 33), .int (M 42 34)], fun _ _ _ _ => ⟨rfl, rfl⟩⟩
theorem zR_42_24 : zFr 7 42 24 58 := ⟨fun ad M => [.int (M 42 0), .ref (ad 43), .ref (ad 44), .ref (ad 45), .ref (ad 46), .ref (ad 47), .ref (ad 48), .ref (ad 49), .ref (ad 50), .ref (ad 51), .ref (ad 52), .int (M 42 11), .ref (ad 53), .int (M 42 13), .ref (ad 54), .ref (ad 55), .int (M 42 16), .int (M 42 17), .int (M 42 18), .int (M 42 19), .ref (ad 56), .int (M 42 21), .int (M 42 22), .ref (ad 57), .ref (ad 58), .ref (ad 59), .ref (ad 60), .ref (ad 61), .ref (ad 62), .ref (ad 63), .ref (ad 64), .ref (ad 65), .ref (ad 66), .int (M 42 33), .int (M 42 34)], fun _ _ _ _ => ⟨rfl, rfl⟩⟩
theorem zR_42_25 : zFr 7 42 25 59 := ⟨fun ad M => [.int (M 42 0), .ref (ad 43), .ref (ad 44), .ref (ad 45), .ref (ad 46), .ref (ad 47), .ref (ad 48), .ref (ad 49), .ref (ad 50), .ref (ad 51), .ref (ad 52), .int (M 42 11), .ref (ad 53), .int (M 42 13), .ref (ad 54), .ref (ad 55), .int (M 42 16), .int (M 42 17), .int (M 42 18), .int (M 42 19), .ref (ad 56), .int (M 42 21), .int (M 42 22), .ref (ad 57), .ref (ad 58), .ref (ad 59), .ref (ad 60), .ref (ad 61), .ref (ad 62), .ref (ad 63), .ref (ad 64), .ref (ad 65), .ref (ad 66), .int (M 42 33), .int (M 42 34)], fun _ _ _ _ => ⟨rfl, rfl⟩⟩
theorem zR_42_26 : zFr 7 42 26 60 := ⟨fun ad M => [.int (M 42 0), .ref (ad 43), .ref (ad 44), .ref (ad 45), .ref (ad 46), .ref (ad 47), .ref (ad 48), .ref (ad 49), .ref (ad 50), .ref (ad 51), .ref (ad 52), .int (M 42 11), .ref (ad 53), .int (M 42 13), .ref (ad 54), .ref (ad 55), .int (M 42 16), .int (M 42 17), .int (M 42 18), .int (M 42 19), .ref (ad 56), .int (M 42 21), .int (M 42 22), .ref (ad 57), .ref (ad 58), .ref (ad 59), .ref (ad 60), .ref (ad 61), .ref (ad 62), .ref (ad 63), .ref (ad 64), .ref (ad 65), .ref (ad 66), .int (M 42 33), .int (M 42 34)], fun _ _ _ _ => ⟨rfl, rfl⟩⟩
theorem zR_42_27 : zFr 7 42 27 61 := ⟨fun ad M => [.int (M 42 0), .ref (ad 43), .ref (ad 44), .ref (ad 45), .ref (ad 46), .ref (ad 47), .ref (ad 48), .ref (ad 49), .ref (ad 50), .ref (ad 51), .ref (ad 52), .int (M 42 11), .ref (ad 53), .int (M 42 13), .ref (ad 54), .ref (ad 55), .int (M 42 16), .int (M 42 17), .int (M 42 18), .int (M 42 19), .ref (ad 56), .int (M 42 21), .int (M 42 22), .ref (ad 57), .ref (ad 58), .ref (ad 59), .ref (ad 60), .ref (ad 61), .ref (ad 62), .ref (ad 63), .ref (ad 64), .ref (ad 65), .ref (ad 66), .int (M 42 33), .int (M 42 34)], fun _ _ _ _ => ⟨rfl, rfl⟩⟩
theorem zR_42_28 : zFr 7 42 28 62 := ⟨fun ad M => [.int (M 42 0), .ref (ad 43), .ref (ad 44), .ref (ad 45), .ref (ad 46), .ref (ad 47), .ref (ad 48), .ref (ad 49), .ref (ad 50), .ref (ad 51), .ref (ad 52), .int (M 42 11), .ref (ad 53), .int (M 42 13), .ref (ad 54), .ref (ad 55), .int (M 42 16), .int (M 42 17), .int (M 42 18), .int (M 42 19), .ref (ad 56), .int (M 42 21), .int (M 42 22), .ref (ad 57), .ref (ad 58), .ref (ad 59), .ref (ad 60), .ref (ad 61), .ref (ad 62), .ref (ad 63), .ref (ad 64), .ref (ad 65), .ref (ad 66), .int (M 42 33), .int (M 42 34)], fun _ _ _ _ => ⟨rfl, rfl⟩⟩
theorem zR_42_29 : zFr 7 42 29 63 := ⟨fun ad M => [.int (M 42 0), .ref (ad 43), .ref (ad 44), .ref (ad 45), .ref (ad 46), .ref (ad 47), .ref (ad 48), .ref (ad 49), .ref (ad 50), .ref (ad 51), .ref (ad 52), .int (M 42 11), .ref (ad 53), .int (M 42 13), .ref (ad 54), .ref (ad 55), .int (M 42 16), .int (M 42 17), .int (M 42 18), .int (M 42 19), .ref (ad 56), .int (M 42 21), .int (M 42 22), .ref (ad 57), .ref (ad 58), .ref (ad 59), .ref (ad 60), .ref (ad 61), .ref (ad 62), .ref (ad 63), .ref (ad 64), .ref (ad 65), .ref (ad 66), .int (M 42 33), .int (M 42 34)], fun _ _ _ _ => ⟨rfl, rfl⟩⟩
theorem zR_42_30 : zFr 7 42 30 64 := ⟨fun ad M => [.int (M 42 0), .ref (ad 43), .ref (ad 44), .ref (ad 45), .ref (ad 46), .ref (ad 47), .ref (ad 48), .ref (ad 49), .ref (ad 50), .ref (ad 51), .ref (ad 52), .int (M 42 11), .ref (ad 53), .int (M 42 13), .ref (ad 54), .ref (ad 55), .int (M 42 16), .int (M 42 17), .int (M 42 18), .int (M 42 19), .ref (ad 56), .int (M 42 21), .int (M 42 22), .ref (ad 57), .ref (ad 58), .ref (ad 59), .ref (ad 60), .ref (ad 61), .ref (ad 62), .ref (ad 63), .ref (ad 64), .ref (ad 65), .ref (ad 66), .int (M 42 33), .int (M 42 34)], fun _ _ _ _ => ⟨rfl, rfl⟩⟩
theorem zR_42_31 : zFr 7 42 31 65 := ⟨fun ad M => [.int (M 42 0), .ref (ad 43), .ref (ad 44), .ref (ad 45), .ref (ad 46), .ref (ad 47), .ref (ad 48), .ref (ad 49), .ref (ad 50), .ref (ad 51), .ref (ad 52), .int (M 42 11), .ref (ad 53), .int (M 42 13), .ref (ad 54), .ref (ad 55), .int (M 42 16), .int (M 42 17), .int (M 42 18), .int (M 42 19), .ref (ad 56), .int (M 42 21), .int (M 42 22), .ref (ad 57), .ref (ad 58), .ref (ad 59), .ref (ad 60), .ref (ad 61), .ref (ad 62), .ref (ad 63), .ref (ad 64), .ref (ad 65), .ref (ad 66), .int (M 42 33), .int (M 42 34)], fun _ _ _ _ => ⟨rfl, rfl⟩⟩
theorem zR_42_32 : zFr 7 42 32 66 := ⟨fun ad M => [.int (M 42 0), .ref (ad 43), .ref (ad 44), .ref (ad 45), .ref (ad 46), .ref (ad 47), .ref (ad 48), .ref (ad 49), .ref (ad 50), .ref (ad 51), .ref (ad 52), .int (M 42 11), .ref (ad 53), .int (M 42 13), .ref (ad 54), .ref (ad 55), .int (M 42 16), .int (M 42 17), .int (M 42 18), .int (M 42 19), .ref (ad 56), .int (M 42 21), .int (M 42 22), .ref (ad 57), .ref (ad 58), .ref (ad 59), .ref (ad 60), .ref (ad 61), .ref (ad 62), .ref (ad 63), .ref (ad 64), .ref (ad 65), .ref (ad 66), .int (M 42 33), .int (M 42 34)], fun _ _ _ _ => ⟨rfl, rfl⟩⟩
theorem zF_42_33 : zFi 7 42 33 := ⟨fun ad M => [.int (M 42 0), .ref (ad 43), .ref (ad 44), .ref (ad 45), .ref (ad 46), .ref (ad 47), .ref (ad 48), .ref (ad 49), .ref (ad 50), .ref (ad 51), .ref (ad 52), .int (M 42 11), .ref (ad 53), .int (M 42 13), .ref (ad 54), .ref (ad 55), .int (M 42 16), .int (M 42 17), .int (M 42 18), .int (M 42 19), .ref (ad 56), .int (M 42 21), .int (M 42 22), .ref (ad 57), .ref (ad 58), .ref (ad 59), .ref (ad 60), .ref (ad 61), .ref (ad 62), .ref (ad 63), .ref (ad 64), .ref (ad 65), .ref (ad 66), .int (M 42 33), .int (M 42 34)], fun _ _ _ _ => ⟨rfl, rfl, fun _ => rfl⟩⟩
theorem zF_42_34 : zFi 7 42 34 := ⟨fun ad M => [.int (M 42 0), .ref (ad 43), .ref (ad 44), .ref (ad 45), .ref (ad 46), .ref (ad 47), .ref (ad 48), .ref (ad 49), .ref (ad 50), .ref (ad 51), .ref (ad 52), .int (M 42 11), .ref (ad 53), .int (M 42 13), .ref (ad 54), .ref (ad 55), .int (M 42 16), .int (M 42 17), .int (M 42 18), .int (M 42 19), .ref (ad 56), .int (M 42 21), .int (M 42 22), .ref (ad 57), .ref (ad 58), .ref (ad 59), .ref (ad 60), .ref (ad 61), .ref (ad 62), .ref (ad 63), .ref (ad 64), .ref (ad 65), .ref (ad 66), .int (M 42 33), .int (M 42 34)], fun _ _ _ _ => ⟨rfl, rfl, fun _ => rfl⟩⟩
theorem zIY_1 {b : Nat} (h : isY b) : zRow (b + 1) 8 := by
  rcases h with rfl | rfl | rfl | rfl
  · exact ⟨⟨8, fun _ => rfl⟩, fun _ _ _ _ => ⟨rfl, fun _ => rfl⟩⟩
  · exact ⟨⟨14, fun _ => rfl⟩, fun _ _ _ _ => ⟨rfl, fun _ => rfl⟩⟩
  · exact ⟨⟨20, fun _ => rfl⟩, fun _ _ _ _ => ⟨rfl, fun _ => rfl⟩⟩
  · exact ⟨⟨26, fun _ => rfl⟩, fun _ _ _ _ => ⟨rfl, fun _ => rfl⟩⟩
theorem zIY_2 {b : Nat} (h : isY b) : zRow (b + 2) 8 := by
  rcases h with rfl | rfl | rfl | rfl
  · exact ⟨⟨9, fun _ => rfl⟩, fun _ _ _ _ => ⟨rfl, fun _ => rfl⟩⟩
  · exact ⟨⟨15, fun _ => rfl⟩, fun _ _ _ _ => ⟨rfl, fun _ => rfl⟩⟩
  · exact ⟨⟨21, fun _ => rfl⟩, fun _ _ _ _ => ⟨rfl, fun _ => rfl⟩⟩
  · exact ⟨⟨27, fun _ => rfl⟩, fun _ _ _ _ => ⟨rfl, fun _ => rfl⟩⟩
theorem zIY_3 {b : Nat} (h : isY b) : zRow (b + 3) 8 := by
  rcases h with rfl | rfl | rfl | rfl
  · exact ⟨⟨10, fun _ => rfl⟩, fun _ _ _ _ => ⟨rfl, fun _ => rfl⟩⟩
  · exact ⟨⟨16, fun _ => rfl⟩, fun _ _ _ _ => ⟨rfl, fun _ => rfl⟩⟩
  · exact ⟨⟨22, fun _ => rfl⟩, fun _ _ _ _ => ⟨rfl, fun _ => rfl⟩⟩
  · exact ⟨⟨28, fun _ => rfl⟩, fun _ _ _ _ => ⟨rfl, fun _ => rfl⟩⟩
theorem zIY_4 {b : Nat} (h : isY b) : zRow (b + 4) 8 := by
  rcases h with rfl | rfl | rfl | rfl
  · exact ⟨⟨11, fun _ => rfl⟩, fun _ _ _ _ => ⟨rfl, fun _ => rfl⟩⟩
  · exact ⟨⟨17, fun _ => rfl⟩, fun _ _ _ _ => ⟨rfl, fun _ => rfl⟩⟩
  · exact ⟨⟨23, fun _ => rfl⟩, fun _ _ _ _ => ⟨rfl, fun _ => rfl⟩⟩
  · exact ⟨⟨29, fun _ => rfl⟩, fun _ _ _ _ => ⟨rfl, fun _ => rfl⟩⟩
theorem zIY_5 {b : Nat} (h : isY b) : zRow (b + 5) 8 := by
  rcases h with rfl | rfl | rfl | rfl
  · exact ⟨⟨12, fun _ => rfl⟩, fun _ _ _ _ => ⟨rfl, fun _ => rfl⟩⟩
  · exact ⟨⟨18, fun _ => rfl⟩, fun _ _ _ _ => ⟨rfl, fun _ => rfl⟩⟩
  · exact ⟨⟨24, fun _ => rfl⟩, fun _ _ _ _ => ⟨rfl, fun _ => rfl⟩⟩
  · exact ⟨⟨30, fun _ => rfl⟩, fun _ _ _ _ => ⟨rfl, fun _ => rfl⟩⟩
theorem zIY_6 {b : Nat} (h : isY b) : zRow (b + 6) 6 := by
  rcases h with rfl | rfl | rfl | rfl
  · exact ⟨⟨13, fun _ => rfl⟩, fun _ _ _ _ => ⟨rfl, fun _ => rfl⟩⟩
  · exact ⟨⟨19, fun _ => rfl⟩, fun _ _ _ _ => ⟨rfl, fun _ => rfl⟩⟩
  · exact ⟨⟨25, fun _ => rfl⟩, fun _ _ _ _ => ⟨rfl, fun _ => rfl⟩⟩
  · exact ⟨⟨31, fun _ => rfl⟩, fun _ _ _ _ => ⟨rfl, fun _ => rfl⟩⟩
theorem zOY {b : Nat} (h : isY b) : zOb 5 b := by
  rcases h with rfl | rfl | rfl | rfl
  · exact ⟨fun ad M => [.int (M 14 0), .ref (ad 15), .ref (ad 16), .ref (ad 17), .ref (ad 18), .ref (ad 19), .ref (ad 20), .int (M 14 7), .int (M 14 8), .int (M 14 9), .int (M 14 10), .int (M 14 11), .int (M 14 12)], fun _ _ _ _ => rfl⟩
  · exact ⟨fun ad M => [.int (M 21 0), .ref (ad 22), .ref (ad 23), .ref (ad 24), .ref (ad 25), .ref (ad 26), .ref (ad 27), .int (M 21 7), .int (M 21 8), .int (M 21 9), .int (M 21 10), .int (M 21 11), .int (M 21 12)], fun _ _ _ _ => rfl⟩
  · exact ⟨fun ad M => [.int (M 28 0), .ref (ad 29), .ref (ad 30), .ref (ad 31), .ref (ad 32), .ref (ad 33), .ref (ad 34), .int (M 28 7), .int (M 28 8), .int (M 28 9), .int (M 28 10), .int (M 28 11), .int (M 28 12)], fun _ _ _ _ => rfl⟩
  · exact ⟨fun ad M => [.int (M 35 0), .ref (ad 36), .ref (ad 37), .ref (ad 38), .ref (ad 39), .ref (ad 40), .ref (ad 41), .int (M 35 7), .int (M 35 8), .int (M 35 9), .int (M 35 10), .int (M 35 11), .int (M 35 12)], fun _ _ _ _ => rfl⟩
theorem zFY_0 {b : Nat} (h : isY b) : zFi 5 b 0 := by
  rcases h with rfl | rfl | rfl | rfl
  · exact ⟨fun ad M => [.int (M 14 0), .ref (ad 15), .ref (ad 16), .ref (ad 17), .ref (ad 18), .ref (ad 19), .ref (ad 20), .int (M 14 7), .int (M 14 8), .int (M 14 9), .int (M 14 10), .int (M 14 11), .int (M 14 12)], fun _ _ _ _ => ⟨rfl, rfl, fun _ => rfl⟩⟩
  · exact ⟨fun ad M => [.int (M 21 0), .ref (ad 22), .ref (ad 23), .ref (ad 24), .ref (ad 25), .ref (ad 26), .ref (ad 27), .int (M 21 7), .int (M 21 8), .int (M 21 9), .int (M 21 10), .int (M 21 11), .int (M 21 12)], fun _ _ _ _ => ⟨rfl, rfl, fun _ => rfl⟩⟩
  · exact ⟨fun ad M => [.int (M 28 0), .ref (ad 29), .ref (ad 30), .ref (ad 31), .ref (ad 32), .ref (ad 33), .ref (ad 34), .int (M 28 7), .int (M 28 8), .int (M 28 9), .int (M 28 10), .int (M 28 11), .int (M 28 12)], fun _ _ _ _ => ⟨rfl, rfl, fun _ => rfl⟩⟩
  · exact ⟨fun ad M => [.int (M 35 0), .ref (ad 36), .ref (ad 37), .ref (ad 38), .ref (ad 39), .ref (ad 40), .ref (ad 41), .int (M 35 7), .int (M 35 8), .int (M 35 9), .int (M 35 10), .int (M 35 11), .int (M 35 12)], fun _ _ _ _ => ⟨rfl, rfl, fun _ => rfl⟩⟩
theorem zRY_1 {b : Nat} (h : isY b) : zFr 5 b 1 (b + 1) := by
  rcases h with rfl | rfl | rfl | rfl
  · exact ⟨fun ad M => [.int (M 14 0), .ref (ad 15), .ref (ad 16), .ref (ad 17), .ref (ad 18), .ref (ad 19), .ref (ad 20), .int (M 14 7), .int (M 14 8), .int (M 14 9), .int (M 14 10), .int (M 14 11), .int (M 14 12)], fun _ _ _ _ => ⟨rfl, rfl⟩⟩
  · exact ⟨fun ad M => [.int (M 21 0), .ref (ad 22), .ref (ad 23), .ref (ad 24), .ref (ad 25), .ref (ad 26), .ref (ad 27), .int (M 21 7), .int (M 21 8), .int (M 21 9), .int (M 21 10), .int (M 21 11), .int (M 21 12)], fun _ _ _ _ => ⟨rfl, rfl⟩⟩
  · exact ⟨fun ad M => [.int (M 28 0), .ref (ad 29), .ref (ad 30), .ref (ad 31), .ref (ad 32), .ref (ad 33), .ref (ad 34), .int (M 28 7), .int (M 28 8), .int (M 28 9), .int (M 28 10), .int (M 28 11), .int (M 28 12)], fun _ _ _ _ => ⟨rfl, rfl⟩⟩
  · exact ⟨fun ad M => [.int (M 35 0), .ref (ad 36), .ref (ad 37), .ref (ad 38), .ref (ad 39), .ref (ad 40), .ref (ad 41), .int (M 35 7), .int (M 35 8), .int (M 35 9), .int (M 35 10), .int (M 35 11), .int (M 35 12)], fun _ _ _ _ => ⟨rfl, rfl⟩⟩
theorem zRY_2 {b : Nat} (h : isY b) : zFr 5 b 2 (b + 2) := by
  rcases h with rfl | rfl | rfl | rfl
  · exact ⟨fun ad M => [.int (M 14 0), .ref (ad 15), .ref (ad 16), .ref (ad 17), .ref (ad 18), .ref (ad 19), .ref (ad 20), .int (M 14 7), .int (M 14 8), .int (M 14 9), .int (M 14 10), .int (M 14 11), .int (M 14 12)], fun _ _ _ _ => ⟨rfl, rfl⟩⟩
  · exact ⟨fun ad M => [.int (M 21 0), .ref (ad 22), .ref (ad 23), .ref (ad 24), .ref (ad 25), .ref (ad 26), .ref (ad 27), .int (M 21 7), .int (M 21 8), .int (M 21 9), .int (M 21 10), .int (M 21 11), .int (M 21 12)], fun _ _ _ _ => ⟨rfl, rfl⟩⟩
  · exact ⟨fun ad M => [.int (M 28 0), .ref (ad 29), .ref (ad 30), .ref (ad 31), .ref (ad 32), .ref (ad 33), .ref (ad 34), .int (M 28 7), .int (M 28 8), .int (M 28 9), .int (M 28 10), .int (M 28 11), .int (M 28 12)], fun _ _ _ _ => ⟨rfl, rfl⟩⟩
  · exact ⟨fun ad M => [.int (M 35 0), .ref (ad 36), .ref (ad 37), .ref (ad 38), .ref (ad 39), .ref (ad 40), .ref (ad 41), .int (M 35 7), .int (M 35 8), .int (M 35 9), .int (M 35 10), .int (M 35 11), .int (M 35 12)], fun _ _ _ _ => ⟨rfl, rfl⟩⟩
theorem zRY_3 {b : Nat} (h : isY b) : zFr 5 b 3 (b + 3) := by
  rcases h with rfl | rfl | rfl | rfl
  · exact ⟨fun ad M => [.int (M 14 0), .ref (ad 15), .ref (ad 16), .ref (ad 17), .ref (ad 18), .ref (ad 19), .ref (ad 20), .int (M 14 7), .int (M 14 8), .int (M 14 9), .int (M 14 10), .int (M 14 11), .int (M 14 12)], fun _ _ _ _ => ⟨rfl, rfl⟩⟩
  · exact ⟨fun ad M => [.int (M 21 0), .ref (ad 22), .ref (ad 23), .ref (ad 24), .ref (ad 25), .ref (ad 26), .ref (ad 27), .int (M 21 7), .int (M 21 8), .int (M 21 9), .int (M 21 10), .int (M 21 11), .int (M 21 12)], fun _ _ _ _ => ⟨rfl, rfl⟩⟩
  · exact ⟨fun ad M => [.int (M 28 0), .ref (ad 29), .ref (ad 30), .ref (ad 31), .ref (ad 32), .ref (ad 33), .ref (ad 34), .int (M 28 7), .int (M 28 8), .int (M 28 9), .int (M 28 10), .int (M 28 11), .int (M 28 12)], fun _ _ _ _ => ⟨rfl, rfl⟩⟩
  · exact ⟨fun ad M => [.int (M 35 0), .ref (ad 36), .ref (ad 37), .ref (ad 38), .ref (ad 39), .ref (ad 40), .ref (ad 41), .int (M 35 7), .int (M 35 8), .int (M 35 9), .int (M 35 10), .int (M 35 11), .int (M 35 12)], fun _ _ _ _ => ⟨rfl, rfl⟩⟩
theorem zRY_4 {b : Nat} (h : isY b) : zFr 5 b 4 (b + 4) := by
  rcases h with rfl | rfl | rfl | rfl
  · exact ⟨fun ad M => [.int (M 14 0), .ref (ad 15), .ref (ad 16), .ref (ad 17), .ref (ad 18), .ref (ad 19), .ref (ad 20), .int (M 14 7), .int (M 14 8), .int (M 14 9), .int (M 14 10), .int (M 14 11), .int (M 14 12)], fun _ _ _ _ => ⟨rfl, rfl⟩⟩
  · exact ⟨fun ad M => [.int (M 21 0), .ref (ad 22), .ref (ad 23), .ref (ad 24), .ref (ad 25), .ref (ad 26), .ref (ad 27), .int (M 21 7), .int (M 21 8), .int (M 21 9), .int (M 21 10), .int (M 21 11), .int (M 21 12)], fun _ _ _ _ => ⟨rfl, rfl⟩⟩
  · exact ⟨fun ad M => [.int (M 28 0), .ref (ad 29), .ref (ad 30), .ref (ad 31), .ref (ad 32), .ref (ad 33), .ref (ad 34), .int (M 28 7), .int (M 28 8), .int (M 28 9), .int (M 28 10), .int (M 28 11), .int (M 28 12)], fun _ _ _ _ => ⟨rfl, rfl⟩⟩
  · exact ⟨fun ad M => [.int (M 35 0), .ref (ad 36), .ref (ad 37), .ref (ad 38), .ref (ad 39), .ref (ad 40), .ref (ad 41), .int (M 35 7), .int (M 35 8), .int (M 35 9), .int (M 35 10), .int (M 35 11), .int (M 35 12)], fun _ _ _ _ => ⟨rfl, rfl⟩⟩
theorem zRY_5 {b : Nat} (h : isY b) : zFr 5 b 5 (b + 5) := by
  rcases h with rfl | rfl | rfl | rfl
  · exact ⟨fun ad M => [.int (M 14 0), .ref (ad 15), .ref (ad 16), .ref (ad 17), .ref (ad 18), .ref (ad 19), .ref (ad 20), .int (M 14 7), .int (M 14 8), .int (M 14 9), .int (M 14 10), .int (M 14 11), .int (M 14 12)], fun _ _ _ _ => ⟨rfl, rfl⟩⟩
  · exact ⟨fun ad M => [.int (M 21 0), .ref (ad 22), .ref (ad 23), .ref (ad 24), .ref (ad 25), .ref (ad 26), .ref (ad 27), .int (M 21 7), .int (M 21 8), .int (M 21 9), .int (M 21 10), .int (M 21 11), .int (M 21 12)], fun _ _ _ _ => ⟨rfl, rfl⟩⟩
  · exact ⟨fun ad M => [.int (M 28 0), .ref (ad 29), .ref (ad 30), .ref (ad 31), .ref (ad 32), .ref (ad 33), .ref (ad 34), .int (M 28 7), .int (M 28 8), .int (M 28 9), .int (M 28 10), .int (M 28 11), .int (M 28 12)], fun _ _ _ _ => ⟨rfl, rfl⟩⟩
  · exact ⟨fun ad M => [.int (M 35 0), .ref (ad 36), .ref (ad 37), .ref (ad 38), .ref (ad 39), .ref (ad 40), .ref (ad 41), .int (M 35 7), .int (M 35 8), .int (M 35 9), .int (M 35 10), .int (M 35 11), .int (M 35 12)], fun _ _ _ _ => ⟨rfl, rfl⟩⟩
theorem zRY_6 {b : Nat} (h : isY b) : zFr 5 b 6 (b + 6) := by
  rcases h with rfl | rfl | rfl | rfl
  · exact ⟨fun ad M => [.int (M 14 0), .ref (ad 15), .ref (ad 16), .ref (ad 17), .ref (ad 18), .ref (ad 19), .ref (ad 20), .int (M 14 7), .int (M 14 8), .int (M 14 9), .int (M 14 10), .int (M 14 11), .int (M 14 12)], fun _ _ _ _ => ⟨rfl, rfl⟩⟩
  · exact ⟨fun ad M => [.int (M 21 0), .ref (ad 22), .ref (ad 23), .ref (ad 24), .ref (ad 25), .ref (ad 26), .ref (ad 27), .int (M 21 7), .int (M 21 8), .int (M 21 9), .int (M 21 10), .int (M 21 11), .int (M 21 12)], fun _ _ _ _ => ⟨rfl, rfl⟩⟩
  · exact ⟨fun ad M => [.int (M 28 0), .ref (ad 29), .ref (ad 30), .ref (ad 31), .ref (ad 32), .ref (ad 33), .ref (ad 34), .int (M 28 7), .int (M 28 8), .int (M 28 9), .int (M 28 10), .int (M 28 11), .int (M 28 12)], fun _ _ _ _ => ⟨rfl, rfl⟩⟩
  · exact ⟨fun ad M => [.int (M 35 0), .ref (ad 36), .ref (ad 37), .ref (ad 38), .ref (ad 39), .ref (ad 40), .ref (ad 41), .int (M 35 7), .int (M 35 8), .int (M 35 9), .int (M 35 10), .int (M 35 11), .int (M 35 12)], fun _ _ _ _ => ⟨rfl, rfl⟩⟩
theorem zFY_7 {b : Nat} (h : isY b) : zFi 5 b 7 := by
  rcases h with rfl | rfl | rfl | rfl
  · exact ⟨fun ad M => [.int (M 14 0), .ref (ad 15), .ref (ad 16), .ref (ad 17), .ref (ad 18), .ref (ad 19), .ref (ad 20), .int (M 14 7), .int (M 14 8), .int (M 14 9), .int (M 14 10), .int (M 14 11), .int (M 14 12)], fun _ _ _ _ => ⟨rfl, rfl, fun _ => rfl⟩⟩
  · exact ⟨fun ad M => [.int (M 21 0), .ref (ad 22), .ref (ad 23), .ref (ad 24), .ref (ad 25), .ref (ad 26), .ref (ad 27), .int (M 21 7), .int (M 21 8), .int (M 21 9), .int (M 21 10), .int (M 21 11), .int (M 21 12)], fun _ _ _ _ => ⟨rfl, rfl, fun _ => rfl⟩⟩
  · exact ⟨fun ad M => [.int (M 28 0), .ref (ad 29), .ref (ad 30), .ref (ad 31), .ref (ad 32), .ref (ad 33), .ref (ad 34), .int (M 28 7), .int (M 28 8), .int (M 28 9), .int (M 28 10), .int (M 28 11), .int (M 28 12)], fun _ _ _ _ => ⟨rfl, rfl, fun _ => rfl⟩⟩
  · exact ⟨fun ad M => [.int (M 35 0), .ref (ad 36), .ref (ad 37), .ref (ad 38), .ref (ad 39), .ref (ad 40), .ref (ad 41), .int (M 35 7), .int (M 35 8), .int (M 35 9), .int (M 35 10), .int (M 35 11), .int (M 35 12)], fun _ _ _ _ => ⟨rfl, rfl, fun _ => rfl⟩⟩
theorem zFY_8 {b : Nat} (h : isY b) : zFi 5 b 8 := by
  rcases h with rfl | rfl | rfl | rfl
  · exact ⟨fun ad M => [.int (M 14 0), .ref (ad 15), .ref (ad 16), .ref (ad 17), .ref (ad 18), .ref (ad 19), .ref (ad 20), .int (M 14 7), .int (M 14 8), .int (M 14 9), .int (M 14 10), .int (M 14 11), .int (M 14 12)], fun _ _ _ _ => ⟨rfl, rfl, fun _ => rfl⟩⟩
  · exact ⟨fun ad M => [.int (M 21 0), .ref (ad 22), .ref (ad 23), .ref (ad 24), .ref (ad 25), .ref (ad 26), .ref (ad 27), .int (M 21 7), .int (M 21 8), .int (M 21 9), .int (M 21 10), .int (M 21 11), .int (M 21 12)], fun _ _ _ _ => ⟨rfl, rfl, fun _ => rfl⟩⟩
  · exact ⟨fun ad M => [.int (M 28 0), .ref (ad 29), .ref (ad 30), .ref (ad 31), .ref (ad 32), .ref (ad 33), .ref (ad 34), .int (M 28 7), .int (M 28 8), .int (M 28 9), .int (M 28 10), .int (M 28 11), .int (M 28 12)], fun _ _ _ _ => ⟨rfl, rfl, fun _ => rfl⟩⟩
  · exact ⟨fun ad M => [.int (M 35 0), .ref (ad 36), .ref (ad 37), .ref (ad 38), .ref (ad 39), .ref (ad 40), .ref (ad 41), .int (M 35 7), .int (M 35 8), .int (M 35 9), .int (M 35 10), .int (M 35 11), .int (M 35 12)], fun _ _ _ _ => ⟨rfl, rfl, fun _ => rfl⟩⟩
theorem zFY_9 {b : Nat} (h : isY b) : zFi 5 b 9 := by
  rcases h with rfl | rfl | rfl | rfl
  · exact ⟨fun ad M => [.int (M 14 0), .ref (ad 15), .ref (ad 16), .ref (ad 17), .ref (ad 18), .ref (ad 19), .ref (ad 20), .int (M 14 7), .int (M 14 8), .int (M 14 9), .int (M 14 10), .int (M 14 11), .int (M 14 12)], fun _ _ _ _ => ⟨rfl, rfl, fun _ => rfl⟩⟩
  · exact ⟨fun ad M => [.int (M 21 0), .ref (ad 22), .ref (ad 23), .ref (ad 24), .ref (ad 25), .ref (ad 26), .ref (ad 27), .int (M 21 7), .int (M 21 8), .int (M 21 9), .int (M 21 10), .int (M 21 11), .int (M 21 12)], fun _ _ _ _ => ⟨rfl, rfl, fun _ => rfl⟩⟩
  · exact ⟨fun ad M => [.int (M 28 0), .ref (ad 29), .ref (ad 30), .ref (ad 31), .ref (ad 32), .ref (ad 33), .ref (ad 34), .int (M 28 7), .int (M 28 8), .int (M 28 9), .int (M 28 10), .int (M 28 11), .int (M 28 12)], fun _ _ _ _ => ⟨rfl, rfl, fun _ => rfl⟩⟩
  · exact ⟨fun ad M => [.int (M 35 0), .ref (ad 36), .ref (ad 37), .ref (ad 38), .ref (ad 39), .ref (ad 40), .ref (ad 41), .int (M 35 7), .int (M 35 8), .int (M 35 9), .int (M 35 10), .int (M 35 11), .int (M 35 12)], fun _ _ _ _ => ⟨rfl, rfl, fun _ => rfl⟩⟩
theorem zFY_10 {b : Nat} (h : isY b) : zFi 5 b 10 := by
  rcases h with rfl | rfl | rfl | rfl
  · exact ⟨fun ad M => [.int (M 14 0), .ref (ad 15), .ref (ad 16), .ref (ad 17), .ref (ad 18), .ref (ad 19), .ref (ad 20), .int (M 14 7), .int (M 14 8), .int (M 14 9), .int (M 14 10), .int (M 14 11), .int (M 14 12)], fun _ _ _ _ => ⟨rfl, rfl, fun _ => rfl⟩⟩
  · exact ⟨fun ad M => [.int (M 21 0), .ref (ad 22), .ref (ad 23), .ref (ad 24), .ref (ad 25), .ref (ad 26), .ref (ad 27), .int (M 21 7), .int (M 21 8), .int (M 21 9), .int (M 21 10), .int (M 21 11), .int (M 21 12)], fun _ _ _ _ => ⟨rfl, rfl, fun _ => rfl⟩⟩
  · exact ⟨fun ad M => [.int (M 28 0), .ref (ad 29), .ref (ad 30), .ref (ad 31), .ref (ad 32), .ref (ad 33), .ref (ad 34), .int (M 28 7), .int (M 28 8), .int (M 28 9), .int (M 28 10), .int (M 28 11), .int (M 28 12)], fun _ _ _ _ => ⟨rfl, rfl, fun _ => rfl⟩⟩
  · exact ⟨fun ad M => [.int (M 35 0), .ref (ad 36), .ref (ad 37), .ref (ad 38), .ref (ad 39), .ref (ad 40), .ref (ad 41), .int (M 35 7), .int (M 35 8), .int (M 35 9), .int (M 35 10), .int (M 35 11), .int (M 35 12)], fun _ _ _ _ => ⟨rfl, rfl, fun _ => rfl⟩⟩
theorem zFY_11 {b : Nat} (h : isY b) : zFi 5 b 11 := by
  rcases h with rfl | rfl | rfl | rfl
  · exact ⟨fun ad M => [.int (M 14 0), .ref (ad 15), .ref (ad 16), .ref (ad 17), .ref (ad 18), .ref (ad 19), .ref (ad 20), .int (M 14 7), .int (M 14 8), .int (M 14 9), .int (M 14 10), .int (M 14 11), .int (M 14 12)], fun _ _ _ _ => ⟨rfl, rfl, fun _ => rfl⟩⟩
  · exact ⟨fun ad M => [.int (M 21 0), .ref (ad 22), .ref (ad 23), .ref (ad 24), .ref (ad 25), .ref (ad 26), .ref (ad 27), .int (M 21 7), .int (M 21 8), .int (M 21 9), .int (M 21 10), .int (M 21 11), .int (M 21 12)], fun _ _ _ _ => ⟨rfl, rfl, fun _ => rfl⟩⟩
  · exact ⟨fun ad M => [.int (M 28 0), .ref (ad 29), .ref (ad 30), .ref (ad 31), .ref (ad 32), .ref (ad 33), .ref (ad 34), .int (M 28 7), .int (M 28 8), .int (M 28 9), .int (M 28 10), .int (M 28 11), .int (M 28 12)], fun _ _ _ _ => ⟨rfl, rfl, fun _ => rfl⟩⟩
  · exact ⟨fun ad M => [.int (M 35 0), .ref (ad 36), .ref (ad 37), .ref (ad 38), .ref (ad 39), .ref (ad 40), .ref (ad 41), .int (M 35 7), .int (M 35 8), .int (M 35 9), .int (M 35 10), .int (M 35 11), .int (M 35 12)], fun _ _ _ _ => ⟨rfl, rfl, fun _ => rfl⟩⟩
theorem zFY_12 {b : Nat} (h : isY b) : zFi 5 b 12 := by
  rcases h with rfl | rfl | rfl | rfl
  · exact ⟨fun ad M => [.int (M 14 0), .ref (ad 15), .ref (ad 16), .ref (ad 17), .ref (ad 18), .ref (ad 19), .ref (ad 20), .int (M 14 7), .int (M 14 8), .int (M 14 9), .int (M 14 10), .int (M 14 11), .int (M 14 12)], fun _ _ _ _ => ⟨rfl, rfl, fun _ => rfl⟩⟩
  · exact ⟨fun ad M => [.int (M 21 0), .ref (ad 22), .ref (ad 23), .ref (ad 24), .ref (ad 25), .ref (ad 26), .ref (ad 27), .int (M 21 7), .int (M 21 8), .int (M 21 9), .int (M 21 10), .int (M 21 11), .int (M 21 12)], fun _ _ _ _ => ⟨rfl, rfl, fun _ => rfl⟩⟩
  · exact ⟨fun ad M => [.int (M 28 0), .ref (ad 29), .ref (ad 30), .ref (ad 31), .ref (ad 32), .ref (ad 33), .ref (ad 34), .int (M 28 7), .int (M 28 8), .int (M 28 9), .int (M 28 10), .int (M 28 11), .int (M 28 12)], fun _ _ _ _ => ⟨rfl, rfl, fun _ => rfl⟩⟩
  · exact ⟨fun ad M => [.int (M 35 0), .ref (ad 36), .ref (ad 37), .ref (ad 38), .ref (ad 39), .ref (ad 40), .ref (ad 41), .int (M 35 7), .int (M 35 8), .int (M 35 9), .int (M 35 10), .int (M 35 11), .int (M 35 12)], fun _ _ _ _ => ⟨rfl, rfl, fun _ => rfl⟩⟩
end
section
/-! rows over the one world -/
/-- a class of the worlds -/
def zCl (ci : Nat) (C : String) (T : u_T) (N : Nat) : Prop := vwCl[ci]? = some (C, T, N) ∧ (∀ w ∈ u_ws C T N, w ∈ zG) ∧ ∃ ty : Nat → FieldType, (∀ k, k < N → parseFieldDescriptor (T k).2.2.1 = some (ty k)) ∧ ∀ a, a < N → ∀ b, b < N → a ≠ b → (T a).2.1 ≠ (T b).2.1
theorem zC0 : zCl 0 RX0 TX0 3 := ⟨rfl, zu_X0, tyX0, tyX0_ok, nmX0⟩
theorem zC1 : zCl 1 RX2 TX2 5 := ⟨rfl, zu_X2, tyX2, tyX2_ok, nmX2⟩
theorem zC2 : zCl 2 RX4 TX4 1 := ⟨rfl, zu_X4, tyX4, tyX4_ok, nmX4⟩
theorem zC3 : zCl 3 RX5 TX5 5 := ⟨rfl, zu_X5, tyX5, tyX5_ok, nmX5⟩
theorem zC4 : zCl 4 RX6 TX6 1 := ⟨rfl, zu_X6, tyX6, tyX6_ok, nmX6⟩
theorem zC5 : zCl 5 RX7 TX7 13 := ⟨rfl, zu_X7, tyX7, tyX7_ok, nmX7⟩
theorem zC6 : zCl 6 RX8 TX8 8 := ⟨rfl, zu_X8, tyX8, tyX8_ok, nmX8⟩
theorem zC7 : zCl 7 RX9 TX9 35 := ⟨rfl, zu_X9, tyX9, tyX9_ok, nmX9⟩
/-- what is free to a method: the system's cells, and what is new -/
def zA (ad : Nat → Nat) (sz : Nat) : Nat → Prop := fun q => (∃ k, k < 67 ∧ q = ad k) ∨ sz ≤ q
def zNs (ws : List Cond) (U : State) : Prop := ∀ w ∈ ws, va_Nw w U
/-- where a walk stands: the machine, the tables' words, the classes, the addresses -/
def zCx (p : Program) (R : Room) (s : State) (m : MethodId) (args : Array Value) (c : Code) (cells slots : Nat) (cc : ByteArray) (nL : Nat) (own : String) (D : va_G) (cy : Nat → ClassId) (ad : Nat → Nat) (A : Nat → Prop) : Prop :=
  CallFix p m c cc nL s args zG own ∧ va_K D vwCl (zT cy) s ∧ zNs zN s ∧ zInj ad ∧ (∀ q, s.heap.size ≤ q → A q) ∧ (∀ k, k < 67 → A (ad k)) ∧ cells ≤ R.cells ∧ slots ≤ R.slots
def zWd (D : va_G) (cy : Nat → ClassId) (ad : Nat → Nat) (A : Nat → Prop) (s : State) (H : Heap) (locs : List Loc) (M : Mm) (L : Ml) : Prop := va_P D vwCl (zW cy ad M L) H ∧ va_S A s.heap H locs
def zPre (D : va_G) (cy : Nat → ClassId) (ad : Nat → Nat) (sz : Nat) (M : Mm) (L : Ml) (h : Prop) (U : State) : Prop := U.heap.size = sz ∧ va_K D vwCl (zT cy) U ∧ zNs zN U ∧ va_P D vwCl (zW cy ad M L) U.heap ∧ h
def zAt (D : va_G) (cy : Nat → ClassId) (ad : Nat → Nat) (u : Mm × Ml) (t : State) : Prop := va_P D vwCl (zW cy ad u.1 u.2) t.heap
/-- the contract of a method over the one world: an int, a long, nothing -/
def zMi (l : Launch) (y : MethodName) (ws : List Cond) (rm : Room) (D : va_G) (cy : Nat → ClassId) (ad : Nat → Nat) (As : List Value) (wp : Mm → Ml → (Int32 → Mm → Ml → Prop) → Prop) : Prop := ∀ (sz : Nat) (M : Mm) (L : Ml) (post : Int32 → Mm → Ml → Prop), Met l y ws rm (va_Pc As (zPre D cy ad sz M L (wp M L post))) (va_Qi (fun (r : Int32) (u : Mm × Ml) => post r u.1 u.2) (zAt D cy ad) (zA ad sz)) 0 0 (zA ad sz)
def zMl (l : Launch) (y : MethodName) (ws : List Cond) (rm : Room) (D : va_G) (cy : Nat → ClassId) (ad : Nat → Nat) (As : List Value) (wp : Mm → Ml → (Int64 → Mm → Ml → Prop) → Prop) : Prop := ∀ (sz : Nat) (M : Mm) (L : Ml) (post : Int64 → Mm → Ml → Prop), Met l y ws rm (va_Pc As (zPre D cy ad sz M L (wp M L post))) (va_Ql (fun (r : Int64) (u : Mm × Ml) => post r u.1 u.2) (zAt D cy ad) (zA ad sz)) 0 0 (zA ad sz)
def zMv (l : Launch) (y : MethodName) (ws : List Cond) (rm : Room) (D : va_G) (cy : Nat → ClassId) (ad : Nat → Nat) (As : List Value) (wp : Mm → Ml → (Mm → Ml → Prop) → Prop) : Prop := ∀ (sz : Nat) (M : Mm) (L : Ml) (post : Mm → Ml → Prop), Met l y ws rm (va_Pc As (zPre D cy ad sz M L (wp M L post))) (va_Qv (fun (u : Mm × Ml) => post u.1 u.2) (zAt D cy ad) (zA ad sz)) 0 0 (zA ad sz)
/-- loops: what holds if the loop ends in n rounds at the most -/
def zlp {α : Type} (F : (α → Prop) → α → Prop) : Nat → α → Prop
  | 0 => fun _ => False
  | n + 1 => F (zlp F n)
theorem zlp_ok {α : Type} {F : (α → Prop) → α → Prop} (I : α → Prop) (μ : α → Nat) (h : ∀ (K : α → Prop) (s : α), I s → (∀ s', I s' → μ s' < μ s → K s') → F K s) {s : α} (hs : I s) : ∃ n, zlp F n s := by
  have key : ∀ (n : Nat) (s : α), I s → μ s < n → zlp F n s := by
    intro n
    induction n with
    | zero => intro s _ h2; exact absurd h2 (Nat.not_lt_zero _)
    | succ n ih => intro s h1 h2; exact h _ s h1 (fun s' h3 h4 => ih s' h3 (by omega))
  exact ⟨μ s + 1, key _ _ hs (Nat.lt_succ_self _)⟩
section ZR
variable {p : Program} {l : Launch} {e : Env} {R : Room} {s : State} {m : MethodId} {args : Array Value} {below : List Frame} {meth : Method} {c : Code} {cells slots : Nat} {Q : State → Prop} {cc : ByteArray} {nL : Nat} {own : String} {D : va_G} {cy : Nat → ClassId} {ad : Nat → Nat} {A : Nat → Prop}
variable {H : Heap} {locs : List Loc} {M : Mm} {L : Ml} {pc : Nat} {ls : Array Slot} {rest : List Value}
theorem zNs_moved {U : State} (hW : s.WarmedH U.vm) (h : zNs zN s) : zNs zN U := by
  intro w hw
  have h1 := h w hw
  rcases zN_nest w hw with ⟨a, i, b, n, d, g, rfl⟩ | ⟨a, i, x, g, rfl⟩
  · exact va_Nw.warmF hW h1
  · exact va_Nw.warmM hW h1
theorem z_getI {ci k j N index : Nat} {Cn ref : String} {T : u_T} (X : zCx p R s m args c cells slots cc nL own D cy ad A) (hW : zWd D cy ad A s H locs M L) (hC : zCl ci Cn T N) (hF : zFi ci k j) (hj : j < N) (hr : (T j).1 = ref) (hl : Cond.fieldLink own index ref (T j).2.1 (T j).2.2.1 ∈ zG) (hdg : decode cc pc = .ok (.getfield index, 3))
    (kk : W p l e R s m args below meth c H locs cells slots Q (F0 m (pc + 3) ls (.int (M k j) :: rest))) : W p l e R s m args below meth c H locs cells slots Q (F0 m pc ls (.ref (ad k) :: rest)) := by
  obtain ⟨fs, h1⟩ := hF
  obtain ⟨h2, h3, -⟩ := h1 cy ad M L
  exact va_get X.1.1 X.1.2.1 X.1.2.2.2.2 hC.2.1 X.1.2.2.2.1 X.2.1 hW.1 k h2 hC.1 j hj (X.1.2.2.2.2 _ hl) (fun x h => by rw [← hr]; exact h) h3 hdg kk
theorem z_getR {ci k j k2 N index : Nat} {Cn ref : String} {T : u_T} (X : zCx p R s m args c cells slots cc nL own D cy ad A) (hW : zWd D cy ad A s H locs M L) (hC : zCl ci Cn T N) (hF : zFr ci k j k2) (hj : j < N) (hr : (T j).1 = ref) (hl : Cond.fieldLink own index ref (T j).2.1 (T j).2.2.1 ∈ zG) (hdg : decode cc pc = .ok (.getfield index, 3))
    (kk : W p l e R s m args below meth c H locs cells slots Q (F0 m (pc + 3) ls (.ref (ad k2) :: rest))) : W p l e R s m args below meth c H locs cells slots Q (F0 m pc ls (.ref (ad k) :: rest)) := by
  obtain ⟨fs, h1⟩ := hF
  obtain ⟨h2, h3⟩ := h1 cy ad M L
  exact va_get X.1.1 X.1.2.1 X.1.2.2.2.2 hC.2.1 X.1.2.2.2.1 X.2.1 hW.1 k h2 hC.1 j hj (X.1.2.2.2.2 _ hl) (fun x h => by rw [← hr]; exact h) h3 hdg kk
theorem z_getIN {ci k j N index : Nat} {Cn ref host : String} {T : u_T} (X : zCx p R s m args c cells slots cc nL own D cy ad A) (hW : zWd D cy ad A s H locs M L) (hC : zCl ci Cn T N) (hF : zFi ci k j) (hj : j < N) (hr : (T j).1 = ref) (hl : Cond.fieldLinkNest own index ref (T j).2.1 (T j).2.2.1 host ∈ zN) (hdg : decode cc pc = .ok (.getfield index, 3))
    (kk : W p l e R s m args below meth c H locs cells slots Q (F0 m (pc + 3) ls (.int (M k j) :: rest))) : W p l e R s m args below meth c H locs cells slots Q (F0 m pc ls (.ref (ad k) :: rest)) := by
  obtain ⟨fs, h1⟩ := hF
  obtain ⟨h2, h3, -⟩ := h1 cy ad M L
  exact va_getN X.1.1 X.1.2.1 X.1.2.2.2.2 hC.2.1 X.1.2.2.2.1 X.2.1 hW.1 k h2 hC.1 j hj (va_Nw.use rfl (X.2.2.1 _ hl)) (fun x h => by rw [← hr]; exact h) h3 hdg kk
theorem z_getRN {ci k j k2 N index : Nat} {Cn ref host : String} {T : u_T} (X : zCx p R s m args c cells slots cc nL own D cy ad A) (hW : zWd D cy ad A s H locs M L) (hC : zCl ci Cn T N) (hF : zFr ci k j k2) (hj : j < N) (hr : (T j).1 = ref) (hl : Cond.fieldLinkNest own index ref (T j).2.1 (T j).2.2.1 host ∈ zN) (hdg : decode cc pc = .ok (.getfield index, 3))
    (kk : W p l e R s m args below meth c H locs cells slots Q (F0 m (pc + 3) ls (.ref (ad k2) :: rest))) : W p l e R s m args below meth c H locs cells slots Q (F0 m pc ls (.ref (ad k) :: rest)) := by
  obtain ⟨fs, h1⟩ := hF
  obtain ⟨h2, h3⟩ := h1 cy ad M L
  exact va_getN X.1.1 X.1.2.1 X.1.2.2.2.2 hC.2.1 X.1.2.2.2.1 X.2.1 hW.1 k h2 hC.1 j hj (va_Nw.use rfl (X.2.2.1 _ hl)) (fun x h => by rw [← hr]; exact h) h3 hdg kk
theorem z_put {ci k j N index : Nat} {Cn ref : String} {T : u_T} {v : Int32} {ty : FieldType} (X : zCx p R s m args c cells slots cc nL own D cy ad A) (hW : zWd D cy ad A s H locs M L) (hC : zCl ci Cn T N) (hF : zFi ci k j) (hj : j < N) (hr : (T j).1 = ref) (hl : Cond.fieldLink own index ref (T j).2.1 (T j).2.2.1 ∈ zG) (hfin : (T j).2.2.2 = false) (hd : parseFieldDescriptor (T j).2.2.1 = some ty) (hn : narrow ty (.int v) = .int v) (hfit : fits ty (.int v) = true) (hdg : decode cc pc = .ok (.putfield index, 3))
    (kk : ∀ (M1 : Mm) (H1 : Heap) (locs1 : List Loc), M1 = zs M k j v → zWd D cy ad A s H1 locs1 M1 L → W p l e R s m args below meth c H1 locs1 cells slots Q (F0 m (pc + 3) ls rest)) : W p l e R s m args below meth c H locs cells slots Q (F0 m pc ls (.int v :: .ref (ad k) :: rest)) := by
  obtain ⟨fs, h1⟩ := hF
  obtain ⟨h2, h3, h4⟩ := h1 cy ad M L
  obtain ⟨hC1, hC2, ty0, hC3, hC4⟩ := hC
  refine va_put X.1.1 X.1.2.1 X.1.2.2.2.2 hC2 ty0 hC3 hC4 X.1.2.2.2.1 X.2.1 hW.1 (zD X.2.2.2.1 X.2.2.2.2.2.1 M L) hW.2 k h2 hC1 j hj (X.1.2.2.2.2 _ hl) (fun x h => by rw [← hr]; exact h) hfin hd hn hfit (List.getElem?_eq_some_iff.mp h3).1 hdg (fun H1 locs1 g1 g2 g3 => kk _ H1 locs1 rfl ⟨?_, g3⟩)
  rw [h4] at g1
  exact g1
theorem z_putN {ci k j N index : Nat} {Cn ref host : String} {T : u_T} {v : Int32} {ty : FieldType} (X : zCx p R s m args c cells slots cc nL own D cy ad A) (hW : zWd D cy ad A s H locs M L) (hC : zCl ci Cn T N) (hF : zFi ci k j) (hj : j < N) (hr : (T j).1 = ref) (hl : Cond.fieldLinkNest own index ref (T j).2.1 (T j).2.2.1 host ∈ zN) (hfin : (T j).2.2.2 = false) (hd : parseFieldDescriptor (T j).2.2.1 = some ty) (hn : narrow ty (.int v) = .int v) (hfit : fits ty (.int v) = true) (hdg : decode cc pc = .ok (.putfield index, 3))
    (kk : ∀ (M1 : Mm) (H1 : Heap) (locs1 : List Loc), M1 = zs M k j v → zWd D cy ad A s H1 locs1 M1 L → W p l e R s m args below meth c H1 locs1 cells slots Q (F0 m (pc + 3) ls rest)) : W p l e R s m args below meth c H locs cells slots Q (F0 m pc ls (.int v :: .ref (ad k) :: rest)) := by
  obtain ⟨fs, h1⟩ := hF
  obtain ⟨h2, h3, h4⟩ := h1 cy ad M L
  obtain ⟨hC1, hC2, ty0, hC3, hC4⟩ := hC
  refine va_putN X.1.1 X.1.2.1 X.1.2.2.2.2 hC2 ty0 hC3 hC4 X.1.2.2.2.1 X.2.1 hW.1 (zD X.2.2.2.1 X.2.2.2.2.2.1 M L) hW.2 k h2 hC1 j hj (va_Nw.use rfl (X.2.2.1 _ hl)) (fun x h => by rw [← hr]; exact h) hfin hd hn hfit (List.getElem?_eq_some_iff.mp h3).1 hdg (fun H1 locs1 g1 g2 g3 => kk _ H1 locs1 rfl ⟨?_, g3⟩)
  rw [h4] at g1
  exact g1
theorem z_iald {k n : Nat} {i : Int32} (X : zCx p R s m args c cells slots cc nL own D cy ad A) (hW : zWd D cy ad A s H locs M L) (hR : zRow k n) (hin : vp_in i n) (hdg : decode cc pc = .ok (.iaload, 1))
    (kk : W p l e R s m args below meth c H locs cells slots Q (F0 m (pc + 1) ls (.int (M k i.toNatClampNeg) :: rest))) : W p l e R s m args below meth c H locs cells slots Q (F0 m pc ls (.int i :: .ref (ad k) :: rest)) := by
  obtain ⟨⟨t0, h1⟩, h2⟩ := hR
  exact va_iald X.1.1 X.1.2.1 X.2.1 hW.1 k t0 (h2 cy ad M L).1 (h1 cy) hin hdg kk
theorem z_zald {k n : Nat} {i : Int32} (X : zCx p R s m args c cells slots cc nL own D cy ad A) (hW : zWd D cy ad A s H locs M L) (hR : zRowZ k n) (hin : vp_in i n) (hdg : decode cc pc = .ok (.baload, 1))
    (kk : W p l e R s m args below meth c H locs cells slots Q (F0 m (pc + 1) ls (.int (M k i.toNatClampNeg) :: rest))) : W p l e R s m args below meth c H locs cells slots Q (F0 m pc ls (.int i :: .ref (ad k) :: rest)) := by
  obtain ⟨⟨t0, h1⟩, h2⟩ := hR
  exact va_zald X.1.1 X.1.2.1 X.2.1 hW.1 k t0 (h2 cy ad M L).1 (h1 cy) hin hdg kk
theorem z_lald {k n : Nat} {i : Int32} (X : zCx p R s m args c cells slots cc nL own D cy ad A) (hW : zWd D cy ad A s H locs M L) (hR : zRowJ k n) (hin : vp_in i n) (hdg : decode cc pc = .ok (.laload, 1))
    (kk : W p l e R s m args below meth c H locs cells slots Q (F0 m (pc + 1) ls (.long (L k i.toNatClampNeg) :: rest))) : W p l e R s m args below meth c H locs cells slots Q (F0 m pc ls (.int i :: .ref (ad k) :: rest)) := by
  obtain ⟨⟨t0, h1⟩, h2⟩ := hR
  exact va_lald X.1.1 X.1.2.1 X.2.1 hW.1 k t0 (h2 cy ad M L).1 (h1 cy) hin hdg kk
theorem z_iast {k n : Nat} {i x : Int32} (X : zCx p R s m args c cells slots cc nL own D cy ad A) (hW : zWd D cy ad A s H locs M L) (hR : zRow k n) (hin : vp_in i n) (hdg : decode cc pc = .ok (.iastore, 1))
    (kk : ∀ (M1 : Mm) (H1 : Heap) (locs1 : List Loc), M1 = zs M k i.toNatClampNeg x → zWd D cy ad A s H1 locs1 M1 L → W p l e R s m args below meth c H1 locs1 cells slots Q (F0 m (pc + 1) ls rest)) : W p l e R s m args below meth c H locs cells slots Q (F0 m pc ls (.int x :: .int i :: .ref (ad k) :: rest)) := by
  obtain ⟨⟨t0, h1⟩, h2⟩ := hR
  obtain ⟨h3, h4⟩ := h2 cy ad M L
  refine va_iast X.1.1 X.1.2.1 X.2.1 hW.1 (zD X.2.2.2.1 X.2.2.2.2.2.1 M L) hW.2 k t0 h3 (h1 cy) hin hdg (fun H1 locs1 g1 g2 g3 => kk _ H1 locs1 rfl ⟨?_, g3⟩)
  rw [h4] at g1
  exact g1
theorem z_zast {k n : Nat} {i x : Int32} (X : zCx p R s m args c cells slots cc nL own D cy ad A) (hW : zWd D cy ad A s H locs M L) (hR : zRowZ k n) (hin : vp_in i n) (hdg : decode cc pc = .ok (.bastore, 1))
    (kk : ∀ (M1 : Mm) (H1 : Heap) (locs1 : List Loc), M1 = zs M k i.toNatClampNeg (vp_nar .boolean x) → zWd D cy ad A s H1 locs1 M1 L → W p l e R s m args below meth c H1 locs1 cells slots Q (F0 m (pc + 1) ls rest)) : W p l e R s m args below meth c H locs cells slots Q (F0 m pc ls (.int x :: .int i :: .ref (ad k) :: rest)) := by
  obtain ⟨⟨t0, h1⟩, h2⟩ := hR
  obtain ⟨h3, h4⟩ := h2 cy ad M L
  refine va_zast X.1.1 X.1.2.1 X.2.1 hW.1 (zD X.2.2.2.1 X.2.2.2.2.2.1 M L) hW.2 k t0 h3 (h1 cy) hin hdg (fun H1 locs1 g1 g2 g3 => kk _ H1 locs1 rfl ⟨?_, g3⟩)
  rw [h4] at g1
  exact g1
theorem z_last {k n : Nat} {i : Int32} {x : Int64} (X : zCx p R s m args c cells slots cc nL own D cy ad A) (hW : zWd D cy ad A s H locs M L) (hR : zRowJ k n) (hin : vp_in i n) (hdg : decode cc pc = .ok (.lastore, 1))
    (kk : ∀ (L1 : Ml) (H1 : Heap) (locs1 : List Loc), L1 = zsl L k i.toNatClampNeg x → zWd D cy ad A s H1 locs1 M L1 → W p l e R s m args below meth c H1 locs1 cells slots Q (F0 m (pc + 1) ls rest)) : W p l e R s m args below meth c H locs cells slots Q (F0 m pc ls (.long x :: .int i :: .ref (ad k) :: rest)) := by
  obtain ⟨⟨t0, h1⟩, h2⟩ := hR
  obtain ⟨h3, h4⟩ := h2 cy ad M L
  refine va_last X.1.1 X.1.2.1 X.2.1 hW.1 (zD X.2.2.2.1 X.2.2.2.2.2.1 M L) hW.2 k t0 h3 (h1 cy) hin hdg (fun H1 locs1 g1 g2 g3 => kk _ H1 locs1 rfl ⟨?_, g3⟩)
  rw [h4] at g1
  exact g1
theorem z_alen {k n : Nat} (X : zCx p R s m args c cells slots cc nL own D cy ad A) (hW : zWd D cy ad A s H locs M L) (hR : zRow k n) (hdg : decode cc pc = .ok (.arraylength, 1))
    (kk : W p l e R s m args below meth c H locs cells slots Q (F0 m (pc + 1) ls (.int (Int32.ofNat n) :: rest))) : W p l e R s m args below meth c H locs cells slots Q (F0 m pc ls (.ref (ad k) :: rest)) := by
  obtain ⟨⟨t0, h1⟩, h2⟩ := hR
  exact va_alen X.1.1 X.1.2.1 X.2.1 hW.1 k t0 (h2 cy ad M L).1 (h1 cy) rfl hdg kk
theorem z_aald {i : Int32} (X : zCx p R s m args c cells slots cc nL own D cy ad A) (hW : zWd D cy ad A s H locs M L) (hin : vp_in i 2) (hdg : decode cc pc = .ok (.aaload, 1))
    (kk : W p l e R s m args below meth c H locs cells slots Q (F0 m (pc + 1) ls (.ref (ad (zY i.toNatClampNeg)) :: rest))) : W p l e R s m args below meth c H locs cells slots Q (F0 m pc ls (.int i :: .ref (ad 1) :: rest)) :=
  va_aldq X.1.1 X.1.2.1 X.2.1 hW.1 1 0 (f := fun j => some (ad (zY j))) rfl rfl hin hdg kk
/-- System.arraycopy of whole rows -/
theorem z_copy {k k1 n index : Nat} (X : zCx p R s m args c cells slots cc nL own D cy ad A) (hW : zWd D cy ad A s H locs M L) (hR : zRow k n) (hR1 : zRow k1 n) (hn : n < 2 ^ 31) {v : Int32} (hv : v = Int32.ofNat n) (hlink : Cond.methodLink own index arraycopyName ∈ zG) (hnat : Cond.native arraycopyName ∈ zG) (hstat : Cond.static arraycopyName ∈ zG) (hini : Cond.initialized "java/lang/System" ∈ zG) (hls : ls.size = nL) (hframes : 1 ≤ R.frames) (hlocals : (rest.map fun v => v.category).sum + (nativeFrameWords "java/lang/System" "arraycopy" 5 + 11) ≤ R.locals) (hdg : decode cc pc = .ok (.invokestatic index, 3))
    (kk : ∀ (M1 : Mm) (H1 : Heap) (locs1 : List Loc), M1 = zr M k1 (va_cpy (M k) (M k1) 0 0 n) → zWd D cy ad A s H1 locs1 M1 L → W p l e R s m args below meth c H1 locs1 cells slots Q (F0 m (pc + 3) ls rest)) : W p l e R s m args below meth c H locs cells slots Q (F0 m pc ls (.int v :: .int 0 :: .ref (ad k1) :: .int 0 :: .ref (ad k) :: rest)) := by
  subst hv
  obtain ⟨⟨t0, h1⟩, h2⟩ := hR
  obtain ⟨⟨t1, g1⟩, g2⟩ := hR1
  have e0 : (0 : Int32).toNatClampNeg = 0 := rfl
  have en : (Int32.ofNat n).toNatClampNeg = n := nI_clamp hn
  refine va_copyi X.1.1 X.1.2.1 (X.1.2.2.1.trans hls.symm) X.1.2.2.2.1 (X.1.2.2.2.2 _ hlink) (X.1.2.2.2.2 _ hnat) (X.1.2.2.2.2 _ hstat) (X.1.2.2.2.2 _ hini) X.2.1 hW.1 (zD X.2.2.2.1 X.2.2.2.2.2.1 M L) hW.2 k k1 t0 t1 (h2 cy ad M L).1 (g2 cy ad M L).1 (h1 cy) (g1 cy) rfl (by decide) (by decide) (nI_pos hn) (by rw [e0, en]; omega) (by rw [e0, en]; omega) (fun _ _ => rfl) hframes hlocals hdg (fun H1 locs1 q1 q2 q3 => kk _ H1 locs1 rfl ⟨?_, q3⟩)
  rw [(g2 cy ad M L).2, e0, en] at q1
  exact q1
end ZR
end
section
/-! calls over the one world, the start and the end of a method -/
section ZC
variable {p : Program} {l : Launch} {e : Env} {R : Room} {s : State} {m : MethodId} {args : Array Value} {below : List Frame} {meth : Method} {c : Code} {cells slots : Nat} {Q : State → Prop} {cc : ByteArray} {nL : Nat} {own : String} {D : va_G} {cy : Nat → ClassId} {ad : Nat → Nat} {A : Nat → Prop}
variable {H : Heap} {locs : List Loc} {M : Mm} {L : Ml} {pc : Nat} {ls : Array Slot} {rest st : List Value} {y : MethodName} {bytes : ByteArray} {maxL : Nat} {ret : Option FieldType} {rm : Room} {n index k : Nat} {As : List Value} {h : Prop} {Qc : Array Value → State → Outcome → State → Prop} {free : Addr → Prop}
theorem zNs_same {u U : State} (h : u.vm = U.vm) (hz : zNs zN u) : zNs zN U := by
  intro w hw
  have h1 := hz w hw
  rcases zN_nest w hw with ⟨a, i, b, n, d, g, rfl⟩ | ⟨a, i, x, g, rfl⟩
  · exact va_Nw.same rfl h h1
  · exact va_Nw.same rfl h h1
theorem z_preS (X : zCx p R s m args c cells slots cc nL own D cy ad A) (hW : zWd D cy ad A s H locs M L) (hh : h) : PreS s H (va_Pc As (zPre D cy ad H.size M L h)) As :=
  ⟨fun a U g mk q => by
    obtain ⟨q0, q1, qK, qN, qP, qh⟩ := q
    exact ⟨q0, q1, va_K.moved (u := U) (U := U.calling g mk a) (Vm.Alike.refl U.vm) qK, zNs_same (u := U) (U := U.calling g mk a) rfl qN, qP, qh⟩,
   fun U hU hWm => ⟨rfl, by rw [hU], va_K.moved hWm.alike X.2.1, zNs_moved hWm X.2.2.1, by rw [hU]; exact hW.1, hh⟩⟩
theorem z_preV {ci N : Nat} {C : String} {T : u_T} (X : zCx p R s m args c cells slots cc nL own D cy ad A) (hW : zWd D cy ad A s H locs M L) (hh : h) (hO : zOb ci k) (hC : zCl ci C T N) : PreV s H C (ad k) (va_Pc (.ref (ad k) :: As) (zPre D cy ad H.size M L h)) As := by
  obtain ⟨fs, h1⟩ := hO
  obtain ⟨g1, g2⟩ := z_preS (As := .ref (ad k) :: As) X hW hh
  exact ⟨g1, va_recv X.2.1 hW.1 hC.1 (h1 cy ad M L), g2⟩
theorem z_free (X : zCx p R s m args c cells slots cc nL own D cy ad A) (hW : zWd D cy ad A s H locs M L) : ∀ q, zA ad H.size q → A q := by
  intro q hq
  rcases hq with ⟨k, hk, rfl⟩ | hq
  · exact X.2.2.2.2.2.1 k hk
  · exact X.2.2.2.2.1 q (Nat.le_trans hW.2.1 hq)
theorem z_runS (X : zCx p R s m args c cells slots cc nL own D cy ad A) (hc : zCal y bytes maxL ret) (hst : Cond.static y ∈ zG) (hlk : Cond.methodLink own index y ∈ zG) (hn : (parseMethodDescriptor y.desc).map (fun d => d.parameters.length) = some n) (hrm : rm.cells = 0 ∧ rm.slots = 0) (hR : rm.frames + 1 ≤ R.frames ∧ 8 + (maxL + 11) + rm.locals ≤ R.locals) (hM : Met l y (.code y bytes maxL ret :: zG) rm (va_Pc As (zPre D cy ad H.size M L h)) Qc 0 0 free) (hW : zWd D cy ad A s H locs M L) (hh : h) (hls : ls.size = nL) (hAn : As.length = n) (hstk : st = As.reverse ++ rest) (hsum : (rest.map fun v => v.category).sum ≤ 8) (hdg : decode cc pc = .ok (.invokestatic index, 3)) :
    va_Run p l e R s m args below meth c H locs cells slots 0 0 (F0 m pc ls st) rest (Qc As.toArray) free :=
  va_runS X.1 hM ⟨callB_of n X.1.2.2.2.2 (z_good hc.1) rfl hrm.1 hrm.2 (X.1.2.2.2.2 _ hc.2.1) (X.1.2.2.2.2 _ hlk) ⟨hc.2.2.1, hc.2.2.2, hn⟩ hR, X.1.2.2.2.2 _ hst⟩ (z_preS X hW hh) rfl hAn hls hstk (lv_room hsum) hdg ⟨X.2.2.2.2.2.2.1, X.2.2.2.2.2.2.2⟩
theorem z_runV {ci N : Nat} {T : u_T} (X : zCx p R s m args c cells slots cc nL own D cy ad A) (hO : zOb ci k) (hC : zCl ci y.cls T N) (hc : zCal y bytes maxL ret) (hst : zSel y) (hlk : Cond.methodLink own index y ∈ zG) (hn : (parseMethodDescriptor y.desc).map (fun d => d.parameters.length) = some n) (hrm : rm.cells = 0 ∧ rm.slots = 0) (hR : rm.frames + 1 ≤ R.frames ∧ 8 + (maxL + 11) + rm.locals ≤ R.locals) (hM : Met l y (.code y bytes maxL ret :: zG) rm (va_Pc (.ref (ad k) :: As) (zPre D cy ad H.size M L h)) Qc 0 0 free) (hW : zWd D cy ad A s H locs M L) (hh : h) (hls : ls.size = nL) (hAn : As.length = n) (hstk : st = As.reverse ++ .ref (ad k) :: rest) (hsum : (rest.map fun v => v.category).sum ≤ 8) (hdg : decode cc pc = .ok (.invokevirtual index, 3)) :
    va_Run p l e R s m args below meth c H locs cells slots 0 0 (F0 m pc ls st) rest (Qc (Value.ref (ad k) :: As).toArray) free :=
  va_runV X.1 hM ⟨callB_of n X.1.2.2.2.2 (z_good hc.1) rfl hrm.1 hrm.2 (X.1.2.2.2.2 _ hc.2.1) (X.1.2.2.2.2 _ hlk) ⟨hc.2.2.1, hc.2.2.2, hn⟩ hR, X.1.2.2.2.2 _ hst.1, X.1.2.2.2.2 _ hst.2⟩ (z_preV X hW hh hO hC) rfl hAn hls hstk (lv_room hsum) hdg ⟨X.2.2.2.2.2.2.1, X.2.2.2.2.2.2.2⟩
theorem z_runSN {host : String} (X : zCx p R s m args c cells slots cc nL own D cy ad A) (hc : zCal y bytes maxL ret) (hst : Cond.static y ∈ zG) (hlk : Cond.methodLinkNest own index y host ∈ zN) (hn : (parseMethodDescriptor y.desc).map (fun d => d.parameters.length) = some n) (hrm : rm.cells = 0 ∧ rm.slots = 0) (hR : rm.frames + 1 ≤ R.frames ∧ 8 + (maxL + 11) + rm.locals ≤ R.locals) (hM : Met l y (.code y bytes maxL ret :: zG) rm (va_Pc As (zPre D cy ad H.size M L h)) Qc 0 0 free) (hW : zWd D cy ad A s H locs M L) (hh : h) (hls : ls.size = nL) (hAn : As.length = n) (hstk : st = As.reverse ++ rest) (hsum : (rest.map fun v => v.category).sum ≤ 8) (hdg : decode cc pc = .ok (.invokestatic index, 3)) :
    va_Run p l e R s m args below meth c H locs cells slots 0 0 (F0 m pc ls st) rest (Qc As.toArray) free :=
  va_runSN X.1 hM ⟨va_cnB n X.1.2.2.2.2 (z_good hc.1) rfl hrm.1 hrm.2 (X.2.2.1 _ hlk) (X.1.2.2.2.2 _ hc.2.1) ⟨hc.2.2.1, hc.2.2.2, hn⟩ hR, X.1.2.2.2.2 _ hst, trivial⟩ (z_preS X hW hh) rfl hAn hls hstk (lv_room hsum) hdg ⟨X.2.2.2.2.2.2.1, X.2.2.2.2.2.2.2⟩
theorem z_runVN {ci N : Nat} {T : u_T} {host : String} (X : zCx p R s m args c cells slots cc nL own D cy ad A) (hO : zOb ci k) (hC : zCl ci y.cls T N) (hc : zCal y bytes maxL ret) (hst : zSel y) (hlk : Cond.methodLinkNest own index y host ∈ zN) (hn : (parseMethodDescriptor y.desc).map (fun d => d.parameters.length) = some n) (hrm : rm.cells = 0 ∧ rm.slots = 0) (hR : rm.frames + 1 ≤ R.frames ∧ 8 + (maxL + 11) + rm.locals ≤ R.locals) (hM : Met l y (.code y bytes maxL ret :: zG) rm (va_Pc (.ref (ad k) :: As) (zPre D cy ad H.size M L h)) Qc 0 0 free) (hW : zWd D cy ad A s H locs M L) (hh : h) (hls : ls.size = nL) (hAn : As.length = n) (hstk : st = As.reverse ++ .ref (ad k) :: rest) (hsum : (rest.map fun v => v.category).sum ≤ 8) (hdg : decode cc pc = .ok (.invokevirtual index, 3)) :
    va_Run p l e R s m args below meth c H locs cells slots 0 0 (F0 m pc ls st) rest (Qc (Value.ref (ad k) :: As).toArray) free :=
  va_runVN X.1 hM ⟨va_cnB n X.1.2.2.2.2 (z_good hc.1) rfl hrm.1 hrm.2 (X.2.2.1 _ hlk) (X.1.2.2.2.2 _ hc.2.1) ⟨hc.2.2.1, hc.2.2.2, hn⟩ hR, X.1.2.2.2.2 _ hst.1, X.1.2.2.2.2 _ hst.2⟩ (z_preV X hW hh hO hC) rfl hAn hls hstk (lv_room hsum) hdg ⟨X.2.2.2.2.2.2.1, X.2.2.2.2.2.2.2⟩
theorem z_ri {a : Array Value} {post : Int32 → Mm → Ml → Prop} (hr : va_Run p l e R s m args below meth c H locs cells slots 0 0 (F0 m pc ls st) rest (va_Qi (fun (r : Int32) (u : Mm × Ml) => post r u.1 u.2) (zAt D cy ad) (zA ad H.size) a) (zA ad H.size)) (X : zCx p R s m args c cells slots cc nL own D cy ad A) (hW : zWd D cy ad A s H locs M L)
    (kk : ∀ (r : Int32) (M1 : Mm) (L1 : Ml) (H1 : Heap) (locs1 : List Loc), post r M1 L1 → zWd D cy ad A s H1 locs1 M1 L1 → W p l e R s m args below meth c H1 locs1 cells slots Q (F0 m (pc + 3) ls (.int r :: rest))) : W p l e R s m args below meth c H locs cells slots Q (F0 m pc ls st) :=
  va_calli hr hW.2 (fun q _ h => z_free X hW q h) (z_free X hW) (fun r u t H1 locs1 ht _ hp hB _ _ hS => kk r u.1 u.2 H1 locs1 hp ⟨by rw [← ht]; exact hB, hS⟩)
theorem z_rl {a : Array Value} {post : Int64 → Mm → Ml → Prop} (hr : va_Run p l e R s m args below meth c H locs cells slots 0 0 (F0 m pc ls st) rest (va_Ql (fun (r : Int64) (u : Mm × Ml) => post r u.1 u.2) (zAt D cy ad) (zA ad H.size) a) (zA ad H.size)) (X : zCx p R s m args c cells slots cc nL own D cy ad A) (hW : zWd D cy ad A s H locs M L)
    (kk : ∀ (r : Int64) (M1 : Mm) (L1 : Ml) (H1 : Heap) (locs1 : List Loc), post r M1 L1 → zWd D cy ad A s H1 locs1 M1 L1 → W p l e R s m args below meth c H1 locs1 cells slots Q (F0 m (pc + 3) ls (.long r :: rest))) : W p l e R s m args below meth c H locs cells slots Q (F0 m pc ls st) :=
  va_calll hr hW.2 (fun q _ h => z_free X hW q h) (z_free X hW) (fun r u t H1 locs1 ht _ hp hB _ _ hS => kk r u.1 u.2 H1 locs1 hp ⟨by rw [← ht]; exact hB, hS⟩)
theorem z_rv {a : Array Value} {post : Mm → Ml → Prop} (hr : va_Run p l e R s m args below meth c H locs cells slots 0 0 (F0 m pc ls st) rest (va_Qv (fun (u : Mm × Ml) => post u.1 u.2) (zAt D cy ad) (zA ad H.size) a) (zA ad H.size)) (X : zCx p R s m args c cells slots cc nL own D cy ad A) (hW : zWd D cy ad A s H locs M L)
    (kk : ∀ (M1 : Mm) (L1 : Ml) (H1 : Heap) (locs1 : List Loc), post M1 L1 → zWd D cy ad A s H1 locs1 M1 L1 → W p l e R s m args below meth c H1 locs1 cells slots Q (F0 m (pc + 3) ls rest)) : W p l e R s m args below meth c H locs cells slots Q (F0 m pc ls st) :=
  va_callv hr hW.2 (fun q _ h => z_free X hW q h) (z_free X hW) (fun u t H1 locs1 ht _ hp hB _ _ hS => kk u.1 u.2 H1 locs1 hp ⟨by rw [← ht]; exact hB, hS⟩)
end ZC
/-- a method that answers an int (or a boolean), out of its walk from the entry -/
theorem zMi_of {l : Launch} {D : va_G} {cy : Nat → ClassId} {ad : Nat → Nat} {y : MethodName} {cc : ByteArray} {maxL : Nat} {ty : FieldType} {rm : Room} {As : List Value} {wp : Mm → Ml → (Int32 → Mm → Ml → Prop) → Prop} (hy : plainName y.cls = true) (hlen : (lg_sl As).length ≤ maxL) (hi : zInj ad)
    (body : ∀ {p : Program} {e : Env} {s : State} {m : MethodId} {args : Array Value} {below : List Frame} {meth : Method} {c : Code} (_ : zCx p rm s m args c 0 0 cc maxL y.cls D cy ad (zA ad s.heap.size)) (M : Mm) (L : Ml) (post : Int32 → Mm → Ml → Prop) {Q : State → Prop} (_ : ∀ (pc : Nat) (ls : Array Slot) (H : Heap) (locs : List Loc) (r : Int32) (M1 : Mm) (L1 : Ml), decode cc pc = .ok (.ireturn, 1) → narrow ty (.int r) = .int r → post r M1 L1 → zWd D cy ad (zA ad s.heap.size) s H locs M1 L1 → W p l e rm s m args below meth c H locs 0 0 Q (F0 m pc ls [.int r])) (ls : Array Slot) (_ : lv_has ls maxL (lv_args 0 As)) (_ : wp M L post) (_ : zWd D cy ad (zA ad s.heap.size) s s.heap [] M L), W p l e rm s m args below meth c s.heap [] 0 0 Q (F0 m 0 ls [])) : zMi l y (.code y cc maxL (some ty) :: zG) rm D cy ad As wp := by
  intro sz M L post
  refine Met.ofW (cc := cc) (maxL := maxL) (ret := some ty) hy rfl ?_
  intro p e s m args below meth c s₁ B hml hv
  obtain ⟨rfl, hsz, hK, hN, hP, hw⟩ := hv
  subst hsz
  have hts := atoms_spec (ws := Cond.code y cc maxL (some ty) :: zG) B.pre
  have hown : s.vm.findClass y.cls = some m.cls := findClass_of_methodNamed B.named
  have X : zCx p rm s m As.toArray c 0 0 cc maxL y.cls D cy ad (zA ad s.heap.size) := ⟨⟨B.exec, B.bytes, hml, hown, fun w h => hts w (List.mem_cons_of_mem _ h)⟩, hK, hN, hi, fun q h => Or.inr h, fun k h => Or.inl ⟨k, h, rfl⟩, Nat.zero_le _, Nat.zero_le _⟩
  have hl := lv_entry As (n := maxL) hlen
  rw [lg_entry_eq]
  have hlocks := B.notSynchronized
  exact body X M L post (fun pc ls H locs r M1 L1 hd hn hp hW => W.zret (v := r) (ty := ty) B.exec B.bytes B.returns hn (fun t ht _ => ⟨⟨r, (M1, L1), rfl, hp, by show va_P _ _ _ t.heap; rw [ht]; exact hW.1⟩, hW.2.F ht⟩) hW.2.2.2 hd) _ hl hw ⟨hP, va_S.rf⟩
theorem zMl_of {l : Launch} {D : va_G} {cy : Nat → ClassId} {ad : Nat → Nat} {y : MethodName} {cc : ByteArray} {maxL : Nat} {rm : Room} {As : List Value} {wp : Mm → Ml → (Int64 → Mm → Ml → Prop) → Prop} (hy : plainName y.cls = true) (hlen : (lg_sl As).length ≤ maxL) (hi : zInj ad)
    (body : ∀ {p : Program} {e : Env} {s : State} {m : MethodId} {args : Array Value} {below : List Frame} {meth : Method} {c : Code} (_ : zCx p rm s m args c 0 0 cc maxL y.cls D cy ad (zA ad s.heap.size)) (M : Mm) (L : Ml) (post : Int64 → Mm → Ml → Prop) {Q : State → Prop} (_ : ∀ (pc : Nat) (ls : Array Slot) (H : Heap) (locs : List Loc) (r : Int64) (M1 : Mm) (L1 : Ml), decode cc pc = .ok (.lreturn, 1) → post r M1 L1 → zWd D cy ad (zA ad s.heap.size) s H locs M1 L1 → W p l e rm s m args below meth c H locs 0 0 Q (F0 m pc ls [.long r])) (ls : Array Slot) (_ : lv_has ls maxL (lv_args 0 As)) (_ : wp M L post) (_ : zWd D cy ad (zA ad s.heap.size) s s.heap [] M L), W p l e rm s m args below meth c s.heap [] 0 0 Q (F0 m 0 ls [])) : zMl l y (.code y cc maxL (some .long) :: zG) rm D cy ad As wp := by
  intro sz M L post
  refine Met.ofW (cc := cc) (maxL := maxL) (ret := some .long) hy rfl ?_
  intro p e s m args below meth c s₁ B hml hv
  obtain ⟨rfl, hsz, hK, hN, hP, hw⟩ := hv
  subst hsz
  have hts := atoms_spec (ws := Cond.code y cc maxL (some .long) :: zG) B.pre
  have hown : s.vm.findClass y.cls = some m.cls := findClass_of_methodNamed B.named
  have X : zCx p rm s m As.toArray c 0 0 cc maxL y.cls D cy ad (zA ad s.heap.size) := ⟨⟨B.exec, B.bytes, hml, hown, fun w h => hts w (List.mem_cons_of_mem _ h)⟩, hK, hN, hi, fun q h => Or.inr h, fun k h => Or.inl ⟨k, h, rfl⟩, Nat.zero_le _, Nat.zero_le _⟩
  have hl := lv_entry As (n := maxL) hlen
  rw [lg_entry_eq]
  have hlocks := B.notSynchronized
  exact body X M L post (fun pc ls H locs r M1 L1 hd hp hW => W.lret (v := r) B.exec B.bytes B.returns (fun t ht _ => ⟨⟨r, (M1, L1), rfl, hp, by show va_P _ _ _ t.heap; rw [ht]; exact hW.1⟩, hW.2.F ht⟩) hW.2.2.2 hd) _ hl hw ⟨hP, va_S.rf⟩
theorem zMv_of {l : Launch} {D : va_G} {cy : Nat → ClassId} {ad : Nat → Nat} {y : MethodName} {cc : ByteArray} {maxL : Nat} {rm : Room} {As : List Value} {wp : Mm → Ml → (Mm → Ml → Prop) → Prop} (hy : plainName y.cls = true) (hlen : (lg_sl As).length ≤ maxL) (hi : zInj ad)
    (body : ∀ {p : Program} {e : Env} {s : State} {m : MethodId} {args : Array Value} {below : List Frame} {meth : Method} {c : Code} (_ : zCx p rm s m args c 0 0 cc maxL y.cls D cy ad (zA ad s.heap.size)) (M : Mm) (L : Ml) (post : Mm → Ml → Prop) {Q : State → Prop} (_ : ∀ (pc : Nat) (ls : Array Slot) (H : Heap) (locs : List Loc) (M1 : Mm) (L1 : Ml), decode cc pc = .ok (.return_, 1) → post M1 L1 → zWd D cy ad (zA ad s.heap.size) s H locs M1 L1 → W p l e rm s m args below meth c H locs 0 0 Q (F0 m pc ls [])) (ls : Array Slot) (_ : lv_has ls maxL (lv_args 0 As)) (_ : wp M L post) (_ : zWd D cy ad (zA ad s.heap.size) s s.heap [] M L), W p l e rm s m args below meth c s.heap [] 0 0 Q (F0 m 0 ls [])) : zMv l y (.code y cc maxL none :: zG) rm D cy ad As wp := by
  intro sz M L post
  refine Met.ofW (cc := cc) (maxL := maxL) (ret := none) hy rfl ?_
  intro p e s m args below meth c s₁ B hml hv
  obtain ⟨rfl, hsz, hK, hN, hP, hw⟩ := hv
  subst hsz
  have hts := atoms_spec (ws := Cond.code y cc maxL none :: zG) B.pre
  have hown : s.vm.findClass y.cls = some m.cls := findClass_of_methodNamed B.named
  have X : zCx p rm s m As.toArray c 0 0 cc maxL y.cls D cy ad (zA ad s.heap.size) := ⟨⟨B.exec, B.bytes, hml, hown, fun w h => hts w (List.mem_cons_of_mem _ h)⟩, hK, hN, hi, fun q h => Or.inr h, fun k h => Or.inl ⟨k, h, rfl⟩, Nat.zero_le _, Nat.zero_le _⟩
  have hl := lv_entry As (n := maxL) hlen
  rw [lg_entry_eq]
  have hlocks := B.notSynchronized
  exact body X M L post (fun pc ls H locs M1 L1 hd hp hW => W.vret B.exec B.bytes B.returns (fun t ht _ => ⟨⟨(M1, L1), rfl, hp, by show va_P _ _ _ t.heap; rw [ht]; exact hW.1⟩, hW.2.F ht⟩) hW.2.2.2 hd) _ hl hw ⟨hP, va_S.rf⟩
end
section
theorem dX0_init_0 : decode cX0_init 0 = .ok (.aload_n 0, 1) := by decide +kernel
theorem dX0_init_1 : decode cX0_init 1 = .ok (.invokespecial 3, 3) := by decide +kernel
theorem dX0_init_4 : decode cX0_init 4 = .ok (.aload_n 0, 1) := by decide +kernel
theorem dX0_init_5 : decode cX0_init 5 = .ok (.sipush 256, 3) := by decide +kernel
theorem dX0_init_8 : decode cX0_init 8 = .ok (.newarray .int, 2) := by decide +kernel
theorem dX0_init_10 : decode cX0_init 10 = .ok (.putfield 9, 3) := by decide +kernel
theorem dX0_init_13 : decode cX0_init 13 = .ok (.aload_n 0, 1) := by decide +kernel
theorem dX0_init_14 : decode cX0_init 14 = .ok (.sipush 256, 3) := by decide +kernel
theorem dX0_init_17 : decode cX0_init 17 = .ok (.newarray .int, 2) := by decide +kernel
theorem dX0_init_19 : decode cX0_init 19 = .ok (.putfield 15, 3) := by decide +kernel
theorem dX0_init_22 : decode cX0_init 22 = .ok (.aload_n 0, 1) := by decide +kernel
theorem dX0_init_23 : decode cX0_init 23 = .ok (.iconst 0, 1) := by decide +kernel
theorem dX0_init_24 : decode cX0_init 24 = .ok (.putfield 18, 3) := by decide +kernel
theorem dX0_init_27 : decode cX0_init 27 = .ok (.return_, 1) := by decide +kernel
theorem dX0_fewestAirs_0 : decode cX0_fewestAirs 0 = .ok (.aload_n 0, 1) := by decide +kernel
theorem dX0_fewestAirs_1 : decode cX0_fewestAirs 1 = .ok (.getfield 9, 3) := by decide +kernel
theorem dX0_fewestAirs_4 : decode cX0_fewestAirs 4 = .ok (.bipush (-6), 2) := by decide +kernel
theorem dX0_fewestAirs_6 : decode cX0_fewestAirs 6 = .ok (.invokestatic 22, 3) := by decide +kernel
theorem dX0_fewestAirs_9 : decode cX0_fewestAirs 9 = .ok (.aload_n 0, 1) := by decide +kernel
theorem dX0_fewestAirs_10 : decode cX0_fewestAirs 10 = .ok (.iconst 0, 1) := by decide +kernel
theorem dX0_fewestAirs_11 : decode cX0_fewestAirs 11 = .ok (.putfield 18, 3) := by decide +kernel
theorem dX0_fewestAirs_14 : decode cX0_fewestAirs 14 = .ok (.aload_n 0, 1) := by decide +kernel
theorem dX0_fewestAirs_15 : decode cX0_fewestAirs 15 = .ok (.iload_n 1, 1) := by decide +kernel
theorem dX0_fewestAirs_16 : decode cX0_fewestAirs 16 = .ok (.iconst 0, 1) := by decide +kernel
theorem dX0_fewestAirs_17 : decode cX0_fewestAirs 17 = .ok (.invokevirtual 28, 3) := by decide +kernel
theorem dX0_fewestAirs_20 : decode cX0_fewestAirs 20 = .ok (.iconst 0, 1) := by decide +kernel
theorem dX0_fewestAirs_21 : decode cX0_fewestAirs 21 = .ok (.istore 5, 2) := by decide +kernel
theorem dX0_fewestAirs_23 : decode cX0_fewestAirs 23 = .ok (.iload 5, 2) := by decide +kernel
theorem dX0_fewestAirs_25 : decode cX0_fewestAirs 25 = .ok (.sipush 256, 3) := by decide +kernel
theorem dX0_fewestAirs_28 : decode cX0_fewestAirs 28 = .ok (.if_icmp .ge 77, 3) := by decide +kernel
theorem dX0_fewestAirs_31 : decode cX0_fewestAirs 31 = .ok (.iload 5, 2) := by decide +kernel
theorem dX0_fewestAirs_33 : decode cX0_fewestAirs 33 = .ok (.aload_n 0, 1) := by decide +kernel
theorem dX0_fewestAirs_34 : decode cX0_fewestAirs 34 = .ok (.getfield 18, 3) := by decide +kernel
theorem dX0_fewestAirs_37 : decode cX0_fewestAirs 37 = .ok (.if_icmp .ge 68, 3) := by decide +kernel
theorem dX0_fewestAirs_40 : decode cX0_fewestAirs 40 = .ok (.aload_n 0, 1) := by decide +kernel
theorem dX0_fewestAirs_41 : decode cX0_fewestAirs 41 = .ok (.getfield 9, 3) := by decide +kernel
theorem dX0_fewestAirs_44 : decode cX0_fewestAirs 44 = .ok (.iload_n 2, 1) := by decide +kernel
theorem dX0_fewestAirs_45 : decode cX0_fewestAirs 45 = .ok (.iaload, 1) := by decide +kernel
theorem dX0_fewestAirs_46 : decode cX0_fewestAirs 46 = .ok (.bipush (-6), 2) := by decide +kernel
theorem dX0_fewestAirs_48 : decode cX0_fewestAirs 48 = .ok (.if_icmp .ne 57, 3) := by decide +kernel
theorem dX0_fewestAirs_51 : decode cX0_fewestAirs 51 = .ok (.aload_n 0, 1) := by decide +kernel
theorem dX0_fewestAirs_52 : decode cX0_fewestAirs 52 = .ok (.getfield 15, 3) := by decide +kernel
theorem dX0_fewestAirs_55 : decode cX0_fewestAirs 55 = .ok (.iload 5, 2) := by decide +kernel
theorem dX0_fewestAirs_57 : decode cX0_fewestAirs 57 = .ok (.iaload, 1) := by decide +kernel
theorem dX0_fewestAirs_58 : decode cX0_fewestAirs 58 = .ok (.istore 6, 2) := by decide +kernel
theorem dX0_fewestAirs_60 : decode cX0_fewestAirs 60 = .ok (.aload_n 0, 1) := by decide +kernel
theorem dX0_fewestAirs_61 : decode cX0_fewestAirs 61 = .ok (.iload 6, 2) := by decide +kernel
theorem dX0_fewestAirs_63 : decode cX0_fewestAirs 63 = .ok (.iload_n 3, 1) := by decide +kernel
theorem dX0_fewestAirs_64 : decode cX0_fewestAirs 64 = .ok (.invokestatic 32, 3) := by decide +kernel
theorem dX0_fewestAirs_67 : decode cX0_fewestAirs 67 = .ok (.aload_n 0, 1) := by decide +kernel
theorem dX0_fewestAirs_68 : decode cX0_fewestAirs 68 = .ok (.getfield 9, 3) := by decide +kernel
theorem dX0_fewestAirs_71 : decode cX0_fewestAirs 71 = .ok (.iload 6, 2) := by decide +kernel
theorem dX0_fewestAirs_73 : decode cX0_fewestAirs 73 = .ok (.iaload, 1) := by decide +kernel
theorem dX0_fewestAirs_74 : decode cX0_fewestAirs 74 = .ok (.iconst 1, 1) := by decide +kernel
theorem dX0_fewestAirs_75 : decode cX0_fewestAirs 75 = .ok (.iadd, 1) := by decide +kernel
theorem dX0_fewestAirs_76 : decode cX0_fewestAirs 76 = .ok (.invokevirtual 28, 3) := by decide +kernel
theorem dX0_fewestAirs_79 : decode cX0_fewestAirs 79 = .ok (.aload_n 0, 1) := by decide +kernel
theorem dX0_fewestAirs_80 : decode cX0_fewestAirs 80 = .ok (.iload 6, 2) := by decide +kernel
theorem dX0_fewestAirs_82 : decode cX0_fewestAirs 82 = .ok (.iload 4, 2) := by decide +kernel
theorem dX0_fewestAirs_84 : decode cX0_fewestAirs 84 = .ok (.invokestatic 32, 3) := by decide +kernel
theorem dX0_fewestAirs_87 : decode cX0_fewestAirs 87 = .ok (.aload_n 0, 1) := by decide +kernel
theorem dX0_fewestAirs_88 : decode cX0_fewestAirs 88 = .ok (.getfield 9, 3) := by decide +kernel
theorem dX0_fewestAirs_91 : decode cX0_fewestAirs 91 = .ok (.iload 6, 2) := by decide +kernel
theorem dX0_fewestAirs_93 : decode cX0_fewestAirs 93 = .ok (.iaload, 1) := by decide +kernel
theorem dX0_fewestAirs_94 : decode cX0_fewestAirs 94 = .ok (.iconst 1, 1) := by decide +kernel
theorem dX0_fewestAirs_95 : decode cX0_fewestAirs 95 = .ok (.iadd, 1) := by decide +kernel
theorem dX0_fewestAirs_96 : decode cX0_fewestAirs 96 = .ok (.invokevirtual 28, 3) := by decide +kernel
theorem dX0_fewestAirs_99 : decode cX0_fewestAirs 99 = .ok (.iinc 5 1, 3) := by decide +kernel
theorem dX0_fewestAirs_102 : decode cX0_fewestAirs 102 = .ok (.goto (-79), 3) := by decide +kernel
theorem dX0_fewestAirs_105 : decode cX0_fewestAirs 105 = .ok (.aload_n 0, 1) := by decide +kernel
theorem dX0_fewestAirs_106 : decode cX0_fewestAirs 106 = .ok (.getfield 9, 3) := by decide +kernel
theorem dX0_fewestAirs_109 : decode cX0_fewestAirs 109 = .ok (.iload_n 2, 1) := by decide +kernel
theorem dX0_fewestAirs_110 : decode cX0_fewestAirs 110 = .ok (.iaload, 1) := by decide +kernel
theorem dX0_fewestAirs_111 : decode cX0_fewestAirs 111 = .ok (.ireturn, 1) := by decide +kernel
theorem dX0_reach_0 : decode cX0_reach 0 = .ok (.aload_n 0, 1) := by decide +kernel
theorem dX0_reach_1 : decode cX0_reach 1 = .ok (.getfield 9, 3) := by decide +kernel
theorem dX0_reach_4 : decode cX0_reach 4 = .ok (.iload_n 1, 1) := by decide +kernel
theorem dX0_reach_5 : decode cX0_reach 5 = .ok (.iaload, 1) := by decide +kernel
theorem dX0_reach_6 : decode cX0_reach 6 = .ok (.bipush (-6), 2) := by decide +kernel
theorem dX0_reach_8 : decode cX0_reach 8 = .ok (.if_icmp .ne 40, 3) := by decide +kernel
theorem dX0_reach_11 : decode cX0_reach 11 = .ok (.aload_n 0, 1) := by decide +kernel
theorem dX0_reach_12 : decode cX0_reach 12 = .ok (.getfield 18, 3) := by decide +kernel
theorem dX0_reach_15 : decode cX0_reach 15 = .ok (.sipush 256, 3) := by decide +kernel
theorem dX0_reach_18 : decode cX0_reach 18 = .ok (.if_icmp .ge 30, 3) := by decide +kernel
theorem dX0_reach_21 : decode cX0_reach 21 = .ok (.aload_n 0, 1) := by decide +kernel
theorem dX0_reach_22 : decode cX0_reach 22 = .ok (.getfield 9, 3) := by decide +kernel
theorem dX0_reach_25 : decode cX0_reach 25 = .ok (.iload_n 1, 1) := by decide +kernel
theorem dX0_reach_26 : decode cX0_reach 26 = .ok (.iload_n 2, 1) := by decide +kernel
theorem dX0_reach_27 : decode cX0_reach 27 = .ok (.iastore, 1) := by decide +kernel
theorem dX0_reach_28 : decode cX0_reach 28 = .ok (.aload_n 0, 1) := by decide +kernel
theorem dX0_reach_29 : decode cX0_reach 29 = .ok (.getfield 15, 3) := by decide +kernel
theorem dX0_reach_32 : decode cX0_reach 32 = .ok (.aload_n 0, 1) := by decide +kernel
theorem dX0_reach_33 : decode cX0_reach 33 = .ok (.getfield 18, 3) := by decide +kernel
theorem dX0_reach_36 : decode cX0_reach 36 = .ok (.iload_n 1, 1) := by decide +kernel
theorem dX0_reach_37 : decode cX0_reach 37 = .ok (.iastore, 1) := by decide +kernel
theorem dX0_reach_38 : decode cX0_reach 38 = .ok (.aload_n 0, 1) := by decide +kernel
theorem dX0_reach_39 : decode cX0_reach 39 = .ok (.dup, 1) := by decide +kernel
theorem dX0_reach_40 : decode cX0_reach 40 = .ok (.getfield 18, 3) := by decide +kernel
theorem dX0_reach_43 : decode cX0_reach 43 = .ok (.iconst 1, 1) := by decide +kernel
theorem dX0_reach_44 : decode cX0_reach 44 = .ok (.iadd, 1) := by decide +kernel
theorem dX0_reach_45 : decode cX0_reach 45 = .ok (.putfield 18, 3) := by decide +kernel
theorem dX0_reach_48 : decode cX0_reach 48 = .ok (.return_, 1) := by decide +kernel
theorem dX1_canGet_0 : decode cX1_canGet 0 = .ok (.aload_n 0, 1) := by decide +kernel
theorem dX1_canGet_1 : decode cX1_canGet 1 = .ok (.getfield 9, 3) := by decide +kernel
theorem dX1_canGet_4 : decode cX1_canGet 4 = .ok (.iload_n 2, 1) := by decide +kernel
theorem dX1_canGet_5 : decode cX1_canGet 5 = .ok (.iaload, 1) := by decide +kernel
theorem dX1_canGet_6 : decode cX1_canGet 6 = .ok (.istore_n 3, 1) := by decide +kernel
theorem dX1_canGet_7 : decode cX1_canGet 7 = .ok (.iload_n 3, 1) := by decide +kernel
theorem dX1_canGet_8 : decode cX1_canGet 8 = .ok (.ifCond .le 27, 3) := by decide +kernel
theorem dX1_canGet_11 : decode cX1_canGet 11 = .ok (.aload_n 0, 1) := by decide +kernel
theorem dX1_canGet_12 : decode cX1_canGet 12 = .ok (.getfield 15, 3) := by decide +kernel
theorem dX1_canGet_15 : decode cX1_canGet 15 = .ok (.iload_n 1, 1) := by decide +kernel
theorem dX1_canGet_16 : decode cX1_canGet 16 = .ok (.iaload, 1) := by decide +kernel
theorem dX1_canGet_17 : decode cX1_canGet 17 = .ok (.aload_n 0, 1) := by decide +kernel
theorem dX1_canGet_18 : decode cX1_canGet 18 = .ok (.getfield 18, 3) := by decide +kernel
theorem dX1_canGet_21 : decode cX1_canGet 21 = .ok (.iload_n 2, 1) := by decide +kernel
theorem dX1_canGet_22 : decode cX1_canGet 22 = .ok (.iaload, 1) := by decide +kernel
theorem dX1_canGet_23 : decode cX1_canGet 23 = .ok (.isub, 1) := by decide +kernel
theorem dX1_canGet_24 : decode cX1_canGet 24 = .ok (.invokestatic 21, 3) := by decide +kernel
theorem dX1_canGet_27 : decode cX1_canGet 27 = .ok (.iload_n 3, 1) := by decide +kernel
theorem dX1_canGet_28 : decode cX1_canGet 28 = .ok (.if_icmp .gt 7, 3) := by decide +kernel
theorem dX1_canGet_31 : decode cX1_canGet 31 = .ok (.iconst 1, 1) := by decide +kernel
theorem dX1_canGet_32 : decode cX1_canGet 32 = .ok (.goto 4, 3) := by decide +kernel
theorem dX1_canGet_35 : decode cX1_canGet 35 = .ok (.iconst 0, 1) := by decide +kernel
theorem dX1_canGet_36 : decode cX1_canGet 36 = .ok (.ireturn, 1) := by decide +kernel
theorem dX1_byAddressees_0 : decode cX1_byAddressees 0 = .ok (.iconst 0, 1) := by decide +kernel
theorem dX1_byAddressees_1 : decode cX1_byAddressees 1 = .ok (.istore_n 1, 1) := by decide +kernel
theorem dX1_byAddressees_2 : decode cX1_byAddressees 2 = .ok (.iconst 0, 1) := by decide +kernel
theorem dX1_byAddressees_3 : decode cX1_byAddressees 3 = .ok (.istore_n 2, 1) := by decide +kernel
theorem dX1_byAddressees_4 : decode cX1_byAddressees 4 = .ok (.iload_n 2, 1) := by decide +kernel
theorem dX1_byAddressees_5 : decode cX1_byAddressees 5 = .ok (.bipush 8, 2) := by decide +kernel
theorem dX1_byAddressees_7 : decode cX1_byAddressees 7 = .ok (.if_icmp .ge 31, 3) := by decide +kernel
theorem dX1_byAddressees_10 : decode cX1_byAddressees 10 = .ok (.aload_n 0, 1) := by decide +kernel
theorem dX1_byAddressees_11 : decode cX1_byAddressees 11 = .ok (.getfield 27, 3) := by decide +kernel
theorem dX1_byAddressees_14 : decode cX1_byAddressees 14 = .ok (.iload_n 2, 1) := by decide +kernel
theorem dX1_byAddressees_15 : decode cX1_byAddressees 15 = .ok (.iaload, 1) := by decide +kernel
theorem dX1_byAddressees_16 : decode cX1_byAddressees 16 = .ok (.istore_n 3, 1) := by decide +kernel
theorem dX1_byAddressees_17 : decode cX1_byAddressees 17 = .ok (.aload_n 0, 1) := by decide +kernel
theorem dX1_byAddressees_18 : decode cX1_byAddressees 18 = .ok (.iload_n 3, 1) := by decide +kernel
theorem dX1_byAddressees_19 : decode cX1_byAddressees 19 = .ok (.iload_n 2, 1) := by decide +kernel
theorem dX1_byAddressees_20 : decode cX1_byAddressees 20 = .ok (.invokestatic 30, 3) := by decide +kernel
theorem dX1_byAddressees_23 : decode cX1_byAddressees 23 = .ok (.ifCond .eq 9, 3) := by decide +kernel
theorem dX1_byAddressees_26 : decode cX1_byAddressees 26 = .ok (.iload_n 1, 1) := by decide +kernel
theorem dX1_byAddressees_27 : decode cX1_byAddressees 27 = .ok (.iconst 1, 1) := by decide +kernel
theorem dX1_byAddressees_28 : decode cX1_byAddressees 28 = .ok (.iload_n 3, 1) := by decide +kernel
theorem dX1_byAddressees_29 : decode cX1_byAddressees 29 = .ok (.ishl, 1) := by decide +kernel
theorem dX1_byAddressees_30 : decode cX1_byAddressees 30 = .ok (.ior, 1) := by decide +kernel
theorem dX1_byAddressees_31 : decode cX1_byAddressees 31 = .ok (.istore_n 1, 1) := by decide +kernel
theorem dX1_byAddressees_32 : decode cX1_byAddressees 32 = .ok (.iinc 2 1, 3) := by decide +kernel
theorem dX1_byAddressees_35 : decode cX1_byAddressees 35 = .ok (.goto (-31), 3) := by decide +kernel
theorem dX1_byAddressees_38 : decode cX1_byAddressees 38 = .ok (.iload_n 1, 1) := by decide +kernel
theorem dX1_byAddressees_39 : decode cX1_byAddressees 39 = .ok (.invokestatic 36, 3) := by decide +kernel
theorem dX1_byAddressees_42 : decode cX1_byAddressees 42 = .ok (.ireturn, 1) := by decide +kernel
theorem dX1_byWhoever_0 : decode cX1_byWhoever 0 = .ok (.lconst 1, 1) := by decide +kernel
theorem dX1_byWhoever_1 : decode cX1_byWhoever 1 = .ok (.lstore_n 1, 1) := by decide +kernel
theorem dX1_byWhoever_2 : decode cX1_byWhoever 2 = .ok (.iconst 0, 1) := by decide +kernel
theorem dX1_byWhoever_3 : decode cX1_byWhoever 3 = .ok (.istore_n 3, 1) := by decide +kernel
theorem dX1_byWhoever_4 : decode cX1_byWhoever 4 = .ok (.iload_n 3, 1) := by decide +kernel
theorem dX1_byWhoever_5 : decode cX1_byWhoever 5 = .ok (.bipush 8, 2) := by decide +kernel
theorem dX1_byWhoever_7 : decode cX1_byWhoever 7 = .ok (.if_icmp .ge 52, 3) := by decide +kernel
theorem dX1_byWhoever_10 : decode cX1_byWhoever 10 = .ok (.lload_n 1, 1) := by decide +kernel
theorem dX1_byWhoever_11 : decode cX1_byWhoever 11 = .ok (.lstore 4, 2) := by decide +kernel
theorem dX1_byWhoever_13 : decode cX1_byWhoever 13 = .ok (.iconst 0, 1) := by decide +kernel
theorem dX1_byWhoever_14 : decode cX1_byWhoever 14 = .ok (.istore 6, 2) := by decide +kernel
theorem dX1_byWhoever_16 : decode cX1_byWhoever 16 = .ok (.iload 6, 2) := by decide +kernel
theorem dX1_byWhoever_18 : decode cX1_byWhoever 18 = .ok (.bipush 6, 2) := by decide +kernel
theorem dX1_byWhoever_20 : decode cX1_byWhoever 20 = .ok (.if_icmp .ge 30, 3) := by decide +kernel
theorem dX1_byWhoever_23 : decode cX1_byWhoever 23 = .ok (.aload_n 0, 1) := by decide +kernel
theorem dX1_byWhoever_24 : decode cX1_byWhoever 24 = .ok (.iload 6, 2) := by decide +kernel
theorem dX1_byWhoever_26 : decode cX1_byWhoever 26 = .ok (.iload_n 3, 1) := by decide +kernel
theorem dX1_byWhoever_27 : decode cX1_byWhoever 27 = .ok (.invokestatic 30, 3) := by decide +kernel
theorem dX1_byWhoever_30 : decode cX1_byWhoever 30 = .ok (.ifCond .eq 14, 3) := by decide +kernel
theorem dX1_byWhoever_33 : decode cX1_byWhoever 33 = .ok (.lload 4, 2) := by decide +kernel
theorem dX1_byWhoever_35 : decode cX1_byWhoever 35 = .ok (.iload 6, 2) := by decide +kernel
theorem dX1_byWhoever_37 : decode cX1_byWhoever 37 = .ok (.lload_n 1, 1) := by decide +kernel
theorem dX1_byWhoever_38 : decode cX1_byWhoever 38 = .ok (.invokestatic 41, 3) := by decide +kernel
theorem dX1_byWhoever_41 : decode cX1_byWhoever 41 = .ok (.lor, 1) := by decide +kernel
theorem dX1_byWhoever_42 : decode cX1_byWhoever 42 = .ok (.lstore 4, 2) := by decide +kernel
theorem dX1_byWhoever_44 : decode cX1_byWhoever 44 = .ok (.iinc 6 1, 3) := by decide +kernel
theorem dX1_byWhoever_47 : decode cX1_byWhoever 47 = .ok (.goto (-31), 3) := by decide +kernel
theorem dX1_byWhoever_50 : decode cX1_byWhoever 50 = .ok (.lload 4, 2) := by decide +kernel
theorem dX1_byWhoever_52 : decode cX1_byWhoever 52 = .ok (.lstore_n 1, 1) := by decide +kernel
theorem dX1_byWhoever_53 : decode cX1_byWhoever 53 = .ok (.iinc 3 1, 3) := by decide +kernel
theorem dX1_byWhoever_56 : decode cX1_byWhoever 56 = .ok (.goto (-52), 3) := by decide +kernel
theorem dX1_byWhoever_59 : decode cX1_byWhoever 59 = .ok (.iconst 0, 1) := by decide +kernel
theorem dX1_byWhoever_60 : decode cX1_byWhoever 60 = .ok (.istore_n 3, 1) := by decide +kernel
theorem dX1_byWhoever_61 : decode cX1_byWhoever 61 = .ok (.iconst 0, 1) := by decide +kernel
theorem dX1_byWhoever_62 : decode cX1_byWhoever 62 = .ok (.istore 4, 2) := by decide +kernel
theorem dX1_byWhoever_64 : decode cX1_byWhoever 64 = .ok (.iload 4, 2) := by decide +kernel
theorem dX1_byWhoever_66 : decode cX1_byWhoever 66 = .ok (.bipush 64, 2) := by decide +kernel
theorem dX1_byWhoever_68 : decode cX1_byWhoever 68 = .ok (.if_icmp .ge 30, 3) := by decide +kernel
theorem dX1_byWhoever_71 : decode cX1_byWhoever 71 = .ok (.lload_n 1, 1) := by decide +kernel
theorem dX1_byWhoever_72 : decode cX1_byWhoever 72 = .ok (.iload 4, 2) := by decide +kernel
theorem dX1_byWhoever_74 : decode cX1_byWhoever 74 = .ok (.lshr, 1) := by decide +kernel
theorem dX1_byWhoever_75 : decode cX1_byWhoever 75 = .ok (.lconst 1, 1) := by decide +kernel
theorem dX1_byWhoever_76 : decode cX1_byWhoever 76 = .ok (.land, 1) := by decide +kernel
theorem dX1_byWhoever_77 : decode cX1_byWhoever 77 = .ok (.lconst 1, 1) := by decide +kernel
theorem dX1_byWhoever_78 : decode cX1_byWhoever 78 = .ok (.lcmp, 1) := by decide +kernel
theorem dX1_byWhoever_79 : decode cX1_byWhoever 79 = .ok (.ifCond .ne 13, 3) := by decide +kernel
theorem dX1_byWhoever_82 : decode cX1_byWhoever 82 = .ok (.iload_n 3, 1) := by decide +kernel
theorem dX1_byWhoever_83 : decode cX1_byWhoever 83 = .ok (.iload 4, 2) := by decide +kernel
theorem dX1_byWhoever_85 : decode cX1_byWhoever 85 = .ok (.invokestatic 36, 3) := by decide +kernel
theorem dX1_byWhoever_88 : decode cX1_byWhoever 88 = .ok (.invokestatic 45, 3) := by decide +kernel
theorem dX1_byWhoever_91 : decode cX1_byWhoever 91 = .ok (.istore_n 3, 1) := by decide +kernel
theorem dX1_byWhoever_92 : decode cX1_byWhoever 92 = .ok (.iinc 4 1, 3) := by decide +kernel
theorem dX1_byWhoever_95 : decode cX1_byWhoever 95 = .ok (.goto (-31), 3) := by decide +kernel
theorem dX1_byWhoever_98 : decode cX1_byWhoever 98 = .ok (.iload_n 3, 1) := by decide +kernel
theorem dX1_byWhoever_99 : decode cX1_byWhoever 99 = .ok (.ireturn, 1) := by decide +kernel
theorem dX1_joinedBy_0 : decode cX1_joinedBy 0 = .ok (.lconst 0, 1) := by decide +kernel
theorem dX1_joinedBy_1 : decode cX1_joinedBy 1 = .ok (.lstore_n 3, 1) := by decide +kernel
theorem dX1_joinedBy_2 : decode cX1_joinedBy 2 = .ok (.iconst 0, 1) := by decide +kernel
theorem dX1_joinedBy_3 : decode cX1_joinedBy 3 = .ok (.istore 5, 2) := by decide +kernel
theorem dX1_joinedBy_5 : decode cX1_joinedBy 5 = .ok (.iload 5, 2) := by decide +kernel
theorem dX1_joinedBy_7 : decode cX1_joinedBy 7 = .ok (.bipush 64, 2) := by decide +kernel
theorem dX1_joinedBy_9 : decode cX1_joinedBy 9 = .ok (.if_icmp .ge 40, 3) := by decide +kernel
theorem dX1_joinedBy_12 : decode cX1_joinedBy 12 = .ok (.lload_n 1, 1) := by decide +kernel
theorem dX1_joinedBy_13 : decode cX1_joinedBy 13 = .ok (.iload 5, 2) := by decide +kernel
theorem dX1_joinedBy_15 : decode cX1_joinedBy 15 = .ok (.lshr, 1) := by decide +kernel
theorem dX1_joinedBy_16 : decode cX1_joinedBy 16 = .ok (.lconst 1, 1) := by decide +kernel
theorem dX1_joinedBy_17 : decode cX1_joinedBy 17 = .ok (.land, 1) := by decide +kernel
theorem dX1_joinedBy_18 : decode cX1_joinedBy 18 = .ok (.lconst 1, 1) := by decide +kernel
theorem dX1_joinedBy_19 : decode cX1_joinedBy 19 = .ok (.lcmp, 1) := by decide +kernel
theorem dX1_joinedBy_20 : decode cX1_joinedBy 20 = .ok (.ifCond .ne 23, 3) := by decide +kernel
theorem dX1_joinedBy_23 : decode cX1_joinedBy 23 = .ok (.iload 5, 2) := by decide +kernel
theorem dX1_joinedBy_25 : decode cX1_joinedBy 25 = .ok (.iload_n 0, 1) := by decide +kernel
theorem dX1_joinedBy_26 : decode cX1_joinedBy 26 = .ok (.invokestatic 49, 3) := by decide +kernel
theorem dX1_joinedBy_29 : decode cX1_joinedBy 29 = .ok (.ifCond .ne 14, 3) := by decide +kernel
theorem dX1_joinedBy_32 : decode cX1_joinedBy 32 = .ok (.lload_n 3, 1) := by decide +kernel
theorem dX1_joinedBy_33 : decode cX1_joinedBy 33 = .ok (.lconst 1, 1) := by decide +kernel
theorem dX1_joinedBy_34 : decode cX1_joinedBy 34 = .ok (.iload 5, 2) := by decide +kernel
theorem dX1_joinedBy_36 : decode cX1_joinedBy 36 = .ok (.iconst 1, 1) := by decide +kernel
theorem dX1_joinedBy_37 : decode cX1_joinedBy 37 = .ok (.iload_n 0, 1) := by decide +kernel
theorem dX1_joinedBy_38 : decode cX1_joinedBy 38 = .ok (.ishl, 1) := by decide +kernel
theorem dX1_joinedBy_39 : decode cX1_joinedBy 39 = .ok (.ior, 1) := by decide +kernel
theorem dX1_joinedBy_40 : decode cX1_joinedBy 40 = .ok (.lshl, 1) := by decide +kernel
theorem dX1_joinedBy_41 : decode cX1_joinedBy 41 = .ok (.lor, 1) := by decide +kernel
theorem dX1_joinedBy_42 : decode cX1_joinedBy 42 = .ok (.lstore_n 3, 1) := by decide +kernel
theorem dX1_joinedBy_43 : decode cX1_joinedBy 43 = .ok (.iinc 5 1, 3) := by decide +kernel
theorem dX1_joinedBy_46 : decode cX1_joinedBy 46 = .ok (.goto (-41), 3) := by decide +kernel
theorem dX1_joinedBy_49 : decode cX1_joinedBy 49 = .ok (.lload_n 3, 1) := by decide +kernel
theorem dX1_joinedBy_50 : decode cX1_joinedBy 50 = .ok (.lreturn, 1) := by decide +kernel
theorem dX2_init_0 : decode cX2_init 0 = .ok (.aload_n 0, 1) := by decide +kernel
theorem dX2_init_1 : decode cX2_init 1 = .ok (.invokespecial 3, 3) := by decide +kernel
theorem dX2_init_4 : decode cX2_init 4 = .ok (.aload_n 0, 1) := by decide +kernel
theorem dX2_init_5 : decode cX2_init 5 = .ok (.new 9, 3) := by decide +kernel
theorem dX2_init_8 : decode cX2_init 8 = .ok (.dup, 1) := by decide +kernel
theorem dX2_init_9 : decode cX2_init 9 = .ok (.invokespecial 11, 3) := by decide +kernel
theorem dX2_init_12 : decode cX2_init 12 = .ok (.putfield 12, 3) := by decide +kernel
theorem dX2_init_15 : decode cX2_init 15 = .ok (.aload_n 0, 1) := by decide +kernel
theorem dX2_init_16 : decode cX2_init 16 = .ok (.bipush (-6), 2) := by decide +kernel
theorem dX2_init_18 : decode cX2_init 18 = .ok (.putfield 18, 3) := by decide +kernel
theorem dX2_init_21 : decode cX2_init 21 = .ok (.aload_n 0, 1) := by decide +kernel
theorem dX2_init_22 : decode cX2_init 22 = .ok (.bipush (-6), 2) := by decide +kernel
theorem dX2_init_24 : decode cX2_init 24 = .ok (.putfield 22, 3) := by decide +kernel
theorem dX2_init_27 : decode cX2_init 27 = .ok (.aload_n 0, 1) := by decide +kernel
theorem dX2_init_28 : decode cX2_init 28 = .ok (.bipush (-6), 2) := by decide +kernel
theorem dX2_init_30 : decode cX2_init 30 = .ok (.putfield 25, 3) := by decide +kernel
theorem dX2_init_33 : decode cX2_init 33 = .ok (.aload_n 0, 1) := by decide +kernel
theorem dX2_init_34 : decode cX2_init 34 = .ok (.iconst 0, 1) := by decide +kernel
theorem dX2_init_35 : decode cX2_init 35 = .ok (.putfield 28, 3) := by decide +kernel
theorem dX2_init_38 : decode cX2_init 38 = .ok (.return_, 1) := by decide +kernel
theorem dX2_live_0 : decode cX2_live 0 = .ok (.aload_n 0, 1) := by decide +kernel
theorem dX2_live_1 : decode cX2_live 1 = .ok (.aload_n 1, 1) := by decide +kernel
theorem dX2_live_2 : decode cX2_live 2 = .ok (.invokevirtual 31, 3) := by decide +kernel
theorem dX2_live_5 : decode cX2_live 5 = .ok (.iconst 0, 1) := by decide +kernel
theorem dX2_live_6 : decode cX2_live 6 = .ok (.istore_n 3, 1) := by decide +kernel
theorem dX2_live_7 : decode cX2_live 7 = .ok (.iload_n 3, 1) := by decide +kernel
theorem dX2_live_8 : decode cX2_live 8 = .ok (.aload_n 2, 1) := by decide +kernel
theorem dX2_live_9 : decode cX2_live 9 = .ok (.getfield 35, 3) := by decide +kernel
theorem dX2_live_12 : decode cX2_live 12 = .ok (.if_icmp .ge 112, 3) := by decide +kernel
theorem dX2_live_15 : decode cX2_live 15 = .ok (.aload_n 0, 1) := by decide +kernel
theorem dX2_live_16 : decode cX2_live 16 = .ok (.getfield 18, 3) := by decide +kernel
theorem dX2_live_19 : decode cX2_live 19 = .ok (.bipush (-6), 2) := by decide +kernel
theorem dX2_live_21 : decode cX2_live 21 = .ok (.if_icmp .ne 103, 3) := by decide +kernel
theorem dX2_live_24 : decode cX2_live 24 = .ok (.aload_n 0, 1) := by decide +kernel
theorem dX2_live_25 : decode cX2_live 25 = .ok (.getfield 12, 3) := by decide +kernel
theorem dX2_live_28 : decode cX2_live 28 = .ok (.aload_n 2, 1) := by decide +kernel
theorem dX2_live_29 : decode cX2_live 29 = .ok (.getfield 40, 3) := by decide +kernel
theorem dX2_live_32 : decode cX2_live 32 = .ok (.iload_n 3, 1) := by decide +kernel
theorem dX2_live_33 : decode cX2_live 33 = .ok (.iaload, 1) := by decide +kernel
theorem dX2_live_34 : decode cX2_live 34 = .ok (.aload_n 2, 1) := by decide +kernel
theorem dX2_live_35 : decode cX2_live 35 = .ok (.getfield 44, 3) := by decide +kernel
theorem dX2_live_38 : decode cX2_live 38 = .ok (.iload_n 3, 1) := by decide +kernel
theorem dX2_live_39 : decode cX2_live 39 = .ok (.iaload, 1) := by decide +kernel
theorem dX2_live_40 : decode cX2_live 40 = .ok (.invokevirtual 47, 3) := by decide +kernel
theorem dX2_live_43 : decode cX2_live 43 = .ok (.istore 4, 2) := by decide +kernel
theorem dX2_live_45 : decode cX2_live 45 = .ok (.iload 4, 2) := by decide +kernel
theorem dX2_live_47 : decode cX2_live 47 = .ok (.ifCond .ne 60, 3) := by decide +kernel
theorem dX2_live_50 : decode cX2_live 50 = .ok (.aload_n 0, 1) := by decide +kernel
theorem dX2_live_51 : decode cX2_live 51 = .ok (.getfield 12, 3) := by decide +kernel
theorem dX2_live_54 : decode cX2_live 54 = .ok (.invokevirtual 51, 3) := by decide +kernel
theorem dX2_live_57 : decode cX2_live 57 = .ok (.istore 5, 2) := by decide +kernel
theorem dX2_live_59 : decode cX2_live 59 = .ok (.aload_n 0, 1) := by decide +kernel
theorem dX2_live_60 : decode cX2_live 60 = .ok (.getfield 12, 3) := by decide +kernel
theorem dX2_live_63 : decode cX2_live 63 = .ok (.aload_n 2, 1) := by decide +kernel
theorem dX2_live_64 : decode cX2_live 64 = .ok (.getfield 40, 3) := by decide +kernel
theorem dX2_live_67 : decode cX2_live 67 = .ok (.iload_n 3, 1) := by decide +kernel
theorem dX2_live_68 : decode cX2_live 68 = .ok (.iaload, 1) := by decide +kernel
theorem dX2_live_69 : decode cX2_live 69 = .ok (.aload_n 2, 1) := by decide +kernel
theorem dX2_live_70 : decode cX2_live 70 = .ok (.getfield 44, 3) := by decide +kernel
theorem dX2_live_73 : decode cX2_live 73 = .ok (.iload_n 3, 1) := by decide +kernel
theorem dX2_live_74 : decode cX2_live 74 = .ok (.iaload, 1) := by decide +kernel
theorem dX2_live_75 : decode cX2_live 75 = .ok (.invokevirtual 55, 3) := by decide +kernel
theorem dX2_live_78 : decode cX2_live 78 = .ok (.aload_n 0, 1) := by decide +kernel
theorem dX2_live_79 : decode cX2_live 79 = .ok (.getfield 25, 3) := by decide +kernel
theorem dX2_live_82 : decode cX2_live 82 = .ok (.bipush (-6), 2) := by decide +kernel
theorem dX2_live_84 : decode cX2_live 84 = .ok (.if_icmp .ne 20, 3) := by decide +kernel
theorem dX2_live_87 : decode cX2_live 87 = .ok (.aload_n 0, 1) := by decide +kernel
theorem dX2_live_88 : decode cX2_live 88 = .ok (.getfield 12, 3) := by decide +kernel
theorem dX2_live_91 : decode cX2_live 91 = .ok (.invokevirtual 51, 3) := by decide +kernel
theorem dX2_live_94 : decode cX2_live 94 = .ok (.iload 5, 2) := by decide +kernel
theorem dX2_live_96 : decode cX2_live 96 = .ok (.if_icmp .eq 8, 3) := by decide +kernel
theorem dX2_live_99 : decode cX2_live 99 = .ok (.aload_n 0, 1) := by decide +kernel
theorem dX2_live_100 : decode cX2_live 100 = .ok (.iload_n 3, 1) := by decide +kernel
theorem dX2_live_101 : decode cX2_live 101 = .ok (.putfield 25, 3) := by decide +kernel
theorem dX2_live_104 : decode cX2_live 104 = .ok (.goto 14, 3) := by decide +kernel
theorem dX2_live_107 : decode cX2_live 107 = .ok (.aload_n 0, 1) := by decide +kernel
theorem dX2_live_108 : decode cX2_live 108 = .ok (.iload_n 3, 1) := by decide +kernel
theorem dX2_live_109 : decode cX2_live 109 = .ok (.putfield 18, 3) := by decide +kernel
theorem dX2_live_112 : decode cX2_live 112 = .ok (.aload_n 0, 1) := by decide +kernel
theorem dX2_live_113 : decode cX2_live 113 = .ok (.iload 4, 2) := by decide +kernel
theorem dX2_live_115 : decode cX2_live 115 = .ok (.putfield 22, 3) := by decide +kernel
theorem dX2_live_118 : decode cX2_live 118 = .ok (.iinc 3 1, 3) := by decide +kernel
theorem dX2_live_121 : decode cX2_live 121 = .ok (.goto (-114), 3) := by decide +kernel
theorem dX2_live_124 : decode cX2_live 124 = .ok (.return_, 1) := by decide +kernel
theorem dX2_begin_0 : decode cX2_begin 0 = .ok (.aload_n 0, 1) := by decide +kernel
theorem dX2_begin_1 : decode cX2_begin 1 = .ok (.getfield 12, 3) := by decide +kernel
theorem dX2_begin_4 : decode cX2_begin 4 = .ok (.aload_n 1, 1) := by decide +kernel
theorem dX2_begin_5 : decode cX2_begin 5 = .ok (.invokevirtual 59, 3) := by decide +kernel
theorem dX2_begin_8 : decode cX2_begin 8 = .ok (.aload_n 0, 1) := by decide +kernel
theorem dX2_begin_9 : decode cX2_begin 9 = .ok (.bipush (-6), 2) := by decide +kernel
theorem dX2_begin_11 : decode cX2_begin 11 = .ok (.putfield 18, 3) := by decide +kernel
theorem dX2_begin_14 : decode cX2_begin 14 = .ok (.aload_n 0, 1) := by decide +kernel
theorem dX2_begin_15 : decode cX2_begin 15 = .ok (.bipush (-6), 2) := by decide +kernel
theorem dX2_begin_17 : decode cX2_begin 17 = .ok (.putfield 22, 3) := by decide +kernel
theorem dX2_begin_20 : decode cX2_begin 20 = .ok (.aload_n 0, 1) := by decide +kernel
theorem dX2_begin_21 : decode cX2_begin 21 = .ok (.bipush (-6), 2) := by decide +kernel
theorem dX2_begin_23 : decode cX2_begin 23 = .ok (.putfield 25, 3) := by decide +kernel
theorem dX2_begin_26 : decode cX2_begin 26 = .ok (.aload_n 0, 1) := by decide +kernel
theorem dX2_begin_27 : decode cX2_begin 27 = .ok (.aload_n 0, 1) := by decide +kernel
theorem dX2_begin_28 : decode cX2_begin 28 = .ok (.getfield 12, 3) := by decide +kernel
theorem dX2_begin_31 : decode cX2_begin 31 = .ok (.invokevirtual 62, 3) := by decide +kernel
theorem dX2_begin_34 : decode cX2_begin 34 = .ok (.putfield 28, 3) := by decide +kernel
theorem dX2_begin_37 : decode cX2_begin 37 = .ok (.return_, 1) := by decide +kernel
theorem dX2_cameDown_0 : decode cX2_cameDown 0 = .ok (.aload_n 0, 1) := by decide +kernel
theorem dX2_cameDown_1 : decode cX2_cameDown 1 = .ok (.getfield 12, 3) := by decide +kernel
theorem dX2_cameDown_4 : decode cX2_cameDown 4 = .ok (.invokevirtual 62, 3) := by decide +kernel
theorem dX2_cameDown_7 : decode cX2_cameDown 7 = .ok (.aload_n 0, 1) := by decide +kernel
theorem dX2_cameDown_8 : decode cX2_cameDown 8 = .ok (.getfield 28, 3) := by decide +kernel
theorem dX2_cameDown_11 : decode cX2_cameDown 11 = .ok (.iconst (-1), 1) := by decide +kernel
theorem dX2_cameDown_12 : decode cX2_cameDown 12 = .ok (.ixor, 1) := by decide +kernel
theorem dX2_cameDown_13 : decode cX2_cameDown 13 = .ok (.iand, 1) := by decide +kernel
theorem dX2_cameDown_14 : decode cX2_cameDown 14 = .ok (.invokestatic 65, 3) := by decide +kernel
theorem dX2_cameDown_17 : decode cX2_cameDown 17 = .ok (.ireturn, 1) := by decide +kernel
theorem dX2_dreamYear_0 : decode cX2_dreamYear 0 = .ok (.aload_n 0, 1) := by decide +kernel
theorem dX2_dreamYear_1 : decode cX2_dreamYear 1 = .ok (.getfield 12, 3) := by decide +kernel
theorem dX2_dreamYear_4 : decode cX2_dreamYear 4 = .ok (.aload_n 1, 1) := by decide +kernel
theorem dX2_dreamYear_5 : decode cX2_dreamYear 5 = .ok (.invokevirtual 59, 3) := by decide +kernel
theorem dX2_dreamYear_8 : decode cX2_dreamYear 8 = .ok (.iload_n 2, 1) := by decide +kernel
theorem dX2_dreamYear_9 : decode cX2_dreamYear 9 = .ok (.istore 4, 2) := by decide +kernel
theorem dX2_dreamYear_11 : decode cX2_dreamYear 11 = .ok (.iconst 0, 1) := by decide +kernel
theorem dX2_dreamYear_12 : decode cX2_dreamYear 12 = .ok (.istore 5, 2) := by decide +kernel
theorem dX2_dreamYear_14 : decode cX2_dreamYear 14 = .ok (.iload 5, 2) := by decide +kernel
theorem dX2_dreamYear_16 : decode cX2_dreamYear 16 = .ok (.iload_n 3, 1) := by decide +kernel
theorem dX2_dreamYear_17 : decode cX2_dreamYear 17 = .ok (.if_icmp .ge 64, 3) := by decide +kernel
theorem dX2_dreamYear_20 : decode cX2_dreamYear 20 = .ok (.bipush 75, 2) := by decide +kernel
theorem dX2_dreamYear_22 : decode cX2_dreamYear 22 = .ok (.iload 4, 2) := by decide +kernel
theorem dX2_dreamYear_24 : decode cX2_dreamYear 24 = .ok (.imul, 1) := by decide +kernel
theorem dX2_dreamYear_25 : decode cX2_dreamYear 25 = .ok (.bipush 74, 2) := by decide +kernel
theorem dX2_dreamYear_27 : decode cX2_dreamYear 27 = .ok (.iadd, 1) := by decide +kernel
theorem dX2_dreamYear_28 : decode cX2_dreamYear 28 = .ok (.ldc 71, 2) := by decide +kernel
theorem dX2_dreamYear_30 : decode cX2_dreamYear 30 = .ok (.irem, 1) := by decide +kernel
theorem dX2_dreamYear_31 : decode cX2_dreamYear 31 = .ok (.istore 4, 2) := by decide +kernel
theorem dX2_dreamYear_33 : decode cX2_dreamYear 33 = .ok (.iload 4, 2) := by decide +kernel
theorem dX2_dreamYear_35 : decode cX2_dreamYear 35 = .ok (.bipush 8, 2) := by decide +kernel
theorem dX2_dreamYear_37 : decode cX2_dreamYear 37 = .ok (.irem, 1) := by decide +kernel
theorem dX2_dreamYear_38 : decode cX2_dreamYear 38 = .ok (.istore 6, 2) := by decide +kernel
theorem dX2_dreamYear_40 : decode cX2_dreamYear 40 = .ok (.iload 4, 2) := by decide +kernel
theorem dX2_dreamYear_42 : decode cX2_dreamYear 42 = .ok (.bipush 8, 2) := by decide +kernel
theorem dX2_dreamYear_44 : decode cX2_dreamYear 44 = .ok (.idiv, 1) := by decide +kernel
theorem dX2_dreamYear_45 : decode cX2_dreamYear 45 = .ok (.bipush 6, 2) := by decide +kernel
theorem dX2_dreamYear_47 : decode cX2_dreamYear 47 = .ok (.irem, 1) := by decide +kernel
theorem dX2_dreamYear_48 : decode cX2_dreamYear 48 = .ok (.istore 7, 2) := by decide +kernel
theorem dX2_dreamYear_50 : decode cX2_dreamYear 50 = .ok (.aload_n 0, 1) := by decide +kernel
theorem dX2_dreamYear_51 : decode cX2_dreamYear 51 = .ok (.getfield 12, 3) := by decide +kernel
theorem dX2_dreamYear_54 : decode cX2_dreamYear 54 = .ok (.iload 6, 2) := by decide +kernel
theorem dX2_dreamYear_56 : decode cX2_dreamYear 56 = .ok (.iload 7, 2) := by decide +kernel
theorem dX2_dreamYear_58 : decode cX2_dreamYear 58 = .ok (.invokevirtual 47, 3) := by decide +kernel
theorem dX2_dreamYear_61 : decode cX2_dreamYear 61 = .ok (.ifCond .ne 14, 3) := by decide +kernel
theorem dX2_dreamYear_64 : decode cX2_dreamYear 64 = .ok (.aload_n 0, 1) := by decide +kernel
theorem dX2_dreamYear_65 : decode cX2_dreamYear 65 = .ok (.getfield 12, 3) := by decide +kernel
theorem dX2_dreamYear_68 : decode cX2_dreamYear 68 = .ok (.iload 6, 2) := by decide +kernel
theorem dX2_dreamYear_70 : decode cX2_dreamYear 70 = .ok (.iload 7, 2) := by decide +kernel
theorem dX2_dreamYear_72 : decode cX2_dreamYear 72 = .ok (.invokevirtual 55, 3) := by decide +kernel
theorem dX2_dreamYear_75 : decode cX2_dreamYear 75 = .ok (.iinc 5 1, 3) := by decide +kernel
theorem dX2_dreamYear_78 : decode cX2_dreamYear 78 = .ok (.goto (-64), 3) := by decide +kernel
theorem dX2_dreamYear_81 : decode cX2_dreamYear 81 = .ok (.return_, 1) := by decide +kernel
theorem dX3_around_0 : decode cX3_around 0 = .ok (.iload_n 0, 1) := by decide +kernel
theorem dX3_around_1 : decode cX3_around 1 = .ok (.iconst 1, 1) := by decide +kernel
theorem dX3_around_2 : decode cX3_around 2 = .ok (.ishl, 1) := by decide +kernel
theorem dX3_around_3 : decode cX3_around 3 = .ok (.iload_n 1, 1) := by decide +kernel
theorem dX3_around_4 : decode cX3_around 4 = .ok (.ishr, 1) := by decide +kernel
theorem dX3_around_5 : decode cX3_around 5 = .ok (.bipush 7, 2) := by decide +kernel
theorem dX3_around_7 : decode cX3_around 7 = .ok (.iand, 1) := by decide +kernel
theorem dX3_around_8 : decode cX3_around 8 = .ok (.ireturn, 1) := by decide +kernel
theorem dX3_grown_0 : decode cX3_grown 0 = .ok (.iconst 0, 1) := by decide +kernel
theorem dX3_grown_1 : decode cX3_grown 1 = .ok (.istore_n 2, 1) := by decide +kernel
theorem dX3_grown_2 : decode cX3_grown 2 = .ok (.iconst 0, 1) := by decide +kernel
theorem dX3_grown_3 : decode cX3_grown 3 = .ok (.istore_n 3, 1) := by decide +kernel
theorem dX3_grown_4 : decode cX3_grown 4 = .ok (.iload_n 3, 1) := by decide +kernel
theorem dX3_grown_5 : decode cX3_grown 5 = .ok (.bipush 8, 2) := by decide +kernel
theorem dX3_grown_7 : decode cX3_grown 7 = .ok (.if_icmp .ge 23, 3) := by decide +kernel
theorem dX3_grown_10 : decode cX3_grown 10 = .ok (.iload_n 2, 1) := by decide +kernel
theorem dX3_grown_11 : decode cX3_grown 11 = .ok (.iload_n 1, 1) := by decide +kernel
theorem dX3_grown_12 : decode cX3_grown 12 = .ok (.iload_n 0, 1) := by decide +kernel
theorem dX3_grown_13 : decode cX3_grown 13 = .ok (.iload_n 3, 1) := by decide +kernel
theorem dX3_grown_14 : decode cX3_grown 14 = .ok (.invokestatic 9, 3) := by decide +kernel
theorem dX3_grown_17 : decode cX3_grown 17 = .ok (.invokestatic 15, 3) := by decide +kernel
theorem dX3_grown_20 : decode cX3_grown 20 = .ok (.iload_n 3, 1) := by decide +kernel
theorem dX3_grown_21 : decode cX3_grown 21 = .ok (.ishl, 1) := by decide +kernel
theorem dX3_grown_22 : decode cX3_grown 22 = .ok (.ior, 1) := by decide +kernel
theorem dX3_grown_23 : decode cX3_grown 23 = .ok (.istore_n 2, 1) := by decide +kernel
theorem dX3_grown_24 : decode cX3_grown 24 = .ok (.iinc 3 1, 3) := by decide +kernel
theorem dX3_grown_27 : decode cX3_grown 27 = .ok (.goto (-23), 3) := by decide +kernel
theorem dX3_grown_30 : decode cX3_grown 30 = .ok (.iload_n 2, 1) := by decide +kernel
theorem dX3_grown_31 : decode cX3_grown 31 = .ok (.ireturn, 1) := by decide +kernel
theorem dX3_readAloud_0 : decode cX3_readAloud 0 = .ok (.iconst 0, 1) := by decide +kernel
theorem dX3_readAloud_1 : decode cX3_readAloud 1 = .ok (.istore_n 1, 1) := by decide +kernel
theorem dX3_readAloud_2 : decode cX3_readAloud 2 = .ok (.iconst 0, 1) := by decide +kernel
theorem dX3_readAloud_3 : decode cX3_readAloud 3 = .ok (.istore_n 2, 1) := by decide +kernel
theorem dX3_readAloud_4 : decode cX3_readAloud 4 = .ok (.iconst 0, 1) := by decide +kernel
theorem dX3_readAloud_5 : decode cX3_readAloud 5 = .ok (.istore_n 3, 1) := by decide +kernel
theorem dX3_readAloud_6 : decode cX3_readAloud 6 = .ok (.iload_n 3, 1) := by decide +kernel
theorem dX3_readAloud_7 : decode cX3_readAloud 7 = .ok (.bipush 8, 2) := by decide +kernel
theorem dX3_readAloud_9 : decode cX3_readAloud 9 = .ok (.if_icmp .ge 42, 3) := by decide +kernel
theorem dX3_readAloud_12 : decode cX3_readAloud 12 = .ok (.iinc 2 1, 3) := by decide +kernel
theorem dX3_readAloud_15 : decode cX3_readAloud 15 = .ok (.iload_n 3, 1) := by decide +kernel
theorem dX3_readAloud_16 : decode cX3_readAloud 16 = .ok (.bipush 7, 2) := by decide +kernel
theorem dX3_readAloud_18 : decode cX3_readAloud 18 = .ok (.if_icmp .eq 18, 3) := by decide +kernel
theorem dX3_readAloud_21 : decode cX3_readAloud 21 = .ok (.iload_n 0, 1) := by decide +kernel
theorem dX3_readAloud_22 : decode cX3_readAloud 22 = .ok (.iload_n 3, 1) := by decide +kernel
theorem dX3_readAloud_23 : decode cX3_readAloud 23 = .ok (.invokestatic 15, 3) := by decide +kernel
theorem dX3_readAloud_26 : decode cX3_readAloud 26 = .ok (.iload_n 0, 1) := by decide +kernel
theorem dX3_readAloud_27 : decode cX3_readAloud 27 = .ok (.iload_n 3, 1) := by decide +kernel
theorem dX3_readAloud_28 : decode cX3_readAloud 28 = .ok (.iconst 1, 1) := by decide +kernel
theorem dX3_readAloud_29 : decode cX3_readAloud 29 = .ok (.iadd, 1) := by decide +kernel
theorem dX3_readAloud_30 : decode cX3_readAloud 30 = .ok (.invokestatic 15, 3) := by decide +kernel
theorem dX3_readAloud_33 : decode cX3_readAloud 33 = .ok (.if_icmp .eq 12, 3) := by decide +kernel
theorem dX3_readAloud_36 : decode cX3_readAloud 36 = .ok (.iload_n 1, 1) := by decide +kernel
theorem dX3_readAloud_37 : decode cX3_readAloud 37 = .ok (.bipush 10, 2) := by decide +kernel
theorem dX3_readAloud_39 : decode cX3_readAloud 39 = .ok (.imul, 1) := by decide +kernel
theorem dX3_readAloud_40 : decode cX3_readAloud 40 = .ok (.iload_n 2, 1) := by decide +kernel
theorem dX3_readAloud_41 : decode cX3_readAloud 41 = .ok (.iadd, 1) := by decide +kernel
theorem dX3_readAloud_42 : decode cX3_readAloud 42 = .ok (.istore_n 1, 1) := by decide +kernel
theorem dX3_readAloud_43 : decode cX3_readAloud 43 = .ok (.iconst 0, 1) := by decide +kernel
theorem dX3_readAloud_44 : decode cX3_readAloud 44 = .ok (.istore_n 2, 1) := by decide +kernel
theorem dX3_readAloud_45 : decode cX3_readAloud 45 = .ok (.iinc 3 1, 3) := by decide +kernel
theorem dX3_readAloud_48 : decode cX3_readAloud 48 = .ok (.goto (-42), 3) := by decide +kernel
theorem dX3_readAloud_51 : decode cX3_readAloud 51 = .ok (.iload_n 1, 1) := by decide +kernel
theorem dX3_readAloud_52 : decode cX3_readAloud 52 = .ok (.ireturn, 1) := by decide +kernel
theorem dX3_rows_0 : decode cX3_rows 0 = .ok (.iload_n 2, 1) := by decide +kernel
theorem dX3_rows_1 : decode cX3_rows 1 = .ok (.ifCond .gt 14, 3) := by decide +kernel
theorem dX3_rows_4 : decode cX3_rows 4 = .ok (.iload_n 0, 1) := by decide +kernel
theorem dX3_rows_5 : decode cX3_rows 5 = .ok (.iload_n 1, 1) := by decide +kernel
theorem dX3_rows_6 : decode cX3_rows 6 = .ok (.if_icmp .ne 7, 3) := by decide +kernel
theorem dX3_rows_9 : decode cX3_rows 9 = .ok (.iconst 1, 1) := by decide +kernel
theorem dX3_rows_10 : decode cX3_rows 10 = .ok (.goto 4, 3) := by decide +kernel
theorem dX3_rows_13 : decode cX3_rows 13 = .ok (.iconst 0, 1) := by decide +kernel
theorem dX3_rows_14 : decode cX3_rows 14 = .ok (.ireturn, 1) := by decide +kernel
theorem dX3_rows_15 : decode cX3_rows 15 = .ok (.iload_n 0, 1) := by decide +kernel
theorem dX3_rows_16 : decode cX3_rows 16 = .ok (.iload_n 3, 1) := by decide +kernel
theorem dX3_rows_17 : decode cX3_rows 17 = .ok (.invokestatic 18, 3) := by decide +kernel
theorem dX3_rows_20 : decode cX3_rows 20 = .ok (.iload_n 1, 1) := by decide +kernel
theorem dX3_rows_21 : decode cX3_rows 21 = .ok (.iload_n 2, 1) := by decide +kernel
theorem dX3_rows_22 : decode cX3_rows 22 = .ok (.iconst 1, 1) := by decide +kernel
theorem dX3_rows_23 : decode cX3_rows 23 = .ok (.isub, 1) := by decide +kernel
theorem dX3_rows_24 : decode cX3_rows 24 = .ok (.iload_n 3, 1) := by decide +kernel
theorem dX3_rows_25 : decode cX3_rows 25 = .ok (.iload 4, 2) := by decide +kernel
theorem dX3_rows_27 : decode cX3_rows 27 = .ok (.invokestatic 21, 3) := by decide +kernel
theorem dX3_rows_30 : decode cX3_rows 30 = .ok (.iload_n 0, 1) := by decide +kernel
theorem dX3_rows_31 : decode cX3_rows 31 = .ok (.iload 4, 2) := by decide +kernel
theorem dX3_rows_33 : decode cX3_rows 33 = .ok (.invokestatic 18, 3) := by decide +kernel
theorem dX3_rows_36 : decode cX3_rows 36 = .ok (.iload_n 1, 1) := by decide +kernel
theorem dX3_rows_37 : decode cX3_rows 37 = .ok (.iload_n 2, 1) := by decide +kernel
theorem dX3_rows_38 : decode cX3_rows 38 = .ok (.iconst 1, 1) := by decide +kernel
theorem dX3_rows_39 : decode cX3_rows 39 = .ok (.isub, 1) := by decide +kernel
theorem dX3_rows_40 : decode cX3_rows 40 = .ok (.iload_n 3, 1) := by decide +kernel
theorem dX3_rows_41 : decode cX3_rows 41 = .ok (.iload 4, 2) := by decide +kernel
theorem dX3_rows_43 : decode cX3_rows 43 = .ok (.invokestatic 21, 3) := by decide +kernel
theorem dX3_rows_46 : decode cX3_rows 46 = .ok (.iadd, 1) := by decide +kernel
theorem dX3_rows_47 : decode cX3_rows 47 = .ok (.ireturn, 1) := by decide +kernel
theorem dX3_firstRow_0 : decode cX3_firstRow 0 = .ok (.iload_n 0, 1) := by decide +kernel
theorem dX3_firstRow_1 : decode cX3_firstRow 1 = .ok (.iload_n 1, 1) := by decide +kernel
theorem dX3_firstRow_2 : decode cX3_firstRow 2 = .ok (.iload_n 2, 1) := by decide +kernel
theorem dX3_firstRow_3 : decode cX3_firstRow 3 = .ok (.iload_n 3, 1) := by decide +kernel
theorem dX3_firstRow_4 : decode cX3_firstRow 4 = .ok (.iload 4, 2) := by decide +kernel
theorem dX3_firstRow_6 : decode cX3_firstRow 6 = .ok (.invokestatic 21, 3) := by decide +kernel
theorem dX3_firstRow_9 : decode cX3_firstRow 9 = .ok (.ifCond .ne 7, 3) := by decide +kernel
theorem dX3_firstRow_12 : decode cX3_firstRow 12 = .ok (.ldc2_w 25, 3) := by decide +kernel
theorem dX3_firstRow_15 : decode cX3_firstRow 15 = .ok (.lreturn, 1) := by decide +kernel
theorem dX3_firstRow_16 : decode cX3_firstRow 16 = .ok (.lconst 0, 1) := by decide +kernel
theorem dX3_firstRow_17 : decode cX3_firstRow 17 = .ok (.lstore 5, 2) := by decide +kernel
theorem dX3_firstRow_19 : decode cX3_firstRow 19 = .ok (.iload_n 0, 1) := by decide +kernel
theorem dX3_firstRow_20 : decode cX3_firstRow 20 = .ok (.istore 7, 2) := by decide +kernel
theorem dX3_firstRow_22 : decode cX3_firstRow 22 = .ok (.iload_n 2, 1) := by decide +kernel
theorem dX3_firstRow_23 : decode cX3_firstRow 23 = .ok (.iconst 1, 1) := by decide +kernel
theorem dX3_firstRow_24 : decode cX3_firstRow 24 = .ok (.isub, 1) := by decide +kernel
theorem dX3_firstRow_25 : decode cX3_firstRow 25 = .ok (.istore 8, 2) := by decide +kernel
theorem dX3_firstRow_27 : decode cX3_firstRow 27 = .ok (.iload 8, 2) := by decide +kernel
theorem dX3_firstRow_29 : decode cX3_firstRow 29 = .ok (.ifCond .lt 77, 3) := by decide +kernel
theorem dX3_firstRow_32 : decode cX3_firstRow 32 = .ok (.iload 7, 2) := by decide +kernel
theorem dX3_firstRow_34 : decode cX3_firstRow 34 = .ok (.iload_n 3, 1) := by decide +kernel
theorem dX3_firstRow_35 : decode cX3_firstRow 35 = .ok (.invokestatic 18, 3) := by decide +kernel
theorem dX3_firstRow_38 : decode cX3_firstRow 38 = .ok (.istore 9, 2) := by decide +kernel
theorem dX3_firstRow_40 : decode cX3_firstRow 40 = .ok (.iload 9, 2) := by decide +kernel
theorem dX3_firstRow_42 : decode cX3_firstRow 42 = .ok (.iload_n 1, 1) := by decide +kernel
theorem dX3_firstRow_43 : decode cX3_firstRow 43 = .ok (.iload 8, 2) := by decide +kernel
theorem dX3_firstRow_45 : decode cX3_firstRow 45 = .ok (.iload_n 3, 1) := by decide +kernel
theorem dX3_firstRow_46 : decode cX3_firstRow 46 = .ok (.iload 4, 2) := by decide +kernel
theorem dX3_firstRow_48 : decode cX3_firstRow 48 = .ok (.invokestatic 21, 3) := by decide +kernel
theorem dX3_firstRow_51 : decode cX3_firstRow 51 = .ok (.ifCond .le 7, 3) := by decide +kernel
theorem dX3_firstRow_54 : decode cX3_firstRow 54 = .ok (.iconst 1, 1) := by decide +kernel
theorem dX3_firstRow_55 : decode cX3_firstRow 55 = .ok (.goto 4, 3) := by decide +kernel
theorem dX3_firstRow_58 : decode cX3_firstRow 58 = .ok (.iconst 0, 1) := by decide +kernel
theorem dX3_firstRow_59 : decode cX3_firstRow 59 = .ok (.istore 10, 2) := by decide +kernel
theorem dX3_firstRow_61 : decode cX3_firstRow 61 = .ok (.lload 5, 2) := by decide +kernel
theorem dX3_firstRow_63 : decode cX3_firstRow 63 = .ok (.ldc2_w 27, 3) := by decide +kernel
theorem dX3_firstRow_66 : decode cX3_firstRow 66 = .ok (.lmul, 1) := by decide +kernel
theorem dX3_firstRow_67 : decode cX3_firstRow 67 = .ok (.iload 10, 2) := by decide +kernel
theorem dX3_firstRow_69 : decode cX3_firstRow 69 = .ok (.ifCond .eq 7, 3) := by decide +kernel
theorem dX3_firstRow_72 : decode cX3_firstRow 72 = .ok (.iconst 1, 1) := by decide +kernel
theorem dX3_firstRow_73 : decode cX3_firstRow 73 = .ok (.goto 4, 3) := by decide +kernel
theorem dX3_firstRow_76 : decode cX3_firstRow 76 = .ok (.iconst 2, 1) := by decide +kernel
theorem dX3_firstRow_77 : decode cX3_firstRow 77 = .ok (.i2l, 1) := by decide +kernel
theorem dX3_firstRow_78 : decode cX3_firstRow 78 = .ok (.ladd, 1) := by decide +kernel
theorem dX3_firstRow_79 : decode cX3_firstRow 79 = .ok (.lstore 5, 2) := by decide +kernel
theorem dX3_firstRow_81 : decode cX3_firstRow 81 = .ok (.iload 10, 2) := by decide +kernel
theorem dX3_firstRow_83 : decode cX3_firstRow 83 = .ok (.ifCond .eq 8, 3) := by decide +kernel
theorem dX3_firstRow_86 : decode cX3_firstRow 86 = .ok (.iload 9, 2) := by decide +kernel
theorem dX3_firstRow_88 : decode cX3_firstRow 88 = .ok (.goto 10, 3) := by decide +kernel
theorem dX3_firstRow_91 : decode cX3_firstRow 91 = .ok (.iload 7, 2) := by decide +kernel
theorem dX3_firstRow_93 : decode cX3_firstRow 93 = .ok (.iload 4, 2) := by decide +kernel
theorem dX3_firstRow_95 : decode cX3_firstRow 95 = .ok (.invokestatic 18, 3) := by decide +kernel
theorem dX3_firstRow_98 : decode cX3_firstRow 98 = .ok (.istore 7, 2) := by decide +kernel
theorem dX3_firstRow_100 : decode cX3_firstRow 100 = .ok (.iinc 8 (-1), 3) := by decide +kernel
theorem dX3_firstRow_103 : decode cX3_firstRow 103 = .ok (.goto (-76), 3) := by decide +kernel
theorem dX3_firstRow_106 : decode cX3_firstRow 106 = .ok (.lload 5, 2) := by decide +kernel
theorem dX3_firstRow_108 : decode cX3_firstRow 108 = .ok (.lreturn, 1) := by decide +kernel
theorem dX4_init_0 : decode cX4_init 0 = .ok (.aload_n 0, 1) := by decide +kernel
theorem dX4_init_1 : decode cX4_init 1 = .ok (.invokespecial 3, 3) := by decide +kernel
theorem dX4_init_4 : decode cX4_init 4 = .ok (.aload_n 0, 1) := by decide +kernel
theorem dX4_init_5 : decode cX4_init 5 = .ok (.bipush 16, 2) := by decide +kernel
theorem dX4_init_7 : decode cX4_init 7 = .ok (.newarray .int, 2) := by decide +kernel
theorem dX4_init_9 : decode cX4_init 9 = .ok (.putfield 9, 3) := by decide +kernel
theorem dX4_init_12 : decode cX4_init 12 = .ok (.return_, 1) := by decide +kernel
theorem dX4_fall_0 : decode cX4_fall 0 = .ok (.aload_n 0, 1) := by decide +kernel
theorem dX4_fall_1 : decode cX4_fall 1 = .ok (.getfield 9, 3) := by decide +kernel
theorem dX4_fall_4 : decode cX4_fall 4 = .ok (.iconst 0, 1) := by decide +kernel
theorem dX4_fall_5 : decode cX4_fall 5 = .ok (.invokestatic 15, 3) := by decide +kernel
theorem dX4_fall_8 : decode cX4_fall 8 = .ok (.aload_n 0, 1) := by decide +kernel
theorem dX4_fall_9 : decode cX4_fall 9 = .ok (.getfield 9, 3) := by decide +kernel
theorem dX4_fall_12 : decode cX4_fall 12 = .ok (.iload_n 1, 1) := by decide +kernel
theorem dX4_fall_13 : decode cX4_fall 13 = .ok (.iconst 1, 1) := by decide +kernel
theorem dX4_fall_14 : decode cX4_fall 14 = .ok (.iastore, 1) := by decide +kernel
theorem dX4_fall_15 : decode cX4_fall 15 = .ok (.iconst 0, 1) := by decide +kernel
theorem dX4_fall_16 : decode cX4_fall 16 = .ok (.istore 5, 2) := by decide +kernel
theorem dX4_fall_18 : decode cX4_fall 18 = .ok (.iload 5, 2) := by decide +kernel
theorem dX4_fall_20 : decode cX4_fall 20 = .ok (.iload_n 2, 1) := by decide +kernel
theorem dX4_fall_21 : decode cX4_fall 21 = .ok (.if_icmp .ge 91, 3) := by decide +kernel
theorem dX4_fall_24 : decode cX4_fall 24 = .ok (.iconst 0, 1) := by decide +kernel
theorem dX4_fall_25 : decode cX4_fall 25 = .ok (.istore 6, 2) := by decide +kernel
theorem dX4_fall_27 : decode cX4_fall 27 = .ok (.iconst 0, 1) := by decide +kernel
theorem dX4_fall_28 : decode cX4_fall 28 = .ok (.istore 7, 2) := by decide +kernel
theorem dX4_fall_30 : decode cX4_fall 30 = .ok (.iload 7, 2) := by decide +kernel
theorem dX4_fall_32 : decode cX4_fall 32 = .ok (.bipush 16, 2) := by decide +kernel
theorem dX4_fall_34 : decode cX4_fall 34 = .ok (.if_icmp .ge 72, 3) := by decide +kernel
theorem dX4_fall_37 : decode cX4_fall 37 = .ok (.aload_n 0, 1) := by decide +kernel
theorem dX4_fall_38 : decode cX4_fall 38 = .ok (.getfield 9, 3) := by decide +kernel
theorem dX4_fall_41 : decode cX4_fall 41 = .ok (.iload 7, 2) := by decide +kernel
theorem dX4_fall_43 : decode cX4_fall 43 = .ok (.iaload, 1) := by decide +kernel
theorem dX4_fall_44 : decode cX4_fall 44 = .ok (.istore 8, 2) := by decide +kernel
theorem dX4_fall_46 : decode cX4_fall 46 = .ok (.iload 7, 2) := by decide +kernel
theorem dX4_fall_48 : decode cX4_fall 48 = .ok (.bipush 15, 2) := by decide +kernel
theorem dX4_fall_50 : decode cX4_fall 50 = .ok (.if_icmp .ne 7, 3) := by decide +kernel
theorem dX4_fall_53 : decode cX4_fall 53 = .ok (.iconst 0, 1) := by decide +kernel
theorem dX4_fall_54 : decode cX4_fall 54 = .ok (.goto 12, 3) := by decide +kernel
theorem dX4_fall_57 : decode cX4_fall 57 = .ok (.aload_n 0, 1) := by decide +kernel
theorem dX4_fall_58 : decode cX4_fall 58 = .ok (.getfield 9, 3) := by decide +kernel
theorem dX4_fall_61 : decode cX4_fall 61 = .ok (.iload 7, 2) := by decide +kernel
theorem dX4_fall_63 : decode cX4_fall 63 = .ok (.iconst 1, 1) := by decide +kernel
theorem dX4_fall_64 : decode cX4_fall 64 = .ok (.iadd, 1) := by decide +kernel
theorem dX4_fall_65 : decode cX4_fall 65 = .ok (.iaload, 1) := by decide +kernel
theorem dX4_fall_66 : decode cX4_fall 66 = .ok (.istore 9, 2) := by decide +kernel
theorem dX4_fall_68 : decode cX4_fall 68 = .ok (.aload_n 0, 1) := by decide +kernel
theorem dX4_fall_69 : decode cX4_fall 69 = .ok (.getfield 9, 3) := by decide +kernel
theorem dX4_fall_72 : decode cX4_fall 72 = .ok (.iload 7, 2) := by decide +kernel
theorem dX4_fall_74 : decode cX4_fall 74 = .ok (.iload 8, 2) := by decide +kernel
theorem dX4_fall_76 : decode cX4_fall 76 = .ok (.bipush 10, 2) := by decide +kernel
theorem dX4_fall_78 : decode cX4_fall 78 = .ok (.iload_n 3, 1) := by decide +kernel
theorem dX4_fall_79 : decode cX4_fall 79 = .ok (.isub, 1) := by decide +kernel
theorem dX4_fall_80 : decode cX4_fall 80 = .ok (.iload 4, 2) := by decide +kernel
theorem dX4_fall_82 : decode cX4_fall 82 = .ok (.isub, 1) := by decide +kernel
theorem dX4_fall_83 : decode cX4_fall 83 = .ok (.imul, 1) := by decide +kernel
theorem dX4_fall_84 : decode cX4_fall 84 = .ok (.iload 6, 2) := by decide +kernel
theorem dX4_fall_86 : decode cX4_fall 86 = .ok (.iload 4, 2) := by decide +kernel
theorem dX4_fall_88 : decode cX4_fall 88 = .ok (.imul, 1) := by decide +kernel
theorem dX4_fall_89 : decode cX4_fall 89 = .ok (.iadd, 1) := by decide +kernel
theorem dX4_fall_90 : decode cX4_fall 90 = .ok (.iload 9, 2) := by decide +kernel
theorem dX4_fall_92 : decode cX4_fall 92 = .ok (.iload_n 3, 1) := by decide +kernel
theorem dX4_fall_93 : decode cX4_fall 93 = .ok (.imul, 1) := by decide +kernel
theorem dX4_fall_94 : decode cX4_fall 94 = .ok (.iadd, 1) := by decide +kernel
theorem dX4_fall_95 : decode cX4_fall 95 = .ok (.iastore, 1) := by decide +kernel
theorem dX4_fall_96 : decode cX4_fall 96 = .ok (.iload 8, 2) := by decide +kernel
theorem dX4_fall_98 : decode cX4_fall 98 = .ok (.istore 6, 2) := by decide +kernel
theorem dX4_fall_100 : decode cX4_fall 100 = .ok (.iinc 7 1, 3) := by decide +kernel
theorem dX4_fall_103 : decode cX4_fall 103 = .ok (.goto (-73), 3) := by decide +kernel
theorem dX4_fall_106 : decode cX4_fall 106 = .ok (.iinc 5 1, 3) := by decide +kernel
theorem dX4_fall_109 : decode cX4_fall 109 = .ok (.goto (-91), 3) := by decide +kernel
theorem dX4_fall_112 : decode cX4_fall 112 = .ok (.return_, 1) := by decide +kernel
theorem dX4_chance_0 : decode cX4_chance 0 = .ok (.iconst 1, 1) := by decide +kernel
theorem dX4_chance_1 : decode cX4_chance 1 = .ok (.istore 4, 2) := by decide +kernel
theorem dX4_chance_3 : decode cX4_chance 3 = .ok (.iconst 0, 1) := by decide +kernel
theorem dX4_chance_4 : decode cX4_chance 4 = .ok (.istore 5, 2) := by decide +kernel
theorem dX4_chance_6 : decode cX4_chance 6 = .ok (.iload 5, 2) := by decide +kernel
theorem dX4_chance_8 : decode cX4_chance 8 = .ok (.iload_n 2, 1) := by decide +kernel
theorem dX4_chance_9 : decode cX4_chance 9 = .ok (.if_icmp .ge 16, 3) := by decide +kernel
theorem dX4_chance_12 : decode cX4_chance 12 = .ok (.iload 4, 2) := by decide +kernel
theorem dX4_chance_14 : decode cX4_chance 14 = .ok (.bipush 10, 2) := by decide +kernel
theorem dX4_chance_16 : decode cX4_chance 16 = .ok (.imul, 1) := by decide +kernel
theorem dX4_chance_17 : decode cX4_chance 17 = .ok (.istore 4, 2) := by decide +kernel
theorem dX4_chance_19 : decode cX4_chance 19 = .ok (.iinc 5 1, 3) := by decide +kernel
theorem dX4_chance_22 : decode cX4_chance 22 = .ok (.goto (-16), 3) := by decide +kernel
theorem dX4_chance_25 : decode cX4_chance 25 = .ok (.iload_n 1, 1) := by decide +kernel
theorem dX4_chance_26 : decode cX4_chance 26 = .ok (.iconst (-1), 1) := by decide +kernel
theorem dX4_chance_27 : decode cX4_chance 27 = .ok (.if_icmp .ne 13, 3) := by decide +kernel
theorem dX4_chance_30 : decode cX4_chance 30 = .ok (.iload 4, 2) := by decide +kernel
theorem dX4_chance_32 : decode cX4_chance 32 = .ok (.aload_n 0, 1) := by decide +kernel
theorem dX4_chance_33 : decode cX4_chance 33 = .ok (.invokevirtual 21, 3) := by decide +kernel
theorem dX4_chance_36 : decode cX4_chance 36 = .ok (.isub, 1) := by decide +kernel
theorem dX4_chance_37 : decode cX4_chance 37 = .ok (.goto 9, 3) := by decide +kernel
theorem dX4_chance_40 : decode cX4_chance 40 = .ok (.aload_n 0, 1) := by decide +kernel
theorem dX4_chance_41 : decode cX4_chance 41 = .ok (.getfield 9, 3) := by decide +kernel
theorem dX4_chance_44 : decode cX4_chance 44 = .ok (.iload_n 1, 1) := by decide +kernel
theorem dX4_chance_45 : decode cX4_chance 45 = .ok (.iaload, 1) := by decide +kernel
theorem dX4_chance_46 : decode cX4_chance 46 = .ok (.istore 5, 2) := by decide +kernel
theorem dX4_chance_48 : decode cX4_chance 48 = .ok (.iconst 0, 1) := by decide +kernel
theorem dX4_chance_49 : decode cX4_chance 49 = .ok (.istore 6, 2) := by decide +kernel
theorem dX4_chance_51 : decode cX4_chance 51 = .ok (.iload 6, 2) := by decide +kernel
theorem dX4_chance_53 : decode cX4_chance 53 = .ok (.iload_n 2, 1) := by decide +kernel
theorem dX4_chance_54 : decode cX4_chance 54 = .ok (.if_icmp .ge 61, 3) := by decide +kernel
theorem dX4_chance_57 : decode cX4_chance 57 = .ok (.iload 5, 2) := by decide +kernel
theorem dX4_chance_59 : decode cX4_chance 59 = .ok (.iconst 2, 1) := by decide +kernel
theorem dX4_chance_60 : decode cX4_chance 60 = .ok (.irem, 1) := by decide +kernel
theorem dX4_chance_61 : decode cX4_chance 61 = .ok (.ifCond .ne 22, 3) := by decide +kernel
theorem dX4_chance_64 : decode cX4_chance 64 = .ok (.iload 4, 2) := by decide +kernel
theorem dX4_chance_66 : decode cX4_chance 66 = .ok (.iconst 2, 1) := by decide +kernel
theorem dX4_chance_67 : decode cX4_chance 67 = .ok (.irem, 1) := by decide +kernel
theorem dX4_chance_68 : decode cX4_chance 68 = .ok (.ifCond .ne 15, 3) := by decide +kernel
theorem dX4_chance_71 : decode cX4_chance 71 = .ok (.iload 5, 2) := by decide +kernel
theorem dX4_chance_73 : decode cX4_chance 73 = .ok (.iconst 2, 1) := by decide +kernel
theorem dX4_chance_74 : decode cX4_chance 74 = .ok (.idiv, 1) := by decide +kernel
theorem dX4_chance_75 : decode cX4_chance 75 = .ok (.istore 5, 2) := by decide +kernel
theorem dX4_chance_77 : decode cX4_chance 77 = .ok (.iload 4, 2) := by decide +kernel
theorem dX4_chance_79 : decode cX4_chance 79 = .ok (.iconst 2, 1) := by decide +kernel
theorem dX4_chance_80 : decode cX4_chance 80 = .ok (.idiv, 1) := by decide +kernel
theorem dX4_chance_81 : decode cX4_chance 81 = .ok (.istore 4, 2) := by decide +kernel
theorem dX4_chance_83 : decode cX4_chance 83 = .ok (.iload 5, 2) := by decide +kernel
theorem dX4_chance_85 : decode cX4_chance 85 = .ok (.iconst 5, 1) := by decide +kernel
theorem dX4_chance_86 : decode cX4_chance 86 = .ok (.irem, 1) := by decide +kernel
theorem dX4_chance_87 : decode cX4_chance 87 = .ok (.ifCond .ne 22, 3) := by decide +kernel
theorem dX4_chance_90 : decode cX4_chance 90 = .ok (.iload 4, 2) := by decide +kernel
theorem dX4_chance_92 : decode cX4_chance 92 = .ok (.iconst 5, 1) := by decide +kernel
theorem dX4_chance_93 : decode cX4_chance 93 = .ok (.irem, 1) := by decide +kernel
theorem dX4_chance_94 : decode cX4_chance 94 = .ok (.ifCond .ne 15, 3) := by decide +kernel
theorem dX4_chance_97 : decode cX4_chance 97 = .ok (.iload 5, 2) := by decide +kernel
theorem dX4_chance_99 : decode cX4_chance 99 = .ok (.iconst 5, 1) := by decide +kernel
theorem dX4_chance_100 : decode cX4_chance 100 = .ok (.idiv, 1) := by decide +kernel
theorem dX4_chance_101 : decode cX4_chance 101 = .ok (.istore 5, 2) := by decide +kernel
theorem dX4_chance_103 : decode cX4_chance 103 = .ok (.iload 4, 2) := by decide +kernel
theorem dX4_chance_105 : decode cX4_chance 105 = .ok (.iconst 5, 1) := by decide +kernel
theorem dX4_chance_106 : decode cX4_chance 106 = .ok (.idiv, 1) := by decide +kernel
theorem dX4_chance_107 : decode cX4_chance 107 = .ok (.istore 4, 2) := by decide +kernel
theorem dX4_chance_109 : decode cX4_chance 109 = .ok (.iinc 6 1, 3) := by decide +kernel
theorem dX4_chance_112 : decode cX4_chance 112 = .ok (.goto (-61), 3) := by decide +kernel
theorem dX4_chance_115 : decode cX4_chance 115 = .ok (.iload_n 3, 1) := by decide +kernel
theorem dX4_chance_116 : decode cX4_chance 116 = .ok (.ifCond .ne 9, 3) := by decide +kernel
theorem dX4_chance_119 : decode cX4_chance 119 = .ok (.iload 5, 2) := by decide +kernel
theorem dX4_chance_121 : decode cX4_chance 121 = .ok (.i2l, 1) := by decide +kernel
theorem dX4_chance_122 : decode cX4_chance 122 = .ok (.goto 6, 3) := by decide +kernel
theorem dX4_chance_125 : decode cX4_chance 125 = .ok (.iload 4, 2) := by decide +kernel
theorem dX4_chance_127 : decode cX4_chance 127 = .ok (.i2l, 1) := by decide +kernel
theorem dX4_chance_128 : decode cX4_chance 128 = .ok (.lreturn, 1) := by decide +kernel
theorem dX4_all_0 : decode cX4_all 0 = .ok (.iconst 0, 1) := by decide +kernel
theorem dX4_all_1 : decode cX4_all 1 = .ok (.istore_n 1, 1) := by decide +kernel
theorem dX4_all_2 : decode cX4_all 2 = .ok (.iconst 0, 1) := by decide +kernel
theorem dX4_all_3 : decode cX4_all 3 = .ok (.istore_n 2, 1) := by decide +kernel
theorem dX4_all_4 : decode cX4_all 4 = .ok (.iload_n 2, 1) := by decide +kernel
theorem dX4_all_5 : decode cX4_all 5 = .ok (.bipush 16, 2) := by decide +kernel
theorem dX4_all_7 : decode cX4_all 7 = .ok (.if_icmp .ge 18, 3) := by decide +kernel
theorem dX4_all_10 : decode cX4_all 10 = .ok (.iload_n 1, 1) := by decide +kernel
theorem dX4_all_11 : decode cX4_all 11 = .ok (.aload_n 0, 1) := by decide +kernel
theorem dX4_all_12 : decode cX4_all 12 = .ok (.getfield 9, 3) := by decide +kernel
theorem dX4_all_15 : decode cX4_all 15 = .ok (.iload_n 2, 1) := by decide +kernel
theorem dX4_all_16 : decode cX4_all 16 = .ok (.iaload, 1) := by decide +kernel
theorem dX4_all_17 : decode cX4_all 17 = .ok (.iadd, 1) := by decide +kernel
theorem dX4_all_18 : decode cX4_all 18 = .ok (.istore_n 1, 1) := by decide +kernel
theorem dX4_all_19 : decode cX4_all 19 = .ok (.iinc 2 1, 3) := by decide +kernel
theorem dX4_all_22 : decode cX4_all 22 = .ok (.goto (-18), 3) := by decide +kernel
theorem dX4_all_25 : decode cX4_all 25 = .ok (.iload_n 1, 1) := by decide +kernel
theorem dX4_all_26 : decode cX4_all 26 = .ok (.ireturn, 1) := by decide +kernel
theorem dX5_init_0 : decode cX5_init 0 = .ok (.aload_n 0, 1) := by decide +kernel
theorem dX5_init_1 : decode cX5_init 1 = .ok (.invokespecial 3, 3) := by decide +kernel
theorem dX5_init_4 : decode cX5_init 4 = .ok (.aload_n 0, 1) := by decide +kernel
theorem dX5_init_5 : decode cX5_init 5 = .ok (.bipush 60, 2) := by decide +kernel
theorem dX5_init_7 : decode cX5_init 7 = .ok (.newarray .int, 2) := by decide +kernel
theorem dX5_init_9 : decode cX5_init 9 = .ok (.putfield 11, 3) := by decide +kernel
theorem dX5_init_12 : decode cX5_init 12 = .ok (.aload_n 0, 1) := by decide +kernel
theorem dX5_init_13 : decode cX5_init 13 = .ok (.iconst 0, 1) := by decide +kernel
theorem dX5_init_14 : decode cX5_init 14 = .ok (.putfield 15, 3) := by decide +kernel
theorem dX5_init_17 : decode cX5_init 17 = .ok (.aload_n 0, 1) := by decide +kernel
theorem dX5_init_18 : decode cX5_init 18 = .ok (.bipush 60, 2) := by decide +kernel
theorem dX5_init_20 : decode cX5_init 20 = .ok (.newarray .int, 2) := by decide +kernel
theorem dX5_init_22 : decode cX5_init 22 = .ok (.putfield 19, 3) := by decide +kernel
theorem dX5_init_25 : decode cX5_init 25 = .ok (.aload_n 0, 1) := by decide +kernel
theorem dX5_init_26 : decode cX5_init 26 = .ok (.bipush 60, 2) := by decide +kernel
theorem dX5_init_28 : decode cX5_init 28 = .ok (.newarray .int, 2) := by decide +kernel
theorem dX5_init_30 : decode cX5_init 30 = .ok (.putfield 22, 3) := by decide +kernel
theorem dX5_init_33 : decode cX5_init 33 = .ok (.aload_n 0, 1) := by decide +kernel
theorem dX5_init_34 : decode cX5_init 34 = .ok (.iconst 0, 1) := by decide +kernel
theorem dX5_init_35 : decode cX5_init 35 = .ok (.putfield 25, 3) := by decide +kernel
theorem dX5_init_38 : decode cX5_init 38 = .ok (.return_, 1) := by decide +kernel
theorem dX5_add_0 : decode cX5_add 0 = .ok (.aload_n 0, 1) := by decide +kernel
theorem dX5_add_1 : decode cX5_add 1 = .ok (.getfield 15, 3) := by decide +kernel
theorem dX5_add_4 : decode cX5_add 4 = .ok (.bipush 60, 2) := by decide +kernel
theorem dX5_add_6 : decode cX5_add 6 = .ok (.if_icmp .lt 5, 3) := by decide +kernel
theorem dX5_add_9 : decode cX5_add 9 = .ok (.iconst 0, 1) := by decide +kernel
theorem dX5_add_10 : decode cX5_add 10 = .ok (.ireturn, 1) := by decide +kernel
theorem dX5_add_11 : decode cX5_add 11 = .ok (.aload_n 0, 1) := by decide +kernel
theorem dX5_add_12 : decode cX5_add 12 = .ok (.getfield 11, 3) := by decide +kernel
theorem dX5_add_15 : decode cX5_add 15 = .ok (.aload_n 0, 1) := by decide +kernel
theorem dX5_add_16 : decode cX5_add 16 = .ok (.getfield 15, 3) := by decide +kernel
theorem dX5_add_19 : decode cX5_add 19 = .ok (.iload_n 1, 1) := by decide +kernel
theorem dX5_add_20 : decode cX5_add 20 = .ok (.iastore, 1) := by decide +kernel
theorem dX5_add_21 : decode cX5_add 21 = .ok (.aload_n 0, 1) := by decide +kernel
theorem dX5_add_22 : decode cX5_add 22 = .ok (.dup, 1) := by decide +kernel
theorem dX5_add_23 : decode cX5_add 23 = .ok (.getfield 15, 3) := by decide +kernel
theorem dX5_add_26 : decode cX5_add 26 = .ok (.iconst 1, 1) := by decide +kernel
theorem dX5_add_27 : decode cX5_add 27 = .ok (.iadd, 1) := by decide +kernel
theorem dX5_add_28 : decode cX5_add 28 = .ok (.putfield 15, 3) := by decide +kernel
theorem dX5_add_31 : decode cX5_add 31 = .ok (.iconst 1, 1) := by decide +kernel
theorem dX5_add_32 : decode cX5_add 32 = .ok (.ireturn, 1) := by decide +kernel
theorem dX5_readActs_0 : decode cX5_readActs 0 = .ok (.aload_n 0, 1) := by decide +kernel
theorem dX5_readActs_1 : decode cX5_readActs 1 = .ok (.iconst 0, 1) := by decide +kernel
theorem dX5_readActs_2 : decode cX5_readActs 2 = .ok (.putfield 25, 3) := by decide +kernel
theorem dX5_readActs_5 : decode cX5_readActs 5 = .ok (.bipush (-6), 2) := by decide +kernel
theorem dX5_readActs_7 : decode cX5_readActs 7 = .ok (.istore_n 1, 1) := by decide +kernel
theorem dX5_readActs_8 : decode cX5_readActs 8 = .ok (.iconst 0, 1) := by decide +kernel
theorem dX5_readActs_9 : decode cX5_readActs 9 = .ok (.istore_n 2, 1) := by decide +kernel
theorem dX5_readActs_10 : decode cX5_readActs 10 = .ok (.iload_n 2, 1) := by decide +kernel
theorem dX5_readActs_11 : decode cX5_readActs 11 = .ok (.aload_n 0, 1) := by decide +kernel
theorem dX5_readActs_12 : decode cX5_readActs 12 = .ok (.getfield 15, 3) := by decide +kernel
theorem dX5_readActs_15 : decode cX5_readActs 15 = .ok (.if_icmp .ge 111, 3) := by decide +kernel
theorem dX5_readActs_18 : decode cX5_readActs 18 = .ok (.iload_n 1, 1) := by decide +kernel
theorem dX5_readActs_19 : decode cX5_readActs 19 = .ok (.bipush (-6), 2) := by decide +kernel
theorem dX5_readActs_21 : decode cX5_readActs 21 = .ok (.if_icmp .ne 30, 3) := by decide +kernel
theorem dX5_readActs_24 : decode cX5_readActs 24 = .ok (.aload_n 0, 1) := by decide +kernel
theorem dX5_readActs_25 : decode cX5_readActs 25 = .ok (.getfield 11, 3) := by decide +kernel
theorem dX5_readActs_28 : decode cX5_readActs 28 = .ok (.iload_n 2, 1) := by decide +kernel
theorem dX5_readActs_29 : decode cX5_readActs 29 = .ok (.iaload, 1) := by decide +kernel
theorem dX5_readActs_30 : decode cX5_readActs 30 = .ok (.invokestatic 28, 3) := by decide +kernel
theorem dX5_readActs_33 : decode cX5_readActs 33 = .ok (.bipush (-6), 2) := by decide +kernel
theorem dX5_readActs_35 : decode cX5_readActs 35 = .ok (.if_icmp .eq 16, 3) := by decide +kernel
theorem dX5_readActs_38 : decode cX5_readActs 38 = .ok (.aload_n 0, 1) := by decide +kernel
theorem dX5_readActs_39 : decode cX5_readActs 39 = .ok (.getfield 11, 3) := by decide +kernel
theorem dX5_readActs_42 : decode cX5_readActs 42 = .ok (.iload_n 2, 1) := by decide +kernel
theorem dX5_readActs_43 : decode cX5_readActs 43 = .ok (.iaload, 1) := by decide +kernel
theorem dX5_readActs_44 : decode cX5_readActs 44 = .ok (.invokestatic 28, 3) := by decide +kernel
theorem dX5_readActs_47 : decode cX5_readActs 47 = .ok (.istore_n 1, 1) := by decide +kernel
theorem dX5_readActs_48 : decode cX5_readActs 48 = .ok (.goto 72, 3) := by decide +kernel
theorem dX5_readActs_51 : decode cX5_readActs 51 = .ok (.iload_n 1, 1) := by decide +kernel
theorem dX5_readActs_52 : decode cX5_readActs 52 = .ok (.bipush (-6), 2) := by decide +kernel
theorem dX5_readActs_54 : decode cX5_readActs 54 = .ok (.if_icmp .ne 15, 3) := by decide +kernel
theorem dX5_readActs_57 : decode cX5_readActs 57 = .ok (.aload_n 0, 1) := by decide +kernel
theorem dX5_readActs_58 : decode cX5_readActs 58 = .ok (.getfield 11, 3) := by decide +kernel
theorem dX5_readActs_61 : decode cX5_readActs 61 = .ok (.iload_n 2, 1) := by decide +kernel
theorem dX5_readActs_62 : decode cX5_readActs 62 = .ok (.iaload, 1) := by decide +kernel
theorem dX5_readActs_63 : decode cX5_readActs 63 = .ok (.invokestatic 32, 3) := by decide +kernel
theorem dX5_readActs_66 : decode cX5_readActs 66 = .ok (.goto 12, 3) := by decide +kernel
theorem dX5_readActs_69 : decode cX5_readActs 69 = .ok (.aload_n 0, 1) := by decide +kernel
theorem dX5_readActs_70 : decode cX5_readActs 70 = .ok (.getfield 11, 3) := by decide +kernel
theorem dX5_readActs_73 : decode cX5_readActs 73 = .ok (.iload_n 2, 1) := by decide +kernel
theorem dX5_readActs_74 : decode cX5_readActs 74 = .ok (.iaload, 1) := by decide +kernel
theorem dX5_readActs_75 : decode cX5_readActs 75 = .ok (.invokestatic 35, 3) := by decide +kernel
theorem dX5_readActs_78 : decode cX5_readActs 78 = .ok (.istore_n 3, 1) := by decide +kernel
theorem dX5_readActs_79 : decode cX5_readActs 79 = .ok (.iload_n 3, 1) := by decide +kernel
theorem dX5_readActs_80 : decode cX5_readActs 80 = .ok (.bipush (-6), 2) := by decide +kernel
theorem dX5_readActs_82 : decode cX5_readActs 82 = .ok (.if_icmp .ne 5, 3) := by decide +kernel
theorem dX5_readActs_85 : decode cX5_readActs 85 = .ok (.iload_n 2, 1) := by decide +kernel
theorem dX5_readActs_86 : decode cX5_readActs 86 = .ok (.ireturn, 1) := by decide +kernel
theorem dX5_readActs_87 : decode cX5_readActs 87 = .ok (.aload_n 0, 1) := by decide +kernel
theorem dX5_readActs_88 : decode cX5_readActs 88 = .ok (.getfield 19, 3) := by decide +kernel
theorem dX5_readActs_91 : decode cX5_readActs 91 = .ok (.aload_n 0, 1) := by decide +kernel
theorem dX5_readActs_92 : decode cX5_readActs 92 = .ok (.getfield 25, 3) := by decide +kernel
theorem dX5_readActs_95 : decode cX5_readActs 95 = .ok (.iload_n 3, 1) := by decide +kernel
theorem dX5_readActs_96 : decode cX5_readActs 96 = .ok (.iastore, 1) := by decide +kernel
theorem dX5_readActs_97 : decode cX5_readActs 97 = .ok (.aload_n 0, 1) := by decide +kernel
theorem dX5_readActs_98 : decode cX5_readActs 98 = .ok (.getfield 22, 3) := by decide +kernel
theorem dX5_readActs_101 : decode cX5_readActs 101 = .ok (.aload_n 0, 1) := by decide +kernel
theorem dX5_readActs_102 : decode cX5_readActs 102 = .ok (.getfield 25, 3) := by decide +kernel
theorem dX5_readActs_105 : decode cX5_readActs 105 = .ok (.iload_n 1, 1) := by decide +kernel
theorem dX5_readActs_106 : decode cX5_readActs 106 = .ok (.iastore, 1) := by decide +kernel
theorem dX5_readActs_107 : decode cX5_readActs 107 = .ok (.aload_n 0, 1) := by decide +kernel
theorem dX5_readActs_108 : decode cX5_readActs 108 = .ok (.dup, 1) := by decide +kernel
theorem dX5_readActs_109 : decode cX5_readActs 109 = .ok (.getfield 25, 3) := by decide +kernel
theorem dX5_readActs_112 : decode cX5_readActs 112 = .ok (.iconst 1, 1) := by decide +kernel
theorem dX5_readActs_113 : decode cX5_readActs 113 = .ok (.iadd, 1) := by decide +kernel
theorem dX5_readActs_114 : decode cX5_readActs 114 = .ok (.putfield 25, 3) := by decide +kernel
theorem dX5_readActs_117 : decode cX5_readActs 117 = .ok (.bipush (-6), 2) := by decide +kernel
theorem dX5_readActs_119 : decode cX5_readActs 119 = .ok (.istore_n 1, 1) := by decide +kernel
theorem dX5_readActs_120 : decode cX5_readActs 120 = .ok (.iinc 2 1, 3) := by decide +kernel
theorem dX5_readActs_123 : decode cX5_readActs 123 = .ok (.goto (-113), 3) := by decide +kernel
theorem dX5_readActs_126 : decode cX5_readActs 126 = .ok (.iload_n 1, 1) := by decide +kernel
theorem dX5_readActs_127 : decode cX5_readActs 127 = .ok (.bipush (-6), 2) := by decide +kernel
theorem dX5_readActs_129 : decode cX5_readActs 129 = .ok (.if_icmp .ne 8, 3) := by decide +kernel
theorem dX5_readActs_132 : decode cX5_readActs 132 = .ok (.bipush (-6), 2) := by decide +kernel
theorem dX5_readActs_134 : decode cX5_readActs 134 = .ok (.goto 7, 3) := by decide +kernel
theorem dX5_readActs_137 : decode cX5_readActs 137 = .ok (.aload_n 0, 1) := by decide +kernel
theorem dX5_readActs_138 : decode cX5_readActs 138 = .ok (.getfield 15, 3) := by decide +kernel
theorem dX5_readActs_141 : decode cX5_readActs 141 = .ok (.ireturn, 1) := by decide +kernel
theorem dX5_oneOf_0 : decode cX5_oneOf 0 = .ok (.iload_n 0, 1) := by decide +kernel
theorem dX5_oneOf_1 : decode cX5_oneOf 1 = .ok (.bipush 65, 2) := by decide +kernel
theorem dX5_oneOf_3 : decode cX5_oneOf 3 = .ok (.if_icmp .lt 16, 3) := by decide +kernel
theorem dX5_oneOf_6 : decode cX5_oneOf 6 = .ok (.iload_n 0, 1) := by decide +kernel
theorem dX5_oneOf_7 : decode cX5_oneOf 7 = .ok (.bipush 71, 2) := by decide +kernel
theorem dX5_oneOf_9 : decode cX5_oneOf 9 = .ok (.if_icmp .ge 10, 3) := by decide +kernel
theorem dX5_oneOf_12 : decode cX5_oneOf 12 = .ok (.iload_n 0, 1) := by decide +kernel
theorem dX5_oneOf_13 : decode cX5_oneOf 13 = .ok (.bipush 65, 2) := by decide +kernel
theorem dX5_oneOf_15 : decode cX5_oneOf 15 = .ok (.isub, 1) := by decide +kernel
theorem dX5_oneOf_16 : decode cX5_oneOf 16 = .ok (.goto 5, 3) := by decide +kernel
theorem dX5_oneOf_19 : decode cX5_oneOf 19 = .ok (.bipush (-6), 2) := by decide +kernel
theorem dX5_oneOf_21 : decode cX5_oneOf 21 = .ok (.ireturn, 1) := by decide +kernel
theorem dX5_weatherOf_0 : decode cX5_weatherOf 0 = .ok (.iload_n 0, 1) := by decide +kernel
theorem dX5_weatherOf_1 : decode cX5_weatherOf 1 = .ok (.lookupswitch 61 #[(46, 59), (60, 55), (62, 57), (99, 51), (100, 53)], 51) := by decide +kernel
theorem dX5_weatherOf_52 : decode cX5_weatherOf 52 = .ok (.iconst 0, 1) := by decide +kernel
theorem dX5_weatherOf_53 : decode cX5_weatherOf 53 = .ok (.ireturn, 1) := by decide +kernel
theorem dX5_weatherOf_54 : decode cX5_weatherOf 54 = .ok (.iconst 1, 1) := by decide +kernel
theorem dX5_weatherOf_55 : decode cX5_weatherOf 55 = .ok (.ireturn, 1) := by decide +kernel
theorem dX5_weatherOf_56 : decode cX5_weatherOf 56 = .ok (.iconst 2, 1) := by decide +kernel
theorem dX5_weatherOf_57 : decode cX5_weatherOf 57 = .ok (.ireturn, 1) := by decide +kernel
theorem dX5_weatherOf_58 : decode cX5_weatherOf 58 = .ok (.iconst 3, 1) := by decide +kernel
theorem dX5_weatherOf_59 : decode cX5_weatherOf 59 = .ok (.ireturn, 1) := by decide +kernel
theorem dX5_weatherOf_60 : decode cX5_weatherOf 60 = .ok (.iconst 4, 1) := by decide +kernel
theorem dX5_weatherOf_61 : decode cX5_weatherOf 61 = .ok (.ireturn, 1) := by decide +kernel
theorem dX5_weatherOf_62 : decode cX5_weatherOf 62 = .ok (.bipush (-6), 2) := by decide +kernel
theorem dX5_weatherOf_64 : decode cX5_weatherOf 64 = .ok (.ireturn, 1) := by decide +kernel
theorem dX5_deedOf_0 : decode cX5_deedOf 0 = .ok (.iload_n 0, 1) := by decide +kernel
theorem dX5_deedOf_1 : decode cX5_deedOf 1 = .ok (.lookupswitch 43 #[(60, 35), (62, 37), (117, 40)], 35) := by decide +kernel
theorem dX5_deedOf_36 : decode cX5_deedOf 36 = .ok (.iconst 5, 1) := by decide +kernel
theorem dX5_deedOf_37 : decode cX5_deedOf 37 = .ok (.ireturn, 1) := by decide +kernel
theorem dX5_deedOf_38 : decode cX5_deedOf 38 = .ok (.bipush 6, 2) := by decide +kernel
theorem dX5_deedOf_40 : decode cX5_deedOf 40 = .ok (.ireturn, 1) := by decide +kernel
theorem dX5_deedOf_41 : decode cX5_deedOf 41 = .ok (.bipush 7, 2) := by decide +kernel
theorem dX5_deedOf_43 : decode cX5_deedOf 43 = .ok (.ireturn, 1) := by decide +kernel
theorem dX5_deedOf_44 : decode cX5_deedOf 44 = .ok (.bipush (-6), 2) := by decide +kernel
theorem dX5_deedOf_46 : decode cX5_deedOf 46 = .ok (.ireturn, 1) := by decide +kernel
theorem dX6_init_0 : decode cX6_init 0 = .ok (.aload_n 0, 1) := by decide +kernel
theorem dX6_init_1 : decode cX6_init 1 = .ok (.invokespecial 3, 3) := by decide +kernel
theorem dX6_init_4 : decode cX6_init 4 = .ok (.aload_n 0, 1) := by decide +kernel
theorem dX6_init_5 : decode cX6_init 5 = .ok (.bipush 61, 2) := by decide +kernel
theorem dX6_init_7 : decode cX6_init 7 = .ok (.newarray .int, 2) := by decide +kernel
theorem dX6_init_9 : decode cX6_init 9 = .ok (.putfield 9, 3) := by decide +kernel
theorem dX6_init_12 : decode cX6_init 12 = .ok (.iconst 0, 1) := by decide +kernel
theorem dX6_init_13 : decode cX6_init 13 = .ok (.istore_n 1, 1) := by decide +kernel
theorem dX6_init_14 : decode cX6_init 14 = .ok (.iload_n 1, 1) := by decide +kernel
theorem dX6_init_15 : decode cX6_init 15 = .ok (.bipush 60, 2) := by decide +kernel
theorem dX6_init_17 : decode cX6_init 17 = .ok (.if_icmp .gt 45, 3) := by decide +kernel
theorem dX6_init_20 : decode cX6_init 20 = .ok (.iconst 0, 1) := by decide +kernel
theorem dX6_init_21 : decode cX6_init 21 = .ok (.istore_n 2, 1) := by decide +kernel
theorem dX6_init_22 : decode cX6_init 22 = .ok (.iload_n 2, 1) := by decide +kernel
theorem dX6_init_23 : decode cX6_init 23 = .ok (.iconst 3, 1) := by decide +kernel
theorem dX6_init_24 : decode cX6_init 24 = .ok (.if_icmp .gt 32, 3) := by decide +kernel
theorem dX6_init_27 : decode cX6_init 27 = .ok (.aload_n 0, 1) := by decide +kernel
theorem dX6_init_28 : decode cX6_init 28 = .ok (.iload_n 1, 1) := by decide +kernel
theorem dX6_init_29 : decode cX6_init 29 = .ok (.iload_n 2, 1) := by decide +kernel
theorem dX6_init_30 : decode cX6_init 30 = .ok (.invokevirtual 15, 3) := by decide +kernel
theorem dX6_init_33 : decode cX6_init 33 = .ok (.bipush (-6), 2) := by decide +kernel
theorem dX6_init_35 : decode cX6_init 35 = .ok (.if_icmp .eq 15, 3) := by decide +kernel
theorem dX6_init_38 : decode cX6_init 38 = .ok (.aload_n 0, 1) := by decide +kernel
theorem dX6_init_39 : decode cX6_init 39 = .ok (.getfield 9, 3) := by decide +kernel
theorem dX6_init_42 : decode cX6_init 42 = .ok (.iload_n 1, 1) := by decide +kernel
theorem dX6_init_43 : decode cX6_init 43 = .ok (.dup2, 1) := by decide +kernel
theorem dX6_init_44 : decode cX6_init 44 = .ok (.iaload, 1) := by decide +kernel
theorem dX6_init_45 : decode cX6_init 45 = .ok (.iconst 1, 1) := by decide +kernel
theorem dX6_init_46 : decode cX6_init 46 = .ok (.iload_n 2, 1) := by decide +kernel
theorem dX6_init_47 : decode cX6_init 47 = .ok (.ishl, 1) := by decide +kernel
theorem dX6_init_48 : decode cX6_init 48 = .ok (.ior, 1) := by decide +kernel
theorem dX6_init_49 : decode cX6_init 49 = .ok (.iastore, 1) := by decide +kernel
theorem dX6_init_50 : decode cX6_init 50 = .ok (.iinc 2 1, 3) := by decide +kernel
theorem dX6_init_53 : decode cX6_init 53 = .ok (.goto (-31), 3) := by decide +kernel
theorem dX6_init_56 : decode cX6_init 56 = .ok (.iinc 1 1, 3) := by decide +kernel
theorem dX6_init_59 : decode cX6_init 59 = .ok (.goto (-45), 3) := by decide +kernel
theorem dX6_init_62 : decode cX6_init 62 = .ok (.return_, 1) := by decide +kernel
theorem dX6_winningTake_0 : decode cX6_winningTake 0 = .ok (.iconst 1, 1) := by decide +kernel
theorem dX6_winningTake_1 : decode cX6_winningTake 1 = .ok (.istore_n 3, 1) := by decide +kernel
theorem dX6_winningTake_2 : decode cX6_winningTake 2 = .ok (.iload_n 3, 1) := by decide +kernel
theorem dX6_winningTake_3 : decode cX6_winningTake 3 = .ok (.iconst 3, 1) := by decide +kernel
theorem dX6_winningTake_4 : decode cX6_winningTake 4 = .ok (.if_icmp .gt 36, 3) := by decide +kernel
theorem dX6_winningTake_7 : decode cX6_winningTake 7 = .ok (.iload_n 3, 1) := by decide +kernel
theorem dX6_winningTake_8 : decode cX6_winningTake 8 = .ok (.iload_n 1, 1) := by decide +kernel
theorem dX6_winningTake_9 : decode cX6_winningTake 9 = .ok (.if_icmp .gt 31, 3) := by decide +kernel
theorem dX6_winningTake_12 : decode cX6_winningTake 12 = .ok (.iload_n 3, 1) := by decide +kernel
theorem dX6_winningTake_13 : decode cX6_winningTake 13 = .ok (.iload_n 2, 1) := by decide +kernel
theorem dX6_winningTake_14 : decode cX6_winningTake 14 = .ok (.if_icmp .eq 20, 3) := by decide +kernel
theorem dX6_winningTake_17 : decode cX6_winningTake 17 = .ok (.aload_n 0, 1) := by decide +kernel
theorem dX6_winningTake_18 : decode cX6_winningTake 18 = .ok (.getfield 9, 3) := by decide +kernel
theorem dX6_winningTake_21 : decode cX6_winningTake 21 = .ok (.iload_n 1, 1) := by decide +kernel
theorem dX6_winningTake_22 : decode cX6_winningTake 22 = .ok (.iload_n 3, 1) := by decide +kernel
theorem dX6_winningTake_23 : decode cX6_winningTake 23 = .ok (.isub, 1) := by decide +kernel
theorem dX6_winningTake_24 : decode cX6_winningTake 24 = .ok (.iaload, 1) := by decide +kernel
theorem dX6_winningTake_25 : decode cX6_winningTake 25 = .ok (.iload_n 3, 1) := by decide +kernel
theorem dX6_winningTake_26 : decode cX6_winningTake 26 = .ok (.invokestatic 19, 3) := by decide +kernel
theorem dX6_winningTake_29 : decode cX6_winningTake 29 = .ok (.ifCond .ne 5, 3) := by decide +kernel
theorem dX6_winningTake_32 : decode cX6_winningTake 32 = .ok (.iload_n 3, 1) := by decide +kernel
theorem dX6_winningTake_33 : decode cX6_winningTake 33 = .ok (.ireturn, 1) := by decide +kernel
theorem dX6_winningTake_34 : decode cX6_winningTake 34 = .ok (.iinc 3 1, 3) := by decide +kernel
theorem dX6_winningTake_37 : decode cX6_winningTake 37 = .ok (.goto (-35), 3) := by decide +kernel
theorem dX6_winningTake_40 : decode cX6_winningTake 40 = .ok (.bipush (-6), 2) := by decide +kernel
theorem dX6_winningTake_42 : decode cX6_winningTake 42 = .ok (.ireturn, 1) := by decide +kernel
theorem dX7_init_0 : decode cX7_init 0 = .ok (.aload_n 0, 1) := by decide +kernel
theorem dX7_init_1 : decode cX7_init 1 = .ok (.invokespecial 3, 3) := by decide +kernel
theorem dX7_init_4 : decode cX7_init 4 = .ok (.aload_n 0, 1) := by decide +kernel
theorem dX7_init_5 : decode cX7_init 5 = .ok (.iconst 0, 1) := by decide +kernel
theorem dX7_init_6 : decode cX7_init 6 = .ok (.putfield 9, 3) := by decide +kernel
theorem dX7_init_9 : decode cX7_init 9 = .ok (.aload_n 0, 1) := by decide +kernel
theorem dX7_init_10 : decode cX7_init 10 = .ok (.bipush 8, 2) := by decide +kernel
theorem dX7_init_12 : decode cX7_init 12 = .ok (.newarray .int, 2) := by decide +kernel
theorem dX7_init_14 : decode cX7_init 14 = .ok (.putfield 15, 3) := by decide +kernel
theorem dX7_init_17 : decode cX7_init 17 = .ok (.aload_n 0, 1) := by decide +kernel
theorem dX7_init_18 : decode cX7_init 18 = .ok (.bipush 8, 2) := by decide +kernel
theorem dX7_init_20 : decode cX7_init 20 = .ok (.newarray .int, 2) := by decide +kernel
theorem dX7_init_22 : decode cX7_init 22 = .ok (.putfield 19, 3) := by decide +kernel
theorem dX7_init_25 : decode cX7_init 25 = .ok (.aload_n 0, 1) := by decide +kernel
theorem dX7_init_26 : decode cX7_init 26 = .ok (.bipush 8, 2) := by decide +kernel
theorem dX7_init_28 : decode cX7_init 28 = .ok (.newarray .int, 2) := by decide +kernel
theorem dX7_init_30 : decode cX7_init 30 = .ok (.putfield 22, 3) := by decide +kernel
theorem dX7_init_33 : decode cX7_init 33 = .ok (.aload_n 0, 1) := by decide +kernel
theorem dX7_init_34 : decode cX7_init 34 = .ok (.bipush 8, 2) := by decide +kernel
theorem dX7_init_36 : decode cX7_init 36 = .ok (.newarray .int, 2) := by decide +kernel
theorem dX7_init_38 : decode cX7_init 38 = .ok (.putfield 25, 3) := by decide +kernel
theorem dX7_init_41 : decode cX7_init 41 = .ok (.aload_n 0, 1) := by decide +kernel
theorem dX7_init_42 : decode cX7_init 42 = .ok (.bipush 8, 2) := by decide +kernel
theorem dX7_init_44 : decode cX7_init 44 = .ok (.newarray .int, 2) := by decide +kernel
theorem dX7_init_46 : decode cX7_init 46 = .ok (.putfield 28, 3) := by decide +kernel
theorem dX7_init_49 : decode cX7_init 49 = .ok (.aload_n 0, 1) := by decide +kernel
theorem dX7_init_50 : decode cX7_init 50 = .ok (.bipush 6, 2) := by decide +kernel
theorem dX7_init_52 : decode cX7_init 52 = .ok (.newarray .int, 2) := by decide +kernel
theorem dX7_init_54 : decode cX7_init 54 = .ok (.putfield 31, 3) := by decide +kernel
theorem dX7_init_57 : decode cX7_init 57 = .ok (.aload_n 0, 1) := by decide +kernel
theorem dX7_init_58 : decode cX7_init 58 = .ok (.iconst 0, 1) := by decide +kernel
theorem dX7_init_59 : decode cX7_init 59 = .ok (.putfield 34, 3) := by decide +kernel
theorem dX7_init_62 : decode cX7_init 62 = .ok (.aload_n 0, 1) := by decide +kernel
theorem dX7_init_63 : decode cX7_init 63 = .ok (.bipush 90, 2) := by decide +kernel
theorem dX7_init_65 : decode cX7_init 65 = .ok (.putfield 37, 3) := by decide +kernel
theorem dX7_init_68 : decode cX7_init 68 = .ok (.aload_n 0, 1) := by decide +kernel
theorem dX7_init_69 : decode cX7_init 69 = .ok (.bipush 30, 2) := by decide +kernel
theorem dX7_init_71 : decode cX7_init 71 = .ok (.putfield 40, 3) := by decide +kernel
theorem dX7_init_74 : decode cX7_init 74 = .ok (.aload_n 0, 1) := by decide +kernel
theorem dX7_init_75 : decode cX7_init 75 = .ok (.iconst 0, 1) := by decide +kernel
theorem dX7_init_76 : decode cX7_init 76 = .ok (.putfield 43, 3) := by decide +kernel
theorem dX7_init_79 : decode cX7_init 79 = .ok (.aload_n 0, 1) := by decide +kernel
theorem dX7_init_80 : decode cX7_init 80 = .ok (.iconst 0, 1) := by decide +kernel
theorem dX7_init_81 : decode cX7_init 81 = .ok (.putfield 46, 3) := by decide +kernel
theorem dX7_init_84 : decode cX7_init 84 = .ok (.aload_n 0, 1) := by decide +kernel
theorem dX7_init_85 : decode cX7_init 85 = .ok (.iconst 0, 1) := by decide +kernel
theorem dX7_init_86 : decode cX7_init 86 = .ok (.putfield 49, 3) := by decide +kernel
theorem dX7_init_89 : decode cX7_init 89 = .ok (.iconst 0, 1) := by decide +kernel
theorem dX7_init_90 : decode cX7_init 90 = .ok (.istore_n 1, 1) := by decide +kernel
theorem dX7_init_91 : decode cX7_init 91 = .ok (.iload_n 1, 1) := by decide +kernel
theorem dX7_init_92 : decode cX7_init 92 = .ok (.bipush 6, 2) := by decide +kernel
theorem dX7_init_94 : decode cX7_init 94 = .ok (.if_icmp .ge 16, 3) := by decide +kernel
theorem dX7_init_97 : decode cX7_init 97 = .ok (.aload_n 0, 1) := by decide +kernel
theorem dX7_init_98 : decode cX7_init 98 = .ok (.getfield 31, 3) := by decide +kernel
theorem dX7_init_101 : decode cX7_init 101 = .ok (.iload_n 1, 1) := by decide +kernel
theorem dX7_init_102 : decode cX7_init 102 = .ok (.iload_n 1, 1) := by decide +kernel
theorem dX7_init_103 : decode cX7_init 103 = .ok (.iastore, 1) := by decide +kernel
theorem dX7_init_104 : decode cX7_init 104 = .ok (.iinc 1 1, 3) := by decide +kernel
theorem dX7_init_107 : decode cX7_init 107 = .ok (.goto (-16), 3) := by decide +kernel
theorem dX7_init_110 : decode cX7_init 110 = .ok (.return_, 1) := by decide +kernel
theorem dX7_copy_0 : decode cX7_copy 0 = .ok (.aload_n 0, 1) := by decide +kernel
theorem dX7_copy_1 : decode cX7_copy 1 = .ok (.aload_n 1, 1) := by decide +kernel
theorem dX7_copy_2 : decode cX7_copy 2 = .ok (.getfield 9, 3) := by decide +kernel
theorem dX7_copy_5 : decode cX7_copy 5 = .ok (.putfield 9, 3) := by decide +kernel
theorem dX7_copy_8 : decode cX7_copy 8 = .ok (.aload_n 1, 1) := by decide +kernel
theorem dX7_copy_9 : decode cX7_copy 9 = .ok (.getfield 15, 3) := by decide +kernel
theorem dX7_copy_12 : decode cX7_copy 12 = .ok (.iconst 0, 1) := by decide +kernel
theorem dX7_copy_13 : decode cX7_copy 13 = .ok (.aload_n 0, 1) := by decide +kernel
theorem dX7_copy_14 : decode cX7_copy 14 = .ok (.getfield 15, 3) := by decide +kernel
theorem dX7_copy_17 : decode cX7_copy 17 = .ok (.iconst 0, 1) := by decide +kernel
theorem dX7_copy_18 : decode cX7_copy 18 = .ok (.bipush 8, 2) := by decide +kernel
theorem dX7_copy_20 : decode cX7_copy 20 = .ok (.invokestatic 52, 3) := by decide +kernel
theorem dX7_copy_23 : decode cX7_copy 23 = .ok (.aload_n 1, 1) := by decide +kernel
theorem dX7_copy_24 : decode cX7_copy 24 = .ok (.getfield 19, 3) := by decide +kernel
theorem dX7_copy_27 : decode cX7_copy 27 = .ok (.iconst 0, 1) := by decide +kernel
theorem dX7_copy_28 : decode cX7_copy 28 = .ok (.aload_n 0, 1) := by decide +kernel
theorem dX7_copy_29 : decode cX7_copy 29 = .ok (.getfield 19, 3) := by decide +kernel
theorem dX7_copy_32 : decode cX7_copy 32 = .ok (.iconst 0, 1) := by decide +kernel
theorem dX7_copy_33 : decode cX7_copy 33 = .ok (.bipush 8, 2) := by decide +kernel
theorem dX7_copy_35 : decode cX7_copy 35 = .ok (.invokestatic 52, 3) := by decide +kernel
theorem dX7_copy_38 : decode cX7_copy 38 = .ok (.aload_n 1, 1) := by decide +kernel
theorem dX7_copy_39 : decode cX7_copy 39 = .ok (.getfield 22, 3) := by decide +kernel
theorem dX7_copy_42 : decode cX7_copy 42 = .ok (.iconst 0, 1) := by decide +kernel
theorem dX7_copy_43 : decode cX7_copy 43 = .ok (.aload_n 0, 1) := by decide +kernel
theorem dX7_copy_44 : decode cX7_copy 44 = .ok (.getfield 22, 3) := by decide +kernel
theorem dX7_copy_47 : decode cX7_copy 47 = .ok (.iconst 0, 1) := by decide +kernel
theorem dX7_copy_48 : decode cX7_copy 48 = .ok (.bipush 8, 2) := by decide +kernel
theorem dX7_copy_50 : decode cX7_copy 50 = .ok (.invokestatic 52, 3) := by decide +kernel
theorem dX7_copy_53 : decode cX7_copy 53 = .ok (.aload_n 1, 1) := by decide +kernel
theorem dX7_copy_54 : decode cX7_copy 54 = .ok (.getfield 25, 3) := by decide +kernel
theorem dX7_copy_57 : decode cX7_copy 57 = .ok (.iconst 0, 1) := by decide +kernel
theorem dX7_copy_58 : decode cX7_copy 58 = .ok (.aload_n 0, 1) := by decide +kernel
theorem dX7_copy_59 : decode cX7_copy 59 = .ok (.getfield 25, 3) := by decide +kernel
theorem dX7_copy_62 : decode cX7_copy 62 = .ok (.iconst 0, 1) := by decide +kernel
theorem dX7_copy_63 : decode cX7_copy 63 = .ok (.bipush 8, 2) := by decide +kernel
theorem dX7_copy_65 : decode cX7_copy 65 = .ok (.invokestatic 52, 3) := by decide +kernel
theorem dX7_copy_68 : decode cX7_copy 68 = .ok (.aload_n 1, 1) := by decide +kernel
theorem dX7_copy_69 : decode cX7_copy 69 = .ok (.getfield 28, 3) := by decide +kernel
theorem dX7_copy_72 : decode cX7_copy 72 = .ok (.iconst 0, 1) := by decide +kernel
theorem dX7_copy_73 : decode cX7_copy 73 = .ok (.aload_n 0, 1) := by decide +kernel
theorem dX7_copy_74 : decode cX7_copy 74 = .ok (.getfield 28, 3) := by decide +kernel
theorem dX7_copy_77 : decode cX7_copy 77 = .ok (.iconst 0, 1) := by decide +kernel
theorem dX7_copy_78 : decode cX7_copy 78 = .ok (.bipush 8, 2) := by decide +kernel
theorem dX7_copy_80 : decode cX7_copy 80 = .ok (.invokestatic 52, 3) := by decide +kernel
theorem dX7_copy_83 : decode cX7_copy 83 = .ok (.aload_n 1, 1) := by decide +kernel
theorem dX7_copy_84 : decode cX7_copy 84 = .ok (.getfield 31, 3) := by decide +kernel
theorem dX7_copy_87 : decode cX7_copy 87 = .ok (.iconst 0, 1) := by decide +kernel
theorem dX7_copy_88 : decode cX7_copy 88 = .ok (.aload_n 0, 1) := by decide +kernel
theorem dX7_copy_89 : decode cX7_copy 89 = .ok (.getfield 31, 3) := by decide +kernel
theorem dX7_copy_92 : decode cX7_copy 92 = .ok (.iconst 0, 1) := by decide +kernel
theorem dX7_copy_93 : decode cX7_copy 93 = .ok (.bipush 6, 2) := by decide +kernel
theorem dX7_copy_95 : decode cX7_copy 95 = .ok (.invokestatic 52, 3) := by decide +kernel
theorem dX7_copy_98 : decode cX7_copy 98 = .ok (.aload_n 0, 1) := by decide +kernel
theorem dX7_copy_99 : decode cX7_copy 99 = .ok (.aload_n 1, 1) := by decide +kernel
theorem dX7_copy_100 : decode cX7_copy 100 = .ok (.getfield 34, 3) := by decide +kernel
theorem dX7_copy_103 : decode cX7_copy 103 = .ok (.putfield 34, 3) := by decide +kernel
theorem dX7_copy_106 : decode cX7_copy 106 = .ok (.aload_n 0, 1) := by decide +kernel
theorem dX7_copy_107 : decode cX7_copy 107 = .ok (.aload_n 1, 1) := by decide +kernel
theorem dX7_copy_108 : decode cX7_copy 108 = .ok (.getfield 37, 3) := by decide +kernel
theorem dX7_copy_111 : decode cX7_copy 111 = .ok (.putfield 37, 3) := by decide +kernel
theorem dX7_copy_114 : decode cX7_copy 114 = .ok (.aload_n 0, 1) := by decide +kernel
theorem dX7_copy_115 : decode cX7_copy 115 = .ok (.aload_n 1, 1) := by decide +kernel
theorem dX7_copy_116 : decode cX7_copy 116 = .ok (.getfield 40, 3) := by decide +kernel
theorem dX7_copy_119 : decode cX7_copy 119 = .ok (.putfield 40, 3) := by decide +kernel
theorem dX7_copy_122 : decode cX7_copy 122 = .ok (.aload_n 0, 1) := by decide +kernel
theorem dX7_copy_123 : decode cX7_copy 123 = .ok (.aload_n 1, 1) := by decide +kernel
theorem dX7_copy_124 : decode cX7_copy 124 = .ok (.getfield 43, 3) := by decide +kernel
theorem dX7_copy_127 : decode cX7_copy 127 = .ok (.putfield 43, 3) := by decide +kernel
theorem dX7_copy_130 : decode cX7_copy 130 = .ok (.aload_n 0, 1) := by decide +kernel
theorem dX7_copy_131 : decode cX7_copy 131 = .ok (.aload_n 1, 1) := by decide +kernel
theorem dX7_copy_132 : decode cX7_copy 132 = .ok (.getfield 46, 3) := by decide +kernel
theorem dX7_copy_135 : decode cX7_copy 135 = .ok (.putfield 46, 3) := by decide +kernel
theorem dX7_copy_138 : decode cX7_copy 138 = .ok (.aload_n 0, 1) := by decide +kernel
theorem dX7_copy_139 : decode cX7_copy 139 = .ok (.aload_n 1, 1) := by decide +kernel
theorem dX7_copy_140 : decode cX7_copy 140 = .ok (.getfield 49, 3) := by decide +kernel
theorem dX7_copy_143 : decode cX7_copy 143 = .ok (.putfield 49, 3) := by decide +kernel
theorem dX7_copy_146 : decode cX7_copy 146 = .ok (.return_, 1) := by decide +kernel
theorem dX7_has_0 : decode cX7_has 0 = .ok (.iload_n 1, 1) := by decide +kernel
theorem dX7_has_1 : decode cX7_has 1 = .ok (.bipush 8, 2) := by decide +kernel
theorem dX7_has_3 : decode cX7_has 3 = .ok (.invokestatic 58, 3) := by decide +kernel
theorem dX7_has_6 : decode cX7_has 6 = .ok (.ifCond .eq 19, 3) := by decide +kernel
theorem dX7_has_9 : decode cX7_has 9 = .ok (.aload_n 0, 1) := by decide +kernel
theorem dX7_has_10 : decode cX7_has 10 = .ok (.getfield 9, 3) := by decide +kernel
theorem dX7_has_13 : decode cX7_has 13 = .ok (.iload_n 1, 1) := by decide +kernel
theorem dX7_has_14 : decode cX7_has 14 = .ok (.invokestatic 62, 3) := by decide +kernel
theorem dX7_has_17 : decode cX7_has 17 = .ok (.iconst 1, 1) := by decide +kernel
theorem dX7_has_18 : decode cX7_has 18 = .ok (.if_icmp .ne 7, 3) := by decide +kernel
theorem dX7_has_21 : decode cX7_has 21 = .ok (.iconst 1, 1) := by decide +kernel
theorem dX7_has_22 : decode cX7_has 22 = .ok (.goto 4, 3) := by decide +kernel
theorem dX7_has_25 : decode cX7_has 25 = .ok (.iconst 0, 1) := by decide +kernel
theorem dX7_has_26 : decode cX7_has 26 = .ok (.ireturn, 1) := by decide +kernel
theorem dX7_putFlake_0 : decode cX7_putFlake 0 = .ok (.aload_n 0, 1) := by decide +kernel
theorem dX7_putFlake_1 : decode cX7_putFlake 1 = .ok (.dup, 1) := by decide +kernel
theorem dX7_putFlake_2 : decode cX7_putFlake 2 = .ok (.getfield 9, 3) := by decide +kernel
theorem dX7_putFlake_5 : decode cX7_putFlake 5 = .ok (.iconst 1, 1) := by decide +kernel
theorem dX7_putFlake_6 : decode cX7_putFlake 6 = .ok (.iload_n 1, 1) := by decide +kernel
theorem dX7_putFlake_7 : decode cX7_putFlake 7 = .ok (.ishl, 1) := by decide +kernel
theorem dX7_putFlake_8 : decode cX7_putFlake 8 = .ok (.ior, 1) := by decide +kernel
theorem dX7_putFlake_9 : decode cX7_putFlake 9 = .ok (.putfield 9, 3) := by decide +kernel
theorem dX7_putFlake_12 : decode cX7_putFlake 12 = .ok (.aload_n 0, 1) := by decide +kernel
theorem dX7_putFlake_13 : decode cX7_putFlake 13 = .ok (.getfield 15, 3) := by decide +kernel
theorem dX7_putFlake_16 : decode cX7_putFlake 16 = .ok (.iload_n 1, 1) := by decide +kernel
theorem dX7_putFlake_17 : decode cX7_putFlake 17 = .ok (.iload_n 2, 1) := by decide +kernel
theorem dX7_putFlake_18 : decode cX7_putFlake 18 = .ok (.iastore, 1) := by decide +kernel
theorem dX7_putFlake_19 : decode cX7_putFlake 19 = .ok (.aload_n 0, 1) := by decide +kernel
theorem dX7_putFlake_20 : decode cX7_putFlake 20 = .ok (.getfield 19, 3) := by decide +kernel
theorem dX7_putFlake_23 : decode cX7_putFlake 23 = .ok (.iload_n 1, 1) := by decide +kernel
theorem dX7_putFlake_24 : decode cX7_putFlake 24 = .ok (.iload_n 3, 1) := by decide +kernel
theorem dX7_putFlake_25 : decode cX7_putFlake 25 = .ok (.iastore, 1) := by decide +kernel
theorem dX7_putFlake_26 : decode cX7_putFlake 26 = .ok (.aload_n 0, 1) := by decide +kernel
theorem dX7_putFlake_27 : decode cX7_putFlake 27 = .ok (.getfield 22, 3) := by decide +kernel
theorem dX7_putFlake_30 : decode cX7_putFlake 30 = .ok (.iload_n 1, 1) := by decide +kernel
theorem dX7_putFlake_31 : decode cX7_putFlake 31 = .ok (.iload 4, 2) := by decide +kernel
theorem dX7_putFlake_33 : decode cX7_putFlake 33 = .ok (.iastore, 1) := by decide +kernel
theorem dX7_putFlake_34 : decode cX7_putFlake 34 = .ok (.aload_n 0, 1) := by decide +kernel
theorem dX7_putFlake_35 : decode cX7_putFlake 35 = .ok (.getfield 25, 3) := by decide +kernel
theorem dX7_putFlake_38 : decode cX7_putFlake 38 = .ok (.iload_n 1, 1) := by decide +kernel
theorem dX7_putFlake_39 : decode cX7_putFlake 39 = .ok (.iload 5, 2) := by decide +kernel
theorem dX7_putFlake_41 : decode cX7_putFlake 41 = .ok (.iastore, 1) := by decide +kernel
theorem dX7_putFlake_42 : decode cX7_putFlake 42 = .ok (.aload_n 0, 1) := by decide +kernel
theorem dX7_putFlake_43 : decode cX7_putFlake 43 = .ok (.getfield 28, 3) := by decide +kernel
theorem dX7_putFlake_46 : decode cX7_putFlake 46 = .ok (.iload_n 1, 1) := by decide +kernel
theorem dX7_putFlake_47 : decode cX7_putFlake 47 = .ok (.bipush (-6), 2) := by decide +kernel
theorem dX7_putFlake_49 : decode cX7_putFlake 49 = .ok (.iastore, 1) := by decide +kernel
theorem dX7_putFlake_50 : decode cX7_putFlake 50 = .ok (.return_, 1) := by decide +kernel
theorem dX7_removeFlake_0 : decode cX7_removeFlake 0 = .ok (.aload_n 0, 1) := by decide +kernel
theorem dX7_removeFlake_1 : decode cX7_removeFlake 1 = .ok (.dup, 1) := by decide +kernel
theorem dX7_removeFlake_2 : decode cX7_removeFlake 2 = .ok (.getfield 9, 3) := by decide +kernel
theorem dX7_removeFlake_5 : decode cX7_removeFlake 5 = .ok (.iconst 1, 1) := by decide +kernel
theorem dX7_removeFlake_6 : decode cX7_removeFlake 6 = .ok (.iload_n 1, 1) := by decide +kernel
theorem dX7_removeFlake_7 : decode cX7_removeFlake 7 = .ok (.ishl, 1) := by decide +kernel
theorem dX7_removeFlake_8 : decode cX7_removeFlake 8 = .ok (.iconst (-1), 1) := by decide +kernel
theorem dX7_removeFlake_9 : decode cX7_removeFlake 9 = .ok (.ixor, 1) := by decide +kernel
theorem dX7_removeFlake_10 : decode cX7_removeFlake 10 = .ok (.iand, 1) := by decide +kernel
theorem dX7_removeFlake_11 : decode cX7_removeFlake 11 = .ok (.putfield 9, 3) := by decide +kernel
theorem dX7_removeFlake_14 : decode cX7_removeFlake 14 = .ok (.aload_n 0, 1) := by decide +kernel
theorem dX7_removeFlake_15 : decode cX7_removeFlake 15 = .ok (.getfield 22, 3) := by decide +kernel
theorem dX7_removeFlake_18 : decode cX7_removeFlake 18 = .ok (.iload_n 1, 1) := by decide +kernel
theorem dX7_removeFlake_19 : decode cX7_removeFlake 19 = .ok (.iconst 0, 1) := by decide +kernel
theorem dX7_removeFlake_20 : decode cX7_removeFlake 20 = .ok (.iastore, 1) := by decide +kernel
theorem dX7_removeFlake_21 : decode cX7_removeFlake 21 = .ok (.return_, 1) := by decide +kernel
theorem dX7_falling_0 : decode cX7_falling 0 = .ok (.iconst 0, 1) := by decide +kernel
theorem dX7_falling_1 : decode cX7_falling 1 = .ok (.istore_n 1, 1) := by decide +kernel
theorem dX7_falling_2 : decode cX7_falling 2 = .ok (.iconst 0, 1) := by decide +kernel
theorem dX7_falling_3 : decode cX7_falling 3 = .ok (.istore_n 2, 1) := by decide +kernel
theorem dX7_falling_4 : decode cX7_falling 4 = .ok (.iload_n 2, 1) := by decide +kernel
theorem dX7_falling_5 : decode cX7_falling 5 = .ok (.bipush 8, 2) := by decide +kernel
theorem dX7_falling_7 : decode cX7_falling 7 = .ok (.if_icmp .ge 24, 3) := by decide +kernel
theorem dX7_falling_10 : decode cX7_falling 10 = .ok (.aload_n 0, 1) := by decide +kernel
theorem dX7_falling_11 : decode cX7_falling 11 = .ok (.getfield 22, 3) := by decide +kernel
theorem dX7_falling_14 : decode cX7_falling 14 = .ok (.iload_n 2, 1) := by decide +kernel
theorem dX7_falling_15 : decode cX7_falling 15 = .ok (.iaload, 1) := by decide +kernel
theorem dX7_falling_16 : decode cX7_falling 16 = .ok (.ifCond .le 9, 3) := by decide +kernel
theorem dX7_falling_19 : decode cX7_falling 19 = .ok (.iload_n 1, 1) := by decide +kernel
theorem dX7_falling_20 : decode cX7_falling 20 = .ok (.iconst 1, 1) := by decide +kernel
theorem dX7_falling_21 : decode cX7_falling 21 = .ok (.iload_n 2, 1) := by decide +kernel
theorem dX7_falling_22 : decode cX7_falling 22 = .ok (.ishl, 1) := by decide +kernel
theorem dX7_falling_23 : decode cX7_falling 23 = .ok (.ior, 1) := by decide +kernel
theorem dX7_falling_24 : decode cX7_falling 24 = .ok (.istore_n 1, 1) := by decide +kernel
theorem dX7_falling_25 : decode cX7_falling 25 = .ok (.iinc 2 1, 3) := by decide +kernel
theorem dX7_falling_28 : decode cX7_falling 28 = .ok (.goto (-24), 3) := by decide +kernel
theorem dX7_falling_31 : decode cX7_falling 31 = .ok (.iload_n 1, 1) := by decide +kernel
theorem dX7_falling_32 : decode cX7_falling 32 = .ok (.ireturn, 1) := by decide +kernel
theorem dX7_inRiver_0 : decode cX7_inRiver 0 = .ok (.iconst 0, 1) := by decide +kernel
theorem dX7_inRiver_1 : decode cX7_inRiver 1 = .ok (.istore_n 1, 1) := by decide +kernel
theorem dX7_inRiver_2 : decode cX7_inRiver 2 = .ok (.iconst 0, 1) := by decide +kernel
theorem dX7_inRiver_3 : decode cX7_inRiver 3 = .ok (.istore_n 2, 1) := by decide +kernel
theorem dX7_inRiver_4 : decode cX7_inRiver 4 = .ok (.iload_n 2, 1) := by decide +kernel
theorem dX7_inRiver_5 : decode cX7_inRiver 5 = .ok (.bipush 8, 2) := by decide +kernel
theorem dX7_inRiver_7 : decode cX7_inRiver 7 = .ok (.if_icmp .ge 26, 3) := by decide +kernel
theorem dX7_inRiver_10 : decode cX7_inRiver 10 = .ok (.aload_n 0, 1) := by decide +kernel
theorem dX7_inRiver_11 : decode cX7_inRiver 11 = .ok (.getfield 19, 3) := by decide +kernel
theorem dX7_inRiver_14 : decode cX7_inRiver 14 = .ok (.iload_n 2, 1) := by decide +kernel
theorem dX7_inRiver_15 : decode cX7_inRiver 15 = .ok (.iaload, 1) := by decide +kernel
theorem dX7_inRiver_16 : decode cX7_inRiver 16 = .ok (.bipush (-6), 2) := by decide +kernel
theorem dX7_inRiver_18 : decode cX7_inRiver 18 = .ok (.if_icmp .ne 9, 3) := by decide +kernel
theorem dX7_inRiver_21 : decode cX7_inRiver 21 = .ok (.iload_n 1, 1) := by decide +kernel
theorem dX7_inRiver_22 : decode cX7_inRiver 22 = .ok (.iconst 1, 1) := by decide +kernel
theorem dX7_inRiver_23 : decode cX7_inRiver 23 = .ok (.iload_n 2, 1) := by decide +kernel
theorem dX7_inRiver_24 : decode cX7_inRiver 24 = .ok (.ishl, 1) := by decide +kernel
theorem dX7_inRiver_25 : decode cX7_inRiver 25 = .ok (.ior, 1) := by decide +kernel
theorem dX7_inRiver_26 : decode cX7_inRiver 26 = .ok (.istore_n 1, 1) := by decide +kernel
theorem dX7_inRiver_27 : decode cX7_inRiver 27 = .ok (.iinc 2 1, 3) := by decide +kernel
theorem dX7_inRiver_30 : decode cX7_inRiver 30 = .ok (.goto (-26), 3) := by decide +kernel
theorem dX7_inRiver_33 : decode cX7_inRiver 33 = .ok (.iload_n 1, 1) := by decide +kernel
theorem dX7_inRiver_34 : decode cX7_inRiver 34 = .ok (.aload_n 0, 1) := by decide +kernel
theorem dX7_inRiver_35 : decode cX7_inRiver 35 = .ok (.getfield 9, 3) := by decide +kernel
theorem dX7_inRiver_38 : decode cX7_inRiver 38 = .ok (.iand, 1) := by decide +kernel
theorem dX7_inRiver_39 : decode cX7_inRiver 39 = .ok (.ireturn, 1) := by decide +kernel
theorem dX7_down_0 : decode cX7_down 0 = .ok (.aload_n 0, 1) := by decide +kernel
theorem dX7_down_1 : decode cX7_down 1 = .ok (.getfield 9, 3) := by decide +kernel
theorem dX7_down_4 : decode cX7_down 4 = .ok (.aload_n 0, 1) := by decide +kernel
theorem dX7_down_5 : decode cX7_down 5 = .ok (.invokevirtual 66, 3) := by decide +kernel
theorem dX7_down_8 : decode cX7_down 8 = .ok (.iconst (-1), 1) := by decide +kernel
theorem dX7_down_9 : decode cX7_down 9 = .ok (.ixor, 1) := by decide +kernel
theorem dX7_down_10 : decode cX7_down 10 = .ok (.iand, 1) := by decide +kernel
theorem dX7_down_11 : decode cX7_down 11 = .ok (.aload_n 0, 1) := by decide +kernel
theorem dX7_down_12 : decode cX7_down 12 = .ok (.invokevirtual 70, 3) := by decide +kernel
theorem dX7_down_15 : decode cX7_down 15 = .ok (.iconst (-1), 1) := by decide +kernel
theorem dX7_down_16 : decode cX7_down 16 = .ok (.ixor, 1) := by decide +kernel
theorem dX7_down_17 : decode cX7_down 17 = .ok (.iand, 1) := by decide +kernel
theorem dX7_down_18 : decode cX7_down 18 = .ok (.ireturn, 1) := by decide +kernel
theorem dX7_flakesWith_0 : decode cX7_flakesWith 0 = .ok (.iconst 0, 1) := by decide +kernel
theorem dX7_flakesWith_1 : decode cX7_flakesWith 1 = .ok (.istore_n 2, 1) := by decide +kernel
theorem dX7_flakesWith_2 : decode cX7_flakesWith 2 = .ok (.iconst 0, 1) := by decide +kernel
theorem dX7_flakesWith_3 : decode cX7_flakesWith 3 = .ok (.istore_n 3, 1) := by decide +kernel
theorem dX7_flakesWith_4 : decode cX7_flakesWith 4 = .ok (.iload_n 3, 1) := by decide +kernel
theorem dX7_flakesWith_5 : decode cX7_flakesWith 5 = .ok (.bipush 8, 2) := by decide +kernel
theorem dX7_flakesWith_7 : decode cX7_flakesWith 7 = .ok (.if_icmp .ge 25, 3) := by decide +kernel
theorem dX7_flakesWith_10 : decode cX7_flakesWith 10 = .ok (.aload_n 0, 1) := by decide +kernel
theorem dX7_flakesWith_11 : decode cX7_flakesWith 11 = .ok (.getfield 28, 3) := by decide +kernel
theorem dX7_flakesWith_14 : decode cX7_flakesWith 14 = .ok (.iload_n 3, 1) := by decide +kernel
theorem dX7_flakesWith_15 : decode cX7_flakesWith 15 = .ok (.iaload, 1) := by decide +kernel
theorem dX7_flakesWith_16 : decode cX7_flakesWith 16 = .ok (.iload_n 1, 1) := by decide +kernel
theorem dX7_flakesWith_17 : decode cX7_flakesWith 17 = .ok (.if_icmp .ne 9, 3) := by decide +kernel
theorem dX7_flakesWith_20 : decode cX7_flakesWith 20 = .ok (.iload_n 2, 1) := by decide +kernel
theorem dX7_flakesWith_21 : decode cX7_flakesWith 21 = .ok (.iconst 1, 1) := by decide +kernel
theorem dX7_flakesWith_22 : decode cX7_flakesWith 22 = .ok (.iload_n 3, 1) := by decide +kernel
theorem dX7_flakesWith_23 : decode cX7_flakesWith 23 = .ok (.ishl, 1) := by decide +kernel
theorem dX7_flakesWith_24 : decode cX7_flakesWith 24 = .ok (.ior, 1) := by decide +kernel
theorem dX7_flakesWith_25 : decode cX7_flakesWith 25 = .ok (.istore_n 2, 1) := by decide +kernel
theorem dX7_flakesWith_26 : decode cX7_flakesWith 26 = .ok (.iinc 3 1, 3) := by decide +kernel
theorem dX7_flakesWith_29 : decode cX7_flakesWith 29 = .ok (.goto (-25), 3) := by decide +kernel
theorem dX7_flakesWith_32 : decode cX7_flakesWith 32 = .ok (.iload_n 2, 1) := by decide +kernel
theorem dX7_flakesWith_33 : decode cX7_flakesWith 33 = .ok (.aload_n 0, 1) := by decide +kernel
theorem dX7_flakesWith_34 : decode cX7_flakesWith 34 = .ok (.getfield 9, 3) := by decide +kernel
theorem dX7_flakesWith_37 : decode cX7_flakesWith 37 = .ok (.iand, 1) := by decide +kernel
theorem dX7_flakesWith_38 : decode cX7_flakesWith 38 = .ok (.ireturn, 1) := by decide +kernel
theorem dX7_delivered_0 : decode cX7_delivered 0 = .ok (.iconst 0, 1) := by decide +kernel
theorem dX7_delivered_1 : decode cX7_delivered 1 = .ok (.istore_n 1, 1) := by decide +kernel
theorem dX7_delivered_2 : decode cX7_delivered 2 = .ok (.iconst 0, 1) := by decide +kernel
theorem dX7_delivered_3 : decode cX7_delivered 3 = .ok (.istore_n 2, 1) := by decide +kernel
theorem dX7_delivered_4 : decode cX7_delivered 4 = .ok (.iload_n 2, 1) := by decide +kernel
theorem dX7_delivered_5 : decode cX7_delivered 5 = .ok (.bipush 8, 2) := by decide +kernel
theorem dX7_delivered_7 : decode cX7_delivered 7 = .ok (.if_icmp .ge 30, 3) := by decide +kernel
theorem dX7_delivered_10 : decode cX7_delivered 10 = .ok (.aload_n 0, 1) := by decide +kernel
theorem dX7_delivered_11 : decode cX7_delivered 11 = .ok (.getfield 28, 3) := by decide +kernel
theorem dX7_delivered_14 : decode cX7_delivered 14 = .ok (.iload_n 2, 1) := by decide +kernel
theorem dX7_delivered_15 : decode cX7_delivered 15 = .ok (.iaload, 1) := by decide +kernel
theorem dX7_delivered_16 : decode cX7_delivered 16 = .ok (.aload_n 0, 1) := by decide +kernel
theorem dX7_delivered_17 : decode cX7_delivered 17 = .ok (.getfield 25, 3) := by decide +kernel
theorem dX7_delivered_20 : decode cX7_delivered 20 = .ok (.iload_n 2, 1) := by decide +kernel
theorem dX7_delivered_21 : decode cX7_delivered 21 = .ok (.iaload, 1) := by decide +kernel
theorem dX7_delivered_22 : decode cX7_delivered 22 = .ok (.if_icmp .ne 9, 3) := by decide +kernel
theorem dX7_delivered_25 : decode cX7_delivered 25 = .ok (.iload_n 1, 1) := by decide +kernel
theorem dX7_delivered_26 : decode cX7_delivered 26 = .ok (.iconst 1, 1) := by decide +kernel
theorem dX7_delivered_27 : decode cX7_delivered 27 = .ok (.iload_n 2, 1) := by decide +kernel
theorem dX7_delivered_28 : decode cX7_delivered 28 = .ok (.ishl, 1) := by decide +kernel
theorem dX7_delivered_29 : decode cX7_delivered 29 = .ok (.ior, 1) := by decide +kernel
theorem dX7_delivered_30 : decode cX7_delivered 30 = .ok (.istore_n 1, 1) := by decide +kernel
theorem dX7_delivered_31 : decode cX7_delivered 31 = .ok (.iinc 2 1, 3) := by decide +kernel
theorem dX7_delivered_34 : decode cX7_delivered 34 = .ok (.goto (-30), 3) := by decide +kernel
theorem dX7_delivered_37 : decode cX7_delivered 37 = .ok (.iload_n 1, 1) := by decide +kernel
theorem dX7_delivered_38 : decode cX7_delivered 38 = .ok (.aload_n 0, 1) := by decide +kernel
theorem dX7_delivered_39 : decode cX7_delivered 39 = .ok (.getfield 9, 3) := by decide +kernel
theorem dX7_delivered_42 : decode cX7_delivered 42 = .ok (.iand, 1) := by decide +kernel
theorem dX7_delivered_43 : decode cX7_delivered 43 = .ok (.ireturn, 1) := by decide +kernel
theorem dX7_trodden_0 : decode cX7_trodden 0 = .ok (.iconst 0, 1) := by decide +kernel
theorem dX7_trodden_1 : decode cX7_trodden 1 = .ok (.istore_n 1, 1) := by decide +kernel
theorem dX7_trodden_2 : decode cX7_trodden 2 = .ok (.iconst 0, 1) := by decide +kernel
theorem dX7_trodden_3 : decode cX7_trodden 3 = .ok (.istore_n 2, 1) := by decide +kernel
theorem dX7_trodden_4 : decode cX7_trodden 4 = .ok (.iload_n 2, 1) := by decide +kernel
theorem dX7_trodden_5 : decode cX7_trodden 5 = .ok (.bipush 6, 2) := by decide +kernel
theorem dX7_trodden_7 : decode cX7_trodden 7 = .ok (.if_icmp .ge 20, 3) := by decide +kernel
theorem dX7_trodden_10 : decode cX7_trodden 10 = .ok (.iload_n 1, 1) := by decide +kernel
theorem dX7_trodden_11 : decode cX7_trodden 11 = .ok (.iconst 1, 1) := by decide +kernel
theorem dX7_trodden_12 : decode cX7_trodden 12 = .ok (.aload_n 0, 1) := by decide +kernel
theorem dX7_trodden_13 : decode cX7_trodden 13 = .ok (.getfield 31, 3) := by decide +kernel
theorem dX7_trodden_16 : decode cX7_trodden 16 = .ok (.iload_n 2, 1) := by decide +kernel
theorem dX7_trodden_17 : decode cX7_trodden 17 = .ok (.iaload, 1) := by decide +kernel
theorem dX7_trodden_18 : decode cX7_trodden 18 = .ok (.ishl, 1) := by decide +kernel
theorem dX7_trodden_19 : decode cX7_trodden 19 = .ok (.ior, 1) := by decide +kernel
theorem dX7_trodden_20 : decode cX7_trodden 20 = .ok (.istore_n 1, 1) := by decide +kernel
theorem dX7_trodden_21 : decode cX7_trodden 21 = .ok (.iinc 2 1, 3) := by decide +kernel
theorem dX7_trodden_24 : decode cX7_trodden 24 = .ok (.goto (-20), 3) := by decide +kernel
theorem dX7_trodden_27 : decode cX7_trodden 27 = .ok (.aload_n 0, 1) := by decide +kernel
theorem dX7_trodden_28 : decode cX7_trodden 28 = .ok (.invokevirtual 73, 3) := by decide +kernel
theorem dX7_trodden_31 : decode cX7_trodden 31 = .ok (.aload_n 0, 1) := by decide +kernel
theorem dX7_trodden_32 : decode cX7_trodden 32 = .ok (.bipush (-6), 2) := by decide +kernel
theorem dX7_trodden_34 : decode cX7_trodden 34 = .ok (.invokevirtual 76, 3) := by decide +kernel
theorem dX7_trodden_37 : decode cX7_trodden 37 = .ok (.iand, 1) := by decide +kernel
theorem dX7_trodden_38 : decode cX7_trodden 38 = .ok (.istore_n 2, 1) := by decide +kernel
theorem dX7_trodden_39 : decode cX7_trodden 39 = .ok (.iconst 0, 1) := by decide +kernel
theorem dX7_trodden_40 : decode cX7_trodden 40 = .ok (.istore_n 3, 1) := by decide +kernel
theorem dX7_trodden_41 : decode cX7_trodden 41 = .ok (.iload_n 3, 1) := by decide +kernel
theorem dX7_trodden_42 : decode cX7_trodden 42 = .ok (.bipush 8, 2) := by decide +kernel
theorem dX7_trodden_44 : decode cX7_trodden 44 = .ok (.if_icmp .ge 29, 3) := by decide +kernel
theorem dX7_trodden_47 : decode cX7_trodden 47 = .ok (.iload_n 2, 1) := by decide +kernel
theorem dX7_trodden_48 : decode cX7_trodden 48 = .ok (.iload_n 3, 1) := by decide +kernel
theorem dX7_trodden_49 : decode cX7_trodden 49 = .ok (.invokestatic 62, 3) := by decide +kernel
theorem dX7_trodden_52 : decode cX7_trodden 52 = .ok (.iconst 1, 1) := by decide +kernel
theorem dX7_trodden_53 : decode cX7_trodden 53 = .ok (.if_icmp .ne 14, 3) := by decide +kernel
theorem dX7_trodden_56 : decode cX7_trodden 56 = .ok (.iload_n 1, 1) := by decide +kernel
theorem dX7_trodden_57 : decode cX7_trodden 57 = .ok (.iconst 1, 1) := by decide +kernel
theorem dX7_trodden_58 : decode cX7_trodden 58 = .ok (.aload_n 0, 1) := by decide +kernel
theorem dX7_trodden_59 : decode cX7_trodden 59 = .ok (.getfield 19, 3) := by decide +kernel
theorem dX7_trodden_62 : decode cX7_trodden 62 = .ok (.iload_n 3, 1) := by decide +kernel
theorem dX7_trodden_63 : decode cX7_trodden 63 = .ok (.iaload, 1) := by decide +kernel
theorem dX7_trodden_64 : decode cX7_trodden 64 = .ok (.ishl, 1) := by decide +kernel
theorem dX7_trodden_65 : decode cX7_trodden 65 = .ok (.ior, 1) := by decide +kernel
theorem dX7_trodden_66 : decode cX7_trodden 66 = .ok (.istore_n 1, 1) := by decide +kernel
theorem dX7_trodden_67 : decode cX7_trodden 67 = .ok (.iinc 3 1, 3) := by decide +kernel
theorem dX7_trodden_70 : decode cX7_trodden 70 = .ok (.goto (-29), 3) := by decide +kernel
theorem dX7_trodden_73 : decode cX7_trodden 73 = .ok (.iload_n 1, 1) := by decide +kernel
theorem dX7_trodden_74 : decode cX7_trodden 74 = .ok (.ireturn, 1) := by decide +kernel
theorem dX7_whyNot_0 : decode cX7_whyNot 0 = .ok (.iload_n 1, 1) := by decide +kernel
theorem dX7_whyNot_1 : decode cX7_whyNot 1 = .ok (.tableswitch 61 5 7 #[27, 42, 59], 27) := by decide +kernel
theorem dX7_whyNot_28 : decode cX7_whyNot 28 = .ok (.aload_n 0, 1) := by decide +kernel
theorem dX7_whyNot_29 : decode cX7_whyNot 29 = .ok (.getfield 31, 3) := by decide +kernel
theorem dX7_whyNot_32 : decode cX7_whyNot 32 = .ok (.iload_n 2, 1) := by decide +kernel
theorem dX7_whyNot_33 : decode cX7_whyNot 33 = .ok (.iaload, 1) := by decide +kernel
theorem dX7_whyNot_34 : decode cX7_whyNot 34 = .ok (.ifCond .ne 7, 3) := by decide +kernel
theorem dX7_whyNot_37 : decode cX7_whyNot 37 = .ok (.iconst 1, 1) := by decide +kernel
theorem dX7_whyNot_38 : decode cX7_whyNot 38 = .ok (.goto 4, 3) := by decide +kernel
theorem dX7_whyNot_41 : decode cX7_whyNot 41 = .ok (.iconst 0, 1) := by decide +kernel
theorem dX7_whyNot_42 : decode cX7_whyNot 42 = .ok (.ireturn, 1) := by decide +kernel
theorem dX7_whyNot_43 : decode cX7_whyNot 43 = .ok (.aload_n 0, 1) := by decide +kernel
theorem dX7_whyNot_44 : decode cX7_whyNot 44 = .ok (.getfield 31, 3) := by decide +kernel
theorem dX7_whyNot_47 : decode cX7_whyNot 47 = .ok (.iload_n 2, 1) := by decide +kernel
theorem dX7_whyNot_48 : decode cX7_whyNot 48 = .ok (.iaload, 1) := by decide +kernel
theorem dX7_whyNot_49 : decode cX7_whyNot 49 = .ok (.bipush 15, 2) := by decide +kernel
theorem dX7_whyNot_51 : decode cX7_whyNot 51 = .ok (.if_icmp .ne 7, 3) := by decide +kernel
theorem dX7_whyNot_54 : decode cX7_whyNot 54 = .ok (.iconst 1, 1) := by decide +kernel
theorem dX7_whyNot_55 : decode cX7_whyNot 55 = .ok (.goto 4, 3) := by decide +kernel
theorem dX7_whyNot_58 : decode cX7_whyNot 58 = .ok (.iconst 0, 1) := by decide +kernel
theorem dX7_whyNot_59 : decode cX7_whyNot 59 = .ok (.ireturn, 1) := by decide +kernel
theorem dX7_whyNot_60 : decode cX7_whyNot 60 = .ok (.iconst 0, 1) := by decide +kernel
theorem dX7_whyNot_61 : decode cX7_whyNot 61 = .ok (.ireturn, 1) := by decide +kernel
theorem dX7_whyNot_62 : decode cX7_whyNot 62 = .ok (.aload_n 0, 1) := by decide +kernel
theorem dX7_whyNot_63 : decode cX7_whyNot 63 = .ok (.invokevirtual 66, 3) := by decide +kernel
theorem dX7_whyNot_66 : decode cX7_whyNot 66 = .ok (.ifCond .ne 7, 3) := by decide +kernel
theorem dX7_whyNot_69 : decode cX7_whyNot 69 = .ok (.iconst 2, 1) := by decide +kernel
theorem dX7_whyNot_70 : decode cX7_whyNot 70 = .ok (.goto 4, 3) := by decide +kernel
theorem dX7_whyNot_73 : decode cX7_whyNot 73 = .ok (.iconst 0, 1) := by decide +kernel
theorem dX7_whyNot_74 : decode cX7_whyNot 74 = .ok (.ireturn, 1) := by decide +kernel
theorem dX7_carryOut_0 : decode cX7_carryOut 0 = .ok (.iload_n 1, 1) := by decide +kernel
theorem dX7_carryOut_1 : decode cX7_carryOut 1 = .ok (.tableswitch 126 0 7 #[88, 99, 110, 118, 126, 47, 60, 73], 47) := by decide +kernel
theorem dX7_carryOut_48 : decode cX7_carryOut 48 = .ok (.aload_n 0, 1) := by decide +kernel
theorem dX7_carryOut_49 : decode cX7_carryOut 49 = .ok (.getfield 31, 3) := by decide +kernel
theorem dX7_carryOut_52 : decode cX7_carryOut 52 = .ok (.iload_n 2, 1) := by decide +kernel
theorem dX7_carryOut_53 : decode cX7_carryOut 53 = .ok (.dup2, 1) := by decide +kernel
theorem dX7_carryOut_54 : decode cX7_carryOut 54 = .ok (.iaload, 1) := by decide +kernel
theorem dX7_carryOut_55 : decode cX7_carryOut 55 = .ok (.iconst 1, 1) := by decide +kernel
theorem dX7_carryOut_56 : decode cX7_carryOut 56 = .ok (.isub, 1) := by decide +kernel
theorem dX7_carryOut_57 : decode cX7_carryOut 57 = .ok (.iastore, 1) := by decide +kernel
theorem dX7_carryOut_58 : decode cX7_carryOut 58 = .ok (.goto 73, 3) := by decide +kernel
theorem dX7_carryOut_61 : decode cX7_carryOut 61 = .ok (.aload_n 0, 1) := by decide +kernel
theorem dX7_carryOut_62 : decode cX7_carryOut 62 = .ok (.getfield 31, 3) := by decide +kernel
theorem dX7_carryOut_65 : decode cX7_carryOut 65 = .ok (.iload_n 2, 1) := by decide +kernel
theorem dX7_carryOut_66 : decode cX7_carryOut 66 = .ok (.dup2, 1) := by decide +kernel
theorem dX7_carryOut_67 : decode cX7_carryOut 67 = .ok (.iaload, 1) := by decide +kernel
theorem dX7_carryOut_68 : decode cX7_carryOut 68 = .ok (.iconst 1, 1) := by decide +kernel
theorem dX7_carryOut_69 : decode cX7_carryOut 69 = .ok (.iadd, 1) := by decide +kernel
theorem dX7_carryOut_70 : decode cX7_carryOut 70 = .ok (.iastore, 1) := by decide +kernel
theorem dX7_carryOut_71 : decode cX7_carryOut 71 = .ok (.goto 60, 3) := by decide +kernel
theorem dX7_carryOut_74 : decode cX7_carryOut 74 = .ok (.aload_n 0, 1) := by decide +kernel
theorem dX7_carryOut_75 : decode cX7_carryOut 75 = .ok (.dup, 1) := by decide +kernel
theorem dX7_carryOut_76 : decode cX7_carryOut 76 = .ok (.getfield 34, 3) := by decide +kernel
theorem dX7_carryOut_79 : decode cX7_carryOut 79 = .ok (.iconst 1, 1) := by decide +kernel
theorem dX7_carryOut_80 : decode cX7_carryOut 80 = .ok (.iload_n 2, 1) := by decide +kernel
theorem dX7_carryOut_81 : decode cX7_carryOut 81 = .ok (.ishl, 1) := by decide +kernel
theorem dX7_carryOut_82 : decode cX7_carryOut 82 = .ok (.ixor, 1) := by decide +kernel
theorem dX7_carryOut_83 : decode cX7_carryOut 83 = .ok (.putfield 34, 3) := by decide +kernel
theorem dX7_carryOut_86 : decode cX7_carryOut 86 = .ok (.goto 45, 3) := by decide +kernel
theorem dX7_carryOut_89 : decode cX7_carryOut 89 = .ok (.aload_n 0, 1) := by decide +kernel
theorem dX7_carryOut_90 : decode cX7_carryOut 90 = .ok (.aload_n 0, 1) := by decide +kernel
theorem dX7_carryOut_91 : decode cX7_carryOut 91 = .ok (.getfield 37, 3) := by decide +kernel
theorem dX7_carryOut_94 : decode cX7_carryOut 94 = .ok (.invokevirtual 80, 3) := by decide +kernel
theorem dX7_carryOut_97 : decode cX7_carryOut 97 = .ok (.goto 34, 3) := by decide +kernel
theorem dX7_carryOut_100 : decode cX7_carryOut 100 = .ok (.aload_n 0, 1) := by decide +kernel
theorem dX7_carryOut_101 : decode cX7_carryOut 101 = .ok (.aload_n 0, 1) := by decide +kernel
theorem dX7_carryOut_102 : decode cX7_carryOut 102 = .ok (.getfield 40, 3) := by decide +kernel
theorem dX7_carryOut_105 : decode cX7_carryOut 105 = .ok (.invokevirtual 80, 3) := by decide +kernel
theorem dX7_carryOut_108 : decode cX7_carryOut 108 = .ok (.goto 23, 3) := by decide +kernel
theorem dX7_carryOut_111 : decode cX7_carryOut 111 = .ok (.aload_n 0, 1) := by decide +kernel
theorem dX7_carryOut_112 : decode cX7_carryOut 112 = .ok (.iconst (-1), 1) := by decide +kernel
theorem dX7_carryOut_113 : decode cX7_carryOut 113 = .ok (.invokevirtual 84, 3) := by decide +kernel
theorem dX7_carryOut_116 : decode cX7_carryOut 116 = .ok (.goto 15, 3) := by decide +kernel
theorem dX7_carryOut_119 : decode cX7_carryOut 119 = .ok (.aload_n 0, 1) := by decide +kernel
theorem dX7_carryOut_120 : decode cX7_carryOut 120 = .ok (.iconst 1, 1) := by decide +kernel
theorem dX7_carryOut_121 : decode cX7_carryOut 121 = .ok (.invokevirtual 84, 3) := by decide +kernel
theorem dX7_carryOut_124 : decode cX7_carryOut 124 = .ok (.goto 7, 3) := by decide +kernel
theorem dX7_carryOut_127 : decode cX7_carryOut 127 = .ok (.aload_n 0, 1) := by decide +kernel
theorem dX7_carryOut_128 : decode cX7_carryOut 128 = .ok (.invokevirtual 87, 3) := by decide +kernel
theorem dX7_carryOut_131 : decode cX7_carryOut 131 = .ok (.return_, 1) := by decide +kernel
theorem dX7_growAll_0 : decode cX7_growAll 0 = .ok (.iconst 0, 1) := by decide +kernel
theorem dX7_growAll_1 : decode cX7_growAll 1 = .ok (.istore_n 2, 1) := by decide +kernel
theorem dX7_growAll_2 : decode cX7_growAll 2 = .ok (.iload_n 2, 1) := by decide +kernel
theorem dX7_growAll_3 : decode cX7_growAll 3 = .ok (.bipush 8, 2) := by decide +kernel
theorem dX7_growAll_5 : decode cX7_growAll 5 = .ok (.if_icmp .ge 34, 3) := by decide +kernel
theorem dX7_growAll_8 : decode cX7_growAll 8 = .ok (.aload_n 0, 1) := by decide +kernel
theorem dX7_growAll_9 : decode cX7_growAll 9 = .ok (.getfield 22, 3) := by decide +kernel
theorem dX7_growAll_12 : decode cX7_growAll 12 = .ok (.iload_n 2, 1) := by decide +kernel
theorem dX7_growAll_13 : decode cX7_growAll 13 = .ok (.iaload, 1) := by decide +kernel
theorem dX7_growAll_14 : decode cX7_growAll 14 = .ok (.ifCond .le 19, 3) := by decide +kernel
theorem dX7_growAll_17 : decode cX7_growAll 17 = .ok (.aload_n 0, 1) := by decide +kernel
theorem dX7_growAll_18 : decode cX7_growAll 18 = .ok (.getfield 15, 3) := by decide +kernel
theorem dX7_growAll_21 : decode cX7_growAll 21 = .ok (.iload_n 2, 1) := by decide +kernel
theorem dX7_growAll_22 : decode cX7_growAll 22 = .ok (.aload_n 0, 1) := by decide +kernel
theorem dX7_growAll_23 : decode cX7_growAll 23 = .ok (.getfield 15, 3) := by decide +kernel
theorem dX7_growAll_26 : decode cX7_growAll 26 = .ok (.iload_n 2, 1) := by decide +kernel
theorem dX7_growAll_27 : decode cX7_growAll 27 = .ok (.iaload, 1) := by decide +kernel
theorem dX7_growAll_28 : decode cX7_growAll 28 = .ok (.iload_n 1, 1) := by decide +kernel
theorem dX7_growAll_29 : decode cX7_growAll 29 = .ok (.invokestatic 90, 3) := by decide +kernel
theorem dX7_growAll_32 : decode cX7_growAll 32 = .ok (.iastore, 1) := by decide +kernel
theorem dX7_growAll_33 : decode cX7_growAll 33 = .ok (.iinc 2 1, 3) := by decide +kernel
theorem dX7_growAll_36 : decode cX7_growAll 36 = .ok (.goto (-34), 3) := by decide +kernel
theorem dX7_growAll_39 : decode cX7_growAll 39 = .ok (.return_, 1) := by decide +kernel
theorem dX7_blowAll_0 : decode cX7_blowAll 0 = .ok (.iconst 0, 1) := by decide +kernel
theorem dX7_blowAll_1 : decode cX7_blowAll 1 = .ok (.istore_n 2, 1) := by decide +kernel
theorem dX7_blowAll_2 : decode cX7_blowAll 2 = .ok (.iload_n 2, 1) := by decide +kernel
theorem dX7_blowAll_3 : decode cX7_blowAll 3 = .ok (.bipush 8, 2) := by decide +kernel
theorem dX7_blowAll_5 : decode cX7_blowAll 5 = .ok (.if_icmp .ge 31, 3) := by decide +kernel
theorem dX7_blowAll_8 : decode cX7_blowAll 8 = .ok (.aload_n 0, 1) := by decide +kernel
theorem dX7_blowAll_9 : decode cX7_blowAll 9 = .ok (.getfield 22, 3) := by decide +kernel
theorem dX7_blowAll_12 : decode cX7_blowAll 12 = .ok (.iload_n 2, 1) := by decide +kernel
theorem dX7_blowAll_13 : decode cX7_blowAll 13 = .ok (.iaload, 1) := by decide +kernel
theorem dX7_blowAll_14 : decode cX7_blowAll 14 = .ok (.ifCond .le 16, 3) := by decide +kernel
theorem dX7_blowAll_17 : decode cX7_blowAll 17 = .ok (.aload_n 0, 1) := by decide +kernel
theorem dX7_blowAll_18 : decode cX7_blowAll 18 = .ok (.iload_n 2, 1) := by decide +kernel
theorem dX7_blowAll_19 : decode cX7_blowAll 19 = .ok (.aload_n 0, 1) := by decide +kernel
theorem dX7_blowAll_20 : decode cX7_blowAll 20 = .ok (.getfield 19, 3) := by decide +kernel
theorem dX7_blowAll_23 : decode cX7_blowAll 23 = .ok (.iload_n 2, 1) := by decide +kernel
theorem dX7_blowAll_24 : decode cX7_blowAll 24 = .ok (.iaload, 1) := by decide +kernel
theorem dX7_blowAll_25 : decode cX7_blowAll 25 = .ok (.iload_n 1, 1) := by decide +kernel
theorem dX7_blowAll_26 : decode cX7_blowAll 26 = .ok (.iadd, 1) := by decide +kernel
theorem dX7_blowAll_27 : decode cX7_blowAll 27 = .ok (.invokevirtual 95, 3) := by decide +kernel
theorem dX7_blowAll_30 : decode cX7_blowAll 30 = .ok (.iinc 2 1, 3) := by decide +kernel
theorem dX7_blowAll_33 : decode cX7_blowAll 33 = .ok (.goto (-31), 3) := by decide +kernel
theorem dX7_blowAll_36 : decode cX7_blowAll 36 = .ok (.return_, 1) := by decide +kernel
theorem dX7_blow_0 : decode cX7_blow 0 = .ok (.iload_n 2, 1) := by decide +kernel
theorem dX7_blow_1 : decode cX7_blow 1 = .ok (.bipush 16, 2) := by decide +kernel
theorem dX7_blow_3 : decode cX7_blow 3 = .ok (.invokestatic 58, 3) := by decide +kernel
theorem dX7_blow_6 : decode cX7_blow 6 = .ok (.ifCond .eq 13, 3) := by decide +kernel
theorem dX7_blow_9 : decode cX7_blow 9 = .ok (.aload_n 0, 1) := by decide +kernel
theorem dX7_blow_10 : decode cX7_blow 10 = .ok (.getfield 19, 3) := by decide +kernel
theorem dX7_blow_13 : decode cX7_blow 13 = .ok (.iload_n 1, 1) := by decide +kernel
theorem dX7_blow_14 : decode cX7_blow 14 = .ok (.iload_n 2, 1) := by decide +kernel
theorem dX7_blow_15 : decode cX7_blow 15 = .ok (.iastore, 1) := by decide +kernel
theorem dX7_blow_16 : decode cX7_blow 16 = .ok (.goto 18, 3) := by decide +kernel
theorem dX7_blow_19 : decode cX7_blow 19 = .ok (.aload_n 0, 1) := by decide +kernel
theorem dX7_blow_20 : decode cX7_blow 20 = .ok (.getfield 19, 3) := by decide +kernel
theorem dX7_blow_23 : decode cX7_blow 23 = .ok (.iload_n 1, 1) := by decide +kernel
theorem dX7_blow_24 : decode cX7_blow 24 = .ok (.bipush (-6), 2) := by decide +kernel
theorem dX7_blow_26 : decode cX7_blow 26 = .ok (.iastore, 1) := by decide +kernel
theorem dX7_blow_27 : decode cX7_blow 27 = .ok (.aload_n 0, 1) := by decide +kernel
theorem dX7_blow_28 : decode cX7_blow 28 = .ok (.getfield 22, 3) := by decide +kernel
theorem dX7_blow_31 : decode cX7_blow 31 = .ok (.iload_n 1, 1) := by decide +kernel
theorem dX7_blow_32 : decode cX7_blow 32 = .ok (.iconst 0, 1) := by decide +kernel
theorem dX7_blow_33 : decode cX7_blow 33 = .ok (.iastore, 1) := by decide +kernel
theorem dX7_blow_34 : decode cX7_blow 34 = .ok (.return_, 1) := by decide +kernel
theorem dX7_lowerAll_0 : decode cX7_lowerAll 0 = .ok (.iconst 0, 1) := by decide +kernel
theorem dX7_lowerAll_1 : decode cX7_lowerAll 1 = .ok (.istore_n 1, 1) := by decide +kernel
theorem dX7_lowerAll_2 : decode cX7_lowerAll 2 = .ok (.iload_n 1, 1) := by decide +kernel
theorem dX7_lowerAll_3 : decode cX7_lowerAll 3 = .ok (.bipush 8, 2) := by decide +kernel
theorem dX7_lowerAll_5 : decode cX7_lowerAll 5 = .ok (.if_icmp .ge 58, 3) := by decide +kernel
theorem dX7_lowerAll_8 : decode cX7_lowerAll 8 = .ok (.aload_n 0, 1) := by decide +kernel
theorem dX7_lowerAll_9 : decode cX7_lowerAll 9 = .ok (.getfield 22, 3) := by decide +kernel
theorem dX7_lowerAll_12 : decode cX7_lowerAll 12 = .ok (.iload_n 1, 1) := by decide +kernel
theorem dX7_lowerAll_13 : decode cX7_lowerAll 13 = .ok (.iaload, 1) := by decide +kernel
theorem dX7_lowerAll_14 : decode cX7_lowerAll 14 = .ok (.ifCond .le 43, 3) := by decide +kernel
theorem dX7_lowerAll_17 : decode cX7_lowerAll 17 = .ok (.aload_n 0, 1) := by decide +kernel
theorem dX7_lowerAll_18 : decode cX7_lowerAll 18 = .ok (.getfield 22, 3) := by decide +kernel
theorem dX7_lowerAll_21 : decode cX7_lowerAll 21 = .ok (.iload_n 1, 1) := by decide +kernel
theorem dX7_lowerAll_22 : decode cX7_lowerAll 22 = .ok (.dup2, 1) := by decide +kernel
theorem dX7_lowerAll_23 : decode cX7_lowerAll 23 = .ok (.iaload, 1) := by decide +kernel
theorem dX7_lowerAll_24 : decode cX7_lowerAll 24 = .ok (.iconst 1, 1) := by decide +kernel
theorem dX7_lowerAll_25 : decode cX7_lowerAll 25 = .ok (.isub, 1) := by decide +kernel
theorem dX7_lowerAll_26 : decode cX7_lowerAll 26 = .ok (.iastore, 1) := by decide +kernel
theorem dX7_lowerAll_27 : decode cX7_lowerAll 27 = .ok (.aload_n 0, 1) := by decide +kernel
theorem dX7_lowerAll_28 : decode cX7_lowerAll 28 = .ok (.getfield 28, 3) := by decide +kernel
theorem dX7_lowerAll_31 : decode cX7_lowerAll 31 = .ok (.iload_n 1, 1) := by decide +kernel
theorem dX7_lowerAll_32 : decode cX7_lowerAll 32 = .ok (.aload_n 0, 1) := by decide +kernel
theorem dX7_lowerAll_33 : decode cX7_lowerAll 33 = .ok (.getfield 22, 3) := by decide +kernel
theorem dX7_lowerAll_36 : decode cX7_lowerAll 36 = .ok (.iload_n 1, 1) := by decide +kernel
theorem dX7_lowerAll_37 : decode cX7_lowerAll 37 = .ok (.iaload, 1) := by decide +kernel
theorem dX7_lowerAll_38 : decode cX7_lowerAll 38 = .ok (.ifCond .ne 16, 3) := by decide +kernel
theorem dX7_lowerAll_41 : decode cX7_lowerAll 41 = .ok (.aload_n 0, 1) := by decide +kernel
theorem dX7_lowerAll_42 : decode cX7_lowerAll 42 = .ok (.aload_n 0, 1) := by decide +kernel
theorem dX7_lowerAll_43 : decode cX7_lowerAll 43 = .ok (.getfield 19, 3) := by decide +kernel
theorem dX7_lowerAll_46 : decode cX7_lowerAll 46 = .ok (.iload_n 1, 1) := by decide +kernel
theorem dX7_lowerAll_47 : decode cX7_lowerAll 47 = .ok (.iaload, 1) := by decide +kernel
theorem dX7_lowerAll_48 : decode cX7_lowerAll 48 = .ok (.invokevirtual 99, 3) := by decide +kernel
theorem dX7_lowerAll_51 : decode cX7_lowerAll 51 = .ok (.goto 5, 3) := by decide +kernel
theorem dX7_lowerAll_54 : decode cX7_lowerAll 54 = .ok (.bipush (-6), 2) := by decide +kernel
theorem dX7_lowerAll_56 : decode cX7_lowerAll 56 = .ok (.iastore, 1) := by decide +kernel
theorem dX7_lowerAll_57 : decode cX7_lowerAll 57 = .ok (.iinc 1 1, 3) := by decide +kernel
theorem dX7_lowerAll_60 : decode cX7_lowerAll 60 = .ok (.goto (-58), 3) := by decide +kernel
theorem dX7_lowerAll_63 : decode cX7_lowerAll 63 = .ok (.return_, 1) := by decide +kernel
theorem dX7_catcherAt_0 : decode cX7_catcherAt 0 = .ok (.iconst 0, 1) := by decide +kernel
theorem dX7_catcherAt_1 : decode cX7_catcherAt 1 = .ok (.istore_n 2, 1) := by decide +kernel
theorem dX7_catcherAt_2 : decode cX7_catcherAt 2 = .ok (.iload_n 2, 1) := by decide +kernel
theorem dX7_catcherAt_3 : decode cX7_catcherAt 3 = .ok (.bipush 6, 2) := by decide +kernel
theorem dX7_catcherAt_5 : decode cX7_catcherAt 5 = .ok (.if_icmp .ge 32, 3) := by decide +kernel
theorem dX7_catcherAt_8 : decode cX7_catcherAt 8 = .ok (.aload_n 0, 1) := by decide +kernel
theorem dX7_catcherAt_9 : decode cX7_catcherAt 9 = .ok (.getfield 31, 3) := by decide +kernel
theorem dX7_catcherAt_12 : decode cX7_catcherAt 12 = .ok (.iload_n 2, 1) := by decide +kernel
theorem dX7_catcherAt_13 : decode cX7_catcherAt 13 = .ok (.iaload, 1) := by decide +kernel
theorem dX7_catcherAt_14 : decode cX7_catcherAt 14 = .ok (.iload_n 1, 1) := by decide +kernel
theorem dX7_catcherAt_15 : decode cX7_catcherAt 15 = .ok (.if_icmp .ne 16, 3) := by decide +kernel
theorem dX7_catcherAt_18 : decode cX7_catcherAt 18 = .ok (.aload_n 0, 1) := by decide +kernel
theorem dX7_catcherAt_19 : decode cX7_catcherAt 19 = .ok (.getfield 34, 3) := by decide +kernel
theorem dX7_catcherAt_22 : decode cX7_catcherAt 22 = .ok (.iload_n 2, 1) := by decide +kernel
theorem dX7_catcherAt_23 : decode cX7_catcherAt 23 = .ok (.invokestatic 62, 3) := by decide +kernel
theorem dX7_catcherAt_26 : decode cX7_catcherAt 26 = .ok (.ifCond .ne 5, 3) := by decide +kernel
theorem dX7_catcherAt_29 : decode cX7_catcherAt 29 = .ok (.iload_n 2, 1) := by decide +kernel
theorem dX7_catcherAt_30 : decode cX7_catcherAt 30 = .ok (.ireturn, 1) := by decide +kernel
theorem dX7_catcherAt_31 : decode cX7_catcherAt 31 = .ok (.iinc 2 1, 3) := by decide +kernel
theorem dX7_catcherAt_34 : decode cX7_catcherAt 34 = .ok (.goto (-32), 3) := by decide +kernel
theorem dX7_catcherAt_37 : decode cX7_catcherAt 37 = .ok (.bipush (-6), 2) := by decide +kernel
theorem dX7_catcherAt_39 : decode cX7_catcherAt 39 = .ok (.ireturn, 1) := by decide +kernel
theorem dX7_addSight_0 : decode cX7_addSight 0 = .ok (.iconst 0, 1) := by decide +kernel
theorem dX7_addSight_1 : decode cX7_addSight 1 = .ok (.istore_n 3, 1) := by decide +kernel
theorem dX7_addSight_2 : decode cX7_addSight 2 = .ok (.iload_n 3, 1) := by decide +kernel
theorem dX7_addSight_3 : decode cX7_addSight 3 = .ok (.bipush 8, 2) := by decide +kernel
theorem dX7_addSight_5 : decode cX7_addSight 5 = .ok (.if_icmp .ge 52, 3) := by decide +kernel
theorem dX7_addSight_8 : decode cX7_addSight 8 = .ok (.iconst 1, 1) := by decide +kernel
theorem dX7_addSight_9 : decode cX7_addSight 9 = .ok (.iload_n 1, 1) := by decide +kernel
theorem dX7_addSight_10 : decode cX7_addSight 10 = .ok (.iload_n 3, 1) := by decide +kernel
theorem dX7_addSight_11 : decode cX7_addSight 11 = .ok (.invokestatic 102, 3) := by decide +kernel
theorem dX7_addSight_14 : decode cX7_addSight 14 = .ok (.ishl, 1) := by decide +kernel
theorem dX7_addSight_15 : decode cX7_addSight 15 = .ok (.istore 4, 2) := by decide +kernel
theorem dX7_addSight_17 : decode cX7_addSight 17 = .ok (.iload_n 2, 1) := by decide +kernel
theorem dX7_addSight_18 : decode cX7_addSight 18 = .ok (.iload_n 3, 1) := by decide +kernel
theorem dX7_addSight_19 : decode cX7_addSight 19 = .ok (.invokestatic 62, 3) := by decide +kernel
theorem dX7_addSight_22 : decode cX7_addSight 22 = .ok (.iconst 1, 1) := by decide +kernel
theorem dX7_addSight_23 : decode cX7_addSight 23 = .ok (.if_icmp .ne 17, 3) := by decide +kernel
theorem dX7_addSight_26 : decode cX7_addSight 26 = .ok (.aload_n 0, 1) := by decide +kernel
theorem dX7_addSight_27 : decode cX7_addSight 27 = .ok (.dup, 1) := by decide +kernel
theorem dX7_addSight_28 : decode cX7_addSight 28 = .ok (.getfield 46, 3) := by decide +kernel
theorem dX7_addSight_31 : decode cX7_addSight 31 = .ok (.iload 4, 2) := by decide +kernel
theorem dX7_addSight_33 : decode cX7_addSight 33 = .ok (.ior, 1) := by decide +kernel
theorem dX7_addSight_34 : decode cX7_addSight 34 = .ok (.putfield 46, 3) := by decide +kernel
theorem dX7_addSight_37 : decode cX7_addSight 37 = .ok (.goto 14, 3) := by decide +kernel
theorem dX7_addSight_40 : decode cX7_addSight 40 = .ok (.aload_n 0, 1) := by decide +kernel
theorem dX7_addSight_41 : decode cX7_addSight 41 = .ok (.dup, 1) := by decide +kernel
theorem dX7_addSight_42 : decode cX7_addSight 42 = .ok (.getfield 49, 3) := by decide +kernel
theorem dX7_addSight_45 : decode cX7_addSight 45 = .ok (.iload 4, 2) := by decide +kernel
theorem dX7_addSight_47 : decode cX7_addSight 47 = .ok (.ior, 1) := by decide +kernel
theorem dX7_addSight_48 : decode cX7_addSight 48 = .ok (.putfield 49, 3) := by decide +kernel
theorem dX7_addSight_51 : decode cX7_addSight 51 = .ok (.iinc 3 1, 3) := by decide +kernel
theorem dX7_addSight_54 : decode cX7_addSight 54 = .ok (.goto (-52), 3) := by decide +kernel
theorem dX7_addSight_57 : decode cX7_addSight 57 = .ok (.aload_n 0, 1) := by decide +kernel
theorem dX7_addSight_58 : decode cX7_addSight 58 = .ok (.dup, 1) := by decide +kernel
theorem dX7_addSight_59 : decode cX7_addSight 59 = .ok (.getfield 43, 3) := by decide +kernel
theorem dX7_addSight_62 : decode cX7_addSight 62 = .ok (.iconst 1, 1) := by decide +kernel
theorem dX7_addSight_63 : decode cX7_addSight 63 = .ok (.iadd, 1) := by decide +kernel
theorem dX7_addSight_64 : decode cX7_addSight 64 = .ok (.putfield 43, 3) := by decide +kernel
theorem dX7_addSight_67 : decode cX7_addSight 67 = .ok (.return_, 1) := by decide +kernel
theorem dX7_fits_0 : decode cX7_fits 0 = .ok (.iload_n 1, 1) := by decide +kernel
theorem dX7_fits_1 : decode cX7_fits 1 = .ok (.aload_n 0, 1) := by decide +kernel
theorem dX7_fits_2 : decode cX7_fits 2 = .ok (.getfield 46, 3) := by decide +kernel
theorem dX7_fits_5 : decode cX7_fits 5 = .ok (.iand, 1) := by decide +kernel
theorem dX7_fits_6 : decode cX7_fits 6 = .ok (.aload_n 0, 1) := by decide +kernel
theorem dX7_fits_7 : decode cX7_fits 7 = .ok (.getfield 46, 3) := by decide +kernel
theorem dX7_fits_10 : decode cX7_fits 10 = .ok (.if_icmp .ne 16, 3) := by decide +kernel
theorem dX7_fits_13 : decode cX7_fits 13 = .ok (.iload_n 1, 1) := by decide +kernel
theorem dX7_fits_14 : decode cX7_fits 14 = .ok (.aload_n 0, 1) := by decide +kernel
theorem dX7_fits_15 : decode cX7_fits 15 = .ok (.getfield 49, 3) := by decide +kernel
theorem dX7_fits_18 : decode cX7_fits 18 = .ok (.iand, 1) := by decide +kernel
theorem dX7_fits_19 : decode cX7_fits 19 = .ok (.ifCond .ne 7, 3) := by decide +kernel
theorem dX7_fits_22 : decode cX7_fits 22 = .ok (.iconst 1, 1) := by decide +kernel
theorem dX7_fits_23 : decode cX7_fits 23 = .ok (.goto 4, 3) := by decide +kernel
theorem dX7_fits_26 : decode cX7_fits 26 = .ok (.iconst 0, 1) := by decide +kernel
theorem dX7_fits_27 : decode cX7_fits 27 = .ok (.ireturn, 1) := by decide +kernel
theorem dX7_lawsLeftBy_0 : decode cX7_lawsLeftBy 0 = .ok (.aload_n 0, 1) := by decide +kernel
theorem dX7_lawsLeftBy_1 : decode cX7_lawsLeftBy 1 = .ok (.getfield 46, 3) := by decide +kernel
theorem dX7_lawsLeftBy_4 : decode cX7_lawsLeftBy 4 = .ok (.aload_n 0, 1) := by decide +kernel
theorem dX7_lawsLeftBy_5 : decode cX7_lawsLeftBy 5 = .ok (.getfield 49, 3) := by decide +kernel
theorem dX7_lawsLeftBy_8 : decode cX7_lawsLeftBy 8 = .ok (.ior, 1) := by decide +kernel
theorem dX7_lawsLeftBy_9 : decode cX7_lawsLeftBy 9 = .ok (.istore_n 2, 1) := by decide +kernel
theorem dX7_lawsLeftBy_10 : decode cX7_lawsLeftBy 10 = .ok (.iconst 0, 1) := by decide +kernel
theorem dX7_lawsLeftBy_11 : decode cX7_lawsLeftBy 11 = .ok (.istore_n 3, 1) := by decide +kernel
theorem dX7_lawsLeftBy_12 : decode cX7_lawsLeftBy 12 = .ok (.iload_n 3, 1) := by decide +kernel
theorem dX7_lawsLeftBy_13 : decode cX7_lawsLeftBy 13 = .ok (.bipush 8, 2) := by decide +kernel
theorem dX7_lawsLeftBy_15 : decode cX7_lawsLeftBy 15 = .ok (.if_icmp .ge 19, 3) := by decide +kernel
theorem dX7_lawsLeftBy_18 : decode cX7_lawsLeftBy 18 = .ok (.iload_n 2, 1) := by decide +kernel
theorem dX7_lawsLeftBy_19 : decode cX7_lawsLeftBy 19 = .ok (.iconst 1, 1) := by decide +kernel
theorem dX7_lawsLeftBy_20 : decode cX7_lawsLeftBy 20 = .ok (.iload_n 1, 1) := by decide +kernel
theorem dX7_lawsLeftBy_21 : decode cX7_lawsLeftBy 21 = .ok (.iload_n 3, 1) := by decide +kernel
theorem dX7_lawsLeftBy_22 : decode cX7_lawsLeftBy 22 = .ok (.invokestatic 102, 3) := by decide +kernel
theorem dX7_lawsLeftBy_25 : decode cX7_lawsLeftBy 25 = .ok (.ishl, 1) := by decide +kernel
theorem dX7_lawsLeftBy_26 : decode cX7_lawsLeftBy 26 = .ok (.ior, 1) := by decide +kernel
theorem dX7_lawsLeftBy_27 : decode cX7_lawsLeftBy 27 = .ok (.istore_n 2, 1) := by decide +kernel
theorem dX7_lawsLeftBy_28 : decode cX7_lawsLeftBy 28 = .ok (.iinc 3 1, 3) := by decide +kernel
theorem dX7_lawsLeftBy_31 : decode cX7_lawsLeftBy 31 = .ok (.goto (-19), 3) := by decide +kernel
theorem dX7_lawsLeftBy_34 : decode cX7_lawsLeftBy 34 = .ok (.iconst 1, 1) := by decide +kernel
theorem dX7_lawsLeftBy_35 : decode cX7_lawsLeftBy 35 = .ok (.bipush 8, 2) := by decide +kernel
theorem dX7_lawsLeftBy_37 : decode cX7_lawsLeftBy 37 = .ok (.iload_n 2, 1) := by decide +kernel
theorem dX7_lawsLeftBy_38 : decode cX7_lawsLeftBy 38 = .ok (.invokestatic 105, 3) := by decide +kernel
theorem dX7_lawsLeftBy_41 : decode cX7_lawsLeftBy 41 = .ok (.isub, 1) := by decide +kernel
theorem dX7_lawsLeftBy_42 : decode cX7_lawsLeftBy 42 = .ok (.ishl, 1) := by decide +kernel
theorem dX7_lawsLeftBy_43 : decode cX7_lawsLeftBy 43 = .ok (.ireturn, 1) := by decide +kernel
theorem dX8_init_0 : decode cX8_init 0 = .ok (.aload_n 0, 1) := by decide +kernel
theorem dX8_init_1 : decode cX8_init 1 = .ok (.invokespecial 1, 3) := by decide +kernel
theorem dX8_init_4 : decode cX8_init 4 = .ok (.aload_n 0, 1) := by decide +kernel
theorem dX8_init_5 : decode cX8_init 5 = .ok (.new 7, 3) := by decide +kernel
theorem dX8_init_8 : decode cX8_init 8 = .ok (.dup, 1) := by decide +kernel
theorem dX8_init_9 : decode cX8_init 9 = .ok (.invokespecial 9, 3) := by decide +kernel
theorem dX8_init_12 : decode cX8_init 12 = .ok (.putfield 10, 3) := by decide +kernel
theorem dX8_init_15 : decode cX8_init 15 = .ok (.aload_n 0, 1) := by decide +kernel
theorem dX8_init_16 : decode cX8_init 16 = .ok (.iconst 2, 1) := by decide +kernel
theorem dX8_init_17 : decode cX8_init 17 = .ok (.anewarray 7, 3) := by decide +kernel
theorem dX8_init_20 : decode cX8_init 20 = .ok (.dup, 1) := by decide +kernel
theorem dX8_init_21 : decode cX8_init 21 = .ok (.iconst 0, 1) := by decide +kernel
theorem dX8_init_22 : decode cX8_init 22 = .ok (.new 7, 3) := by decide +kernel
theorem dX8_init_25 : decode cX8_init 25 = .ok (.dup, 1) := by decide +kernel
theorem dX8_init_26 : decode cX8_init 26 = .ok (.invokespecial 9, 3) := by decide +kernel
theorem dX8_init_29 : decode cX8_init 29 = .ok (.aastore, 1) := by decide +kernel
theorem dX8_init_30 : decode cX8_init 30 = .ok (.dup, 1) := by decide +kernel
theorem dX8_init_31 : decode cX8_init 31 = .ok (.iconst 1, 1) := by decide +kernel
theorem dX8_init_32 : decode cX8_init 32 = .ok (.new 7, 3) := by decide +kernel
theorem dX8_init_35 : decode cX8_init 35 = .ok (.dup, 1) := by decide +kernel
theorem dX8_init_36 : decode cX8_init 36 = .ok (.invokespecial 9, 3) := by decide +kernel
theorem dX8_init_39 : decode cX8_init 39 = .ok (.aastore, 1) := by decide +kernel
theorem dX8_init_40 : decode cX8_init 40 = .ok (.putfield 16, 3) := by decide +kernel
theorem dX8_init_43 : decode cX8_init 43 = .ok (.aload_n 0, 1) := by decide +kernel
theorem dX8_init_44 : decode cX8_init 44 = .ok (.iconst 0, 1) := by decide +kernel
theorem dX8_init_45 : decode cX8_init 45 = .ok (.putfield 20, 3) := by decide +kernel
theorem dX8_init_48 : decode cX8_init 48 = .ok (.aload_n 0, 1) := by decide +kernel
theorem dX8_init_49 : decode cX8_init 49 = .ok (.new 24, 3) := by decide +kernel
theorem dX8_init_52 : decode cX8_init 52 = .ok (.dup, 1) := by decide +kernel
theorem dX8_init_53 : decode cX8_init 53 = .ok (.invokespecial 26, 3) := by decide +kernel
theorem dX8_init_56 : decode cX8_init 56 = .ok (.putfield 27, 3) := by decide +kernel
theorem dX8_init_59 : decode cX8_init 59 = .ok (.aload_n 0, 1) := by decide +kernel
theorem dX8_init_60 : decode cX8_init 60 = .ok (.new 31, 3) := by decide +kernel
theorem dX8_init_63 : decode cX8_init 63 = .ok (.dup, 1) := by decide +kernel
theorem dX8_init_64 : decode cX8_init 64 = .ok (.invokespecial 33, 3) := by decide +kernel
theorem dX8_init_67 : decode cX8_init 67 = .ok (.putfield 34, 3) := by decide +kernel
theorem dX8_init_70 : decode cX8_init 70 = .ok (.aload_n 0, 1) := by decide +kernel
theorem dX8_init_71 : decode cX8_init 71 = .ok (.new 38, 3) := by decide +kernel
theorem dX8_init_74 : decode cX8_init 74 = .ok (.dup, 1) := by decide +kernel
theorem dX8_init_75 : decode cX8_init 75 = .ok (.invokespecial 40, 3) := by decide +kernel
theorem dX8_init_78 : decode cX8_init 78 = .ok (.putfield 41, 3) := by decide +kernel
theorem dX8_init_81 : decode cX8_init 81 = .ok (.aload_n 0, 1) := by decide +kernel
theorem dX8_init_82 : decode cX8_init 82 = .ok (.new 45, 3) := by decide +kernel
theorem dX8_init_85 : decode cX8_init 85 = .ok (.dup, 1) := by decide +kernel
theorem dX8_init_86 : decode cX8_init 86 = .ok (.invokespecial 47, 3) := by decide +kernel
theorem dX8_init_89 : decode cX8_init 89 = .ok (.putfield 48, 3) := by decide +kernel
theorem dX8_init_92 : decode cX8_init 92 = .ok (.aload_n 0, 1) := by decide +kernel
theorem dX8_init_93 : decode cX8_init 93 = .ok (.new 52, 3) := by decide +kernel
theorem dX8_init_96 : decode cX8_init 96 = .ok (.dup, 1) := by decide +kernel
theorem dX8_init_97 : decode cX8_init 97 = .ok (.invokespecial 54, 3) := by decide +kernel
theorem dX8_init_100 : decode cX8_init 100 = .ok (.putfield 55, 3) := by decide +kernel
theorem dX8_init_103 : decode cX8_init 103 = .ok (.return_, 1) := by decide +kernel
theorem dX8_flake_0 : decode cX8_flake 0 = .ok (.iload_n 1, 1) := by decide +kernel
theorem dX8_flake_1 : decode cX8_flake 1 = .ok (.bipush 8, 2) := by decide +kernel
theorem dX8_flake_3 : decode cX8_flake 3 = .ok (.invokestatic 59, 3) := by decide +kernel
theorem dX8_flake_6 : decode cX8_flake 6 = .ok (.ifCond .eq 13, 3) := by decide +kernel
theorem dX8_flake_9 : decode cX8_flake 9 = .ok (.iload 5, 2) := by decide +kernel
theorem dX8_flake_11 : decode cX8_flake 11 = .ok (.bipush 6, 2) := by decide +kernel
theorem dX8_flake_13 : decode cX8_flake 13 = .ok (.invokestatic 59, 3) := by decide +kernel
theorem dX8_flake_16 : decode cX8_flake 16 = .ok (.ifCond .ne 5, 3) := by decide +kernel
theorem dX8_flake_19 : decode cX8_flake 19 = .ok (.iconst (-1), 1) := by decide +kernel
theorem dX8_flake_20 : decode cX8_flake 20 = .ok (.ireturn, 1) := by decide +kernel
theorem dX8_flake_21 : decode cX8_flake 21 = .ok (.iload_n 2, 1) := by decide +kernel
theorem dX8_flake_22 : decode cX8_flake 22 = .ok (.sipush 256, 3) := by decide +kernel
theorem dX8_flake_25 : decode cX8_flake 25 = .ok (.invokestatic 59, 3) := by decide +kernel
theorem dX8_flake_28 : decode cX8_flake 28 = .ok (.ifCond .eq 22, 3) := by decide +kernel
theorem dX8_flake_31 : decode cX8_flake 31 = .ok (.iload_n 3, 1) := by decide +kernel
theorem dX8_flake_32 : decode cX8_flake 32 = .ok (.bipush 16, 2) := by decide +kernel
theorem dX8_flake_34 : decode cX8_flake 34 = .ok (.invokestatic 59, 3) := by decide +kernel
theorem dX8_flake_37 : decode cX8_flake 37 = .ok (.ifCond .eq 13, 3) := by decide +kernel
theorem dX8_flake_40 : decode cX8_flake 40 = .ok (.iload 4, 2) := by decide +kernel
theorem dX8_flake_42 : decode cX8_flake 42 = .ok (.bipush 10, 2) := by decide +kernel
theorem dX8_flake_44 : decode cX8_flake 44 = .ok (.invokestatic 59, 3) := by decide +kernel
theorem dX8_flake_47 : decode cX8_flake 47 = .ok (.ifCond .ne 6, 3) := by decide +kernel
theorem dX8_flake_50 : decode cX8_flake 50 = .ok (.bipush (-2), 2) := by decide +kernel
theorem dX8_flake_52 : decode cX8_flake 52 = .ok (.ireturn, 1) := by decide +kernel
theorem dX8_flake_53 : decode cX8_flake 53 = .ok (.aload_n 0, 1) := by decide +kernel
theorem dX8_flake_54 : decode cX8_flake 54 = .ok (.getfield 10, 3) := by decide +kernel
theorem dX8_flake_57 : decode cX8_flake 57 = .ok (.iload_n 1, 1) := by decide +kernel
theorem dX8_flake_58 : decode cX8_flake 58 = .ok (.iload_n 2, 1) := by decide +kernel
theorem dX8_flake_59 : decode cX8_flake 59 = .ok (.iload_n 3, 1) := by decide +kernel
theorem dX8_flake_60 : decode cX8_flake 60 = .ok (.iload 4, 2) := by decide +kernel
theorem dX8_flake_62 : decode cX8_flake 62 = .ok (.iload 5, 2) := by decide +kernel
theorem dX8_flake_64 : decode cX8_flake 64 = .ok (.invokevirtual 63, 3) := by decide +kernel
theorem dX8_flake_67 : decode cX8_flake 67 = .ok (.aload_n 0, 1) := by decide +kernel
theorem dX8_flake_68 : decode cX8_flake 68 = .ok (.getfield 10, 3) := by decide +kernel
theorem dX8_flake_71 : decode cX8_flake 71 = .ok (.getfield 67, 3) := by decide +kernel
theorem dX8_flake_74 : decode cX8_flake 74 = .ok (.invokestatic 70, 3) := by decide +kernel
theorem dX8_flake_77 : decode cX8_flake 77 = .ok (.ireturn, 1) := by decide +kernel
theorem dX8_melt_0 : decode cX8_melt 0 = .ok (.aload_n 0, 1) := by decide +kernel
theorem dX8_melt_1 : decode cX8_melt 1 = .ok (.getfield 10, 3) := by decide +kernel
theorem dX8_melt_4 : decode cX8_melt 4 = .ok (.iload_n 1, 1) := by decide +kernel
theorem dX8_melt_5 : decode cX8_melt 5 = .ok (.invokevirtual 76, 3) := by decide +kernel
theorem dX8_melt_8 : decode cX8_melt 8 = .ok (.ifCond .ne 5, 3) := by decide +kernel
theorem dX8_melt_11 : decode cX8_melt 11 = .ok (.iconst (-1), 1) := by decide +kernel
theorem dX8_melt_12 : decode cX8_melt 12 = .ok (.ireturn, 1) := by decide +kernel
theorem dX8_melt_13 : decode cX8_melt 13 = .ok (.aload_n 0, 1) := by decide +kernel
theorem dX8_melt_14 : decode cX8_melt 14 = .ok (.getfield 10, 3) := by decide +kernel
theorem dX8_melt_17 : decode cX8_melt 17 = .ok (.iload_n 1, 1) := by decide +kernel
theorem dX8_melt_18 : decode cX8_melt 18 = .ok (.invokevirtual 80, 3) := by decide +kernel
theorem dX8_melt_21 : decode cX8_melt 21 = .ok (.aload_n 0, 1) := by decide +kernel
theorem dX8_melt_22 : decode cX8_melt 22 = .ok (.getfield 10, 3) := by decide +kernel
theorem dX8_melt_25 : decode cX8_melt 25 = .ok (.getfield 67, 3) := by decide +kernel
theorem dX8_melt_28 : decode cX8_melt 28 = .ok (.invokestatic 70, 3) := by decide +kernel
theorem dX8_melt_31 : decode cX8_melt 31 = .ok (.ireturn, 1) := by decide +kernel
theorem dX8_stand_0 : decode cX8_stand 0 = .ok (.iload_n 1, 1) := by decide +kernel
theorem dX8_stand_1 : decode cX8_stand 1 = .ok (.bipush 6, 2) := by decide +kernel
theorem dX8_stand_3 : decode cX8_stand 3 = .ok (.invokestatic 59, 3) := by decide +kernel
theorem dX8_stand_6 : decode cX8_stand 6 = .ok (.ifCond .ne 5, 3) := by decide +kernel
theorem dX8_stand_9 : decode cX8_stand 9 = .ok (.iconst (-1), 1) := by decide +kernel
theorem dX8_stand_10 : decode cX8_stand 10 = .ok (.ireturn, 1) := by decide +kernel
theorem dX8_stand_11 : decode cX8_stand 11 = .ok (.iload_n 2, 1) := by decide +kernel
theorem dX8_stand_12 : decode cX8_stand 12 = .ok (.bipush 16, 2) := by decide +kernel
theorem dX8_stand_14 : decode cX8_stand 14 = .ok (.invokestatic 59, 3) := by decide +kernel
theorem dX8_stand_17 : decode cX8_stand 17 = .ok (.ifCond .ne 6, 3) := by decide +kernel
theorem dX8_stand_20 : decode cX8_stand 20 = .ok (.bipush (-2), 2) := by decide +kernel
theorem dX8_stand_22 : decode cX8_stand 22 = .ok (.ireturn, 1) := by decide +kernel
theorem dX8_stand_23 : decode cX8_stand 23 = .ok (.aload_n 0, 1) := by decide +kernel
theorem dX8_stand_24 : decode cX8_stand 24 = .ok (.getfield 10, 3) := by decide +kernel
theorem dX8_stand_27 : decode cX8_stand 27 = .ok (.getfield 84, 3) := by decide +kernel
theorem dX8_stand_30 : decode cX8_stand 30 = .ok (.iload_n 1, 1) := by decide +kernel
theorem dX8_stand_31 : decode cX8_stand 31 = .ok (.iaload, 1) := by decide +kernel
theorem dX8_stand_32 : decode cX8_stand 32 = .ok (.istore_n 3, 1) := by decide +kernel
theorem dX8_stand_33 : decode cX8_stand 33 = .ok (.aload_n 0, 1) := by decide +kernel
theorem dX8_stand_34 : decode cX8_stand 34 = .ok (.getfield 10, 3) := by decide +kernel
theorem dX8_stand_37 : decode cX8_stand 37 = .ok (.getfield 84, 3) := by decide +kernel
theorem dX8_stand_40 : decode cX8_stand 40 = .ok (.iload_n 1, 1) := by decide +kernel
theorem dX8_stand_41 : decode cX8_stand 41 = .ok (.iload_n 2, 1) := by decide +kernel
theorem dX8_stand_42 : decode cX8_stand 42 = .ok (.iastore, 1) := by decide +kernel
theorem dX8_stand_43 : decode cX8_stand 43 = .ok (.aload_n 0, 1) := by decide +kernel
theorem dX8_stand_44 : decode cX8_stand 44 = .ok (.getfield 10, 3) := by decide +kernel
theorem dX8_stand_47 : decode cX8_stand 47 = .ok (.dup, 1) := by decide +kernel
theorem dX8_stand_48 : decode cX8_stand 48 = .ok (.getfield 88, 3) := by decide +kernel
theorem dX8_stand_51 : decode cX8_stand 51 = .ok (.iconst 1, 1) := by decide +kernel
theorem dX8_stand_52 : decode cX8_stand 52 = .ok (.iload_n 1, 1) := by decide +kernel
theorem dX8_stand_53 : decode cX8_stand 53 = .ok (.ishl, 1) := by decide +kernel
theorem dX8_stand_54 : decode cX8_stand 54 = .ok (.iconst (-1), 1) := by decide +kernel
theorem dX8_stand_55 : decode cX8_stand 55 = .ok (.ixor, 1) := by decide +kernel
theorem dX8_stand_56 : decode cX8_stand 56 = .ok (.iand, 1) := by decide +kernel
theorem dX8_stand_57 : decode cX8_stand 57 = .ok (.putfield 88, 3) := by decide +kernel
theorem dX8_stand_60 : decode cX8_stand 60 = .ok (.iload_n 3, 1) := by decide +kernel
theorem dX8_stand_61 : decode cX8_stand 61 = .ok (.ireturn, 1) := by decide +kernel
theorem dX8_air_0 : decode cX8_air 0 = .ok (.iload_n 1, 1) := by decide +kernel
theorem dX8_air_1 : decode cX8_air 1 = .ok (.iconst 2, 1) := by decide +kernel
theorem dX8_air_2 : decode cX8_air 2 = .ok (.invokestatic 59, 3) := by decide +kernel
theorem dX8_air_5 : decode cX8_air 5 = .ok (.ifCond .eq 13, 3) := by decide +kernel
theorem dX8_air_8 : decode cX8_air 8 = .ok (.iload_n 2, 1) := by decide +kernel
theorem dX8_air_9 : decode cX8_air 9 = .ok (.sipush 256, 3) := by decide +kernel
theorem dX8_air_12 : decode cX8_air 12 = .ok (.invokestatic 59, 3) := by decide +kernel
theorem dX8_air_15 : decode cX8_air 15 = .ok (.ifCond .ne 6, 3) := by decide +kernel
theorem dX8_air_18 : decode cX8_air 18 = .ok (.bipush (-2), 2) := by decide +kernel
theorem dX8_air_20 : decode cX8_air 20 = .ok (.ireturn, 1) := by decide +kernel
theorem dX8_air_21 : decode cX8_air 21 = .ok (.iload_n 1, 1) := by decide +kernel
theorem dX8_air_22 : decode cX8_air 22 = .ok (.ifCond .ne 13, 3) := by decide +kernel
theorem dX8_air_25 : decode cX8_air 25 = .ok (.aload_n 0, 1) := by decide +kernel
theorem dX8_air_26 : decode cX8_air 26 = .ok (.getfield 10, 3) := by decide +kernel
theorem dX8_air_29 : decode cX8_air 29 = .ok (.getfield 91, 3) := by decide +kernel
theorem dX8_air_32 : decode cX8_air 32 = .ok (.goto 10, 3) := by decide +kernel
theorem dX8_air_35 : decode cX8_air 35 = .ok (.aload_n 0, 1) := by decide +kernel
theorem dX8_air_36 : decode cX8_air 36 = .ok (.getfield 10, 3) := by decide +kernel
theorem dX8_air_39 : decode cX8_air 39 = .ok (.getfield 94, 3) := by decide +kernel
theorem dX8_air_42 : decode cX8_air 42 = .ok (.istore_n 3, 1) := by decide +kernel
theorem dX8_air_43 : decode cX8_air 43 = .ok (.iload_n 1, 1) := by decide +kernel
theorem dX8_air_44 : decode cX8_air 44 = .ok (.ifCond .ne 14, 3) := by decide +kernel
theorem dX8_air_47 : decode cX8_air 47 = .ok (.aload_n 0, 1) := by decide +kernel
theorem dX8_air_48 : decode cX8_air 48 = .ok (.getfield 10, 3) := by decide +kernel
theorem dX8_air_51 : decode cX8_air 51 = .ok (.iload_n 2, 1) := by decide +kernel
theorem dX8_air_52 : decode cX8_air 52 = .ok (.putfield 91, 3) := by decide +kernel
theorem dX8_air_55 : decode cX8_air 55 = .ok (.goto 11, 3) := by decide +kernel
theorem dX8_air_58 : decode cX8_air 58 = .ok (.aload_n 0, 1) := by decide +kernel
theorem dX8_air_59 : decode cX8_air 59 = .ok (.getfield 10, 3) := by decide +kernel
theorem dX8_air_62 : decode cX8_air 62 = .ok (.iload_n 2, 1) := by decide +kernel
theorem dX8_air_63 : decode cX8_air 63 = .ok (.putfield 94, 3) := by decide +kernel
theorem dX8_air_66 : decode cX8_air 66 = .ok (.iload_n 3, 1) := by decide +kernel
theorem dX8_air_67 : decode cX8_air 67 = .ok (.ireturn, 1) := by decide +kernel
theorem dX8_say_0 : decode cX8_say 0 = .ok (.iload_n 1, 1) := by decide +kernel
theorem dX8_say_1 : decode cX8_say 1 = .ok (.bipush 33, 2) := by decide +kernel
theorem dX8_say_3 : decode cX8_say 3 = .ok (.if_icmp .lt 9, 3) := by decide +kernel
theorem dX8_say_6 : decode cX8_say 6 = .ok (.iload_n 1, 1) := by decide +kernel
theorem dX8_say_7 : decode cX8_say 7 = .ok (.bipush 126, 2) := by decide +kernel
theorem dX8_say_9 : decode cX8_say 9 = .ok (.if_icmp .le 6, 3) := by decide +kernel
theorem dX8_say_12 : decode cX8_say 12 = .ok (.bipush (-2), 2) := by decide +kernel
theorem dX8_say_14 : decode cX8_say 14 = .ok (.ireturn, 1) := by decide +kernel
theorem dX8_say_15 : decode cX8_say 15 = .ok (.aload_n 0, 1) := by decide +kernel
theorem dX8_say_16 : decode cX8_say 16 = .ok (.getfield 27, 3) := by decide +kernel
theorem dX8_say_19 : decode cX8_say 19 = .ok (.iload_n 1, 1) := by decide +kernel
theorem dX8_say_20 : decode cX8_say 20 = .ok (.invokevirtual 97, 3) := by decide +kernel
theorem dX8_say_23 : decode cX8_say 23 = .ok (.ifCond .eq 13, 3) := by decide +kernel
theorem dX8_say_26 : decode cX8_say 26 = .ok (.aload_n 0, 1) := by decide +kernel
theorem dX8_say_27 : decode cX8_say 27 = .ok (.getfield 27, 3) := by decide +kernel
theorem dX8_say_30 : decode cX8_say 30 = .ok (.getfield 100, 3) := by decide +kernel
theorem dX8_say_33 : decode cX8_say 33 = .ok (.goto 5, 3) := by decide +kernel
theorem dX8_say_36 : decode cX8_say 36 = .ok (.bipush (-4), 2) := by decide +kernel
theorem dX8_say_38 : decode cX8_say 38 = .ok (.ireturn, 1) := by decide +kernel
theorem dX8_wipe_0 : decode cX8_wipe 0 = .ok (.aload_n 0, 1) := by decide +kernel
theorem dX8_wipe_1 : decode cX8_wipe 1 = .ok (.getfield 27, 3) := by decide +kernel
theorem dX8_wipe_4 : decode cX8_wipe 4 = .ok (.getfield 100, 3) := by decide +kernel
theorem dX8_wipe_7 : decode cX8_wipe 7 = .ok (.istore_n 1, 1) := by decide +kernel
theorem dX8_wipe_8 : decode cX8_wipe 8 = .ok (.aload_n 0, 1) := by decide +kernel
theorem dX8_wipe_9 : decode cX8_wipe 9 = .ok (.getfield 27, 3) := by decide +kernel
theorem dX8_wipe_12 : decode cX8_wipe 12 = .ok (.iconst 0, 1) := by decide +kernel
theorem dX8_wipe_13 : decode cX8_wipe 13 = .ok (.putfield 100, 3) := by decide +kernel
theorem dX8_wipe_16 : decode cX8_wipe 16 = .ok (.iload_n 1, 1) := by decide +kernel
theorem dX8_wipe_17 : decode cX8_wipe 17 = .ok (.ireturn, 1) := by decide +kernel
theorem dX8_fault_0 : decode cX8_fault 0 = .ok (.aload_n 0, 1) := by decide +kernel
theorem dX8_fault_1 : decode cX8_fault 1 = .ok (.getfield 27, 3) := by decide +kernel
theorem dX8_fault_4 : decode cX8_fault 4 = .ok (.invokevirtual 103, 3) := by decide +kernel
theorem dX8_fault_7 : decode cX8_fault 7 = .ok (.ireturn, 1) := by decide +kernel
theorem dX8_judge_0 : decode cX8_judge 0 = .ok (.iload_n 1, 1) := by decide +kernel
theorem dX8_judge_1 : decode cX8_judge 1 = .ok (.iconst 3, 1) := by decide +kernel
theorem dX8_judge_2 : decode cX8_judge 2 = .ok (.invokestatic 59, 3) := by decide +kernel
theorem dX8_judge_5 : decode cX8_judge 5 = .ok (.ifCond .ne 6, 3) := by decide +kernel
theorem dX8_judge_8 : decode cX8_judge 8 = .ok (.bipush (-2), 2) := by decide +kernel
theorem dX8_judge_10 : decode cX8_judge 10 = .ok (.ireturn, 1) := by decide +kernel
theorem dX8_judge_11 : decode cX8_judge 11 = .ok (.aload_n 0, 1) := by decide +kernel
theorem dX8_judge_12 : decode cX8_judge 12 = .ok (.invokevirtual 107, 3) := by decide +kernel
theorem dX8_judge_15 : decode cX8_judge 15 = .ok (.istore_n 2, 1) := by decide +kernel
theorem dX8_judge_16 : decode cX8_judge 16 = .ok (.iload_n 2, 1) := by decide +kernel
theorem dX8_judge_17 : decode cX8_judge 17 = .ok (.bipush (-5), 2) := by decide +kernel
theorem dX8_judge_19 : decode cX8_judge 19 = .ok (.if_icmp .ne 6, 3) := by decide +kernel
theorem dX8_judge_22 : decode cX8_judge 22 = .ok (.bipush (-5), 2) := by decide +kernel
theorem dX8_judge_24 : decode cX8_judge 24 = .ok (.ireturn, 1) := by decide +kernel
theorem dX8_judge_25 : decode cX8_judge 25 = .ok (.iload_n 1, 1) := by decide +kernel
theorem dX8_judge_26 : decode cX8_judge 26 = .ok (.lookupswitch 42 #[(0, 26), (1, 34)], 26) := by decide +kernel
theorem dX8_judge_52 : decode cX8_judge 52 = .ok (.aload_n 0, 1) := by decide +kernel
theorem dX8_judge_53 : decode cX8_judge 53 = .ok (.getfield 34, 3) := by decide +kernel
theorem dX8_judge_56 : decode cX8_judge 56 = .ok (.getfield 110, 3) := by decide +kernel
theorem dX8_judge_59 : decode cX8_judge 59 = .ok (.ireturn, 1) := by decide +kernel
theorem dX8_judge_60 : decode cX8_judge 60 = .ok (.aload_n 0, 1) := by decide +kernel
theorem dX8_judge_61 : decode cX8_judge 61 = .ok (.getfield 34, 3) := by decide +kernel
theorem dX8_judge_64 : decode cX8_judge 64 = .ok (.getfield 113, 3) := by decide +kernel
theorem dX8_judge_67 : decode cX8_judge 67 = .ok (.ireturn, 1) := by decide +kernel
theorem dX8_judge_68 : decode cX8_judge 68 = .ok (.iload_n 2, 1) := by decide +kernel
theorem dX8_judge_69 : decode cX8_judge 69 = .ok (.ifCond .ne 13, 3) := by decide +kernel
theorem dX8_judge_72 : decode cX8_judge 72 = .ok (.aload_n 0, 1) := by decide +kernel
theorem dX8_judge_73 : decode cX8_judge 73 = .ok (.getfield 34, 3) := by decide +kernel
theorem dX8_judge_76 : decode cX8_judge 76 = .ok (.invokevirtual 116, 3) := by decide +kernel
theorem dX8_judge_79 : decode cX8_judge 79 = .ok (.goto 5, 3) := by decide +kernel
theorem dX8_judge_82 : decode cX8_judge 82 = .ok (.bipush (-3), 2) := by decide +kernel
theorem dX8_judge_84 : decode cX8_judge 84 = .ok (.ireturn, 1) := by decide +kernel
theorem dX8_behind_0 : decode cX8_behind 0 = .ok (.aload_n 0, 1) := by decide +kernel
theorem dX8_behind_1 : decode cX8_behind 1 = .ok (.getfield 10, 3) := by decide +kernel
theorem dX8_behind_4 : decode cX8_behind 4 = .ok (.iload_n 1, 1) := by decide +kernel
theorem dX8_behind_5 : decode cX8_behind 5 = .ok (.invokevirtual 76, 3) := by decide +kernel
theorem dX8_behind_8 : decode cX8_behind 8 = .ok (.ifCond .ne 5, 3) := by decide +kernel
theorem dX8_behind_11 : decode cX8_behind 11 = .ok (.iconst (-1), 1) := by decide +kernel
theorem dX8_behind_12 : decode cX8_behind 12 = .ok (.ireturn, 1) := by decide +kernel
theorem dX8_behind_13 : decode cX8_behind 13 = .ok (.iload_n 2, 1) := by decide +kernel
theorem dX8_behind_14 : decode cX8_behind 14 = .ok (.iconst 4, 1) := by decide +kernel
theorem dX8_behind_15 : decode cX8_behind 15 = .ok (.invokestatic 59, 3) := by decide +kernel
theorem dX8_behind_18 : decode cX8_behind 18 = .ok (.ifCond .ne 6, 3) := by decide +kernel
theorem dX8_behind_21 : decode cX8_behind 21 = .ok (.bipush (-2), 2) := by decide +kernel
theorem dX8_behind_23 : decode cX8_behind 23 = .ok (.ireturn, 1) := by decide +kernel
theorem dX8_behind_24 : decode cX8_behind 24 = .ok (.aload_n 0, 1) := by decide +kernel
theorem dX8_behind_25 : decode cX8_behind 25 = .ok (.invokevirtual 107, 3) := by decide +kernel
theorem dX8_behind_28 : decode cX8_behind 28 = .ok (.istore_n 3, 1) := by decide +kernel
theorem dX8_behind_29 : decode cX8_behind 29 = .ok (.iload_n 3, 1) := by decide +kernel
theorem dX8_behind_30 : decode cX8_behind 30 = .ok (.ifCond .eq 5, 3) := by decide +kernel
theorem dX8_behind_33 : decode cX8_behind 33 = .ok (.iload_n 3, 1) := by decide +kernel
theorem dX8_behind_34 : decode cX8_behind 34 = .ok (.ireturn, 1) := by decide +kernel
theorem dX8_behind_35 : decode cX8_behind 35 = .ok (.iload_n 2, 1) := by decide +kernel
theorem dX8_behind_36 : decode cX8_behind 36 = .ok (.tableswitch 67 0 2 #[28, 41, 54], 28) := by decide +kernel
theorem dX8_behind_64 : decode cX8_behind 64 = .ok (.aload_n 0, 1) := by decide +kernel
theorem dX8_behind_65 : decode cX8_behind 65 = .ok (.getfield 34, 3) := by decide +kernel
theorem dX8_behind_68 : decode cX8_behind 68 = .ok (.getfield 119, 3) := by decide +kernel
theorem dX8_behind_71 : decode cX8_behind 71 = .ok (.getfield 122, 3) := by decide +kernel
theorem dX8_behind_74 : decode cX8_behind 74 = .ok (.iload_n 1, 1) := by decide +kernel
theorem dX8_behind_75 : decode cX8_behind 75 = .ok (.iaload, 1) := by decide +kernel
theorem dX8_behind_76 : decode cX8_behind 76 = .ok (.ireturn, 1) := by decide +kernel
theorem dX8_behind_77 : decode cX8_behind 77 = .ok (.aload_n 0, 1) := by decide +kernel
theorem dX8_behind_78 : decode cX8_behind 78 = .ok (.getfield 34, 3) := by decide +kernel
theorem dX8_behind_81 : decode cX8_behind 81 = .ok (.getfield 119, 3) := by decide +kernel
theorem dX8_behind_84 : decode cX8_behind 84 = .ok (.getfield 125, 3) := by decide +kernel
theorem dX8_behind_87 : decode cX8_behind 87 = .ok (.iload_n 1, 1) := by decide +kernel
theorem dX8_behind_88 : decode cX8_behind 88 = .ok (.iaload, 1) := by decide +kernel
theorem dX8_behind_89 : decode cX8_behind 89 = .ok (.ireturn, 1) := by decide +kernel
theorem dX8_behind_90 : decode cX8_behind 90 = .ok (.aload_n 0, 1) := by decide +kernel
theorem dX8_behind_91 : decode cX8_behind 91 = .ok (.getfield 34, 3) := by decide +kernel
theorem dX8_behind_94 : decode cX8_behind 94 = .ok (.getfield 119, 3) := by decide +kernel
theorem dX8_behind_97 : decode cX8_behind 97 = .ok (.getfield 128, 3) := by decide +kernel
theorem dX8_behind_100 : decode cX8_behind 100 = .ok (.iload_n 1, 1) := by decide +kernel
theorem dX8_behind_101 : decode cX8_behind 101 = .ok (.iaload, 1) := by decide +kernel
theorem dX8_behind_102 : decode cX8_behind 102 = .ok (.ireturn, 1) := by decide +kernel
theorem dX8_behind_103 : decode cX8_behind 103 = .ok (.aload_n 0, 1) := by decide +kernel
theorem dX8_behind_104 : decode cX8_behind 104 = .ok (.getfield 34, 3) := by decide +kernel
theorem dX8_behind_107 : decode cX8_behind 107 = .ok (.getfield 119, 3) := by decide +kernel
theorem dX8_behind_110 : decode cX8_behind 110 = .ok (.getfield 131, 3) := by decide +kernel
theorem dX8_behind_113 : decode cX8_behind 113 = .ok (.iload_n 1, 1) := by decide +kernel
theorem dX8_behind_114 : decode cX8_behind 114 = .ok (.iaload, 1) := by decide +kernel
theorem dX8_behind_115 : decode cX8_behind 115 = .ok (.ireturn, 1) := by decide +kernel
theorem dX8_stands_0 : decode cX8_stands 0 = .ok (.iload_n 1, 1) := by decide +kernel
theorem dX8_stands_1 : decode cX8_stands 1 = .ok (.bipush 6, 2) := by decide +kernel
theorem dX8_stands_3 : decode cX8_stands 3 = .ok (.invokestatic 59, 3) := by decide +kernel
theorem dX8_stands_6 : decode cX8_stands 6 = .ok (.ifCond .ne 5, 3) := by decide +kernel
theorem dX8_stands_9 : decode cX8_stands 9 = .ok (.iconst (-1), 1) := by decide +kernel
theorem dX8_stands_10 : decode cX8_stands 10 = .ok (.ireturn, 1) := by decide +kernel
theorem dX8_stands_11 : decode cX8_stands 11 = .ok (.iload_n 2, 1) := by decide +kernel
theorem dX8_stands_12 : decode cX8_stands 12 = .ok (.iconst 3, 1) := by decide +kernel
theorem dX8_stands_13 : decode cX8_stands 13 = .ok (.invokestatic 59, 3) := by decide +kernel
theorem dX8_stands_16 : decode cX8_stands 16 = .ok (.ifCond .ne 6, 3) := by decide +kernel
theorem dX8_stands_19 : decode cX8_stands 19 = .ok (.bipush (-2), 2) := by decide +kernel
theorem dX8_stands_21 : decode cX8_stands 21 = .ok (.ireturn, 1) := by decide +kernel
theorem dX8_stands_22 : decode cX8_stands 22 = .ok (.aload_n 0, 1) := by decide +kernel
theorem dX8_stands_23 : decode cX8_stands 23 = .ok (.invokevirtual 107, 3) := by decide +kernel
theorem dX8_stands_26 : decode cX8_stands 26 = .ok (.istore_n 3, 1) := by decide +kernel
theorem dX8_stands_27 : decode cX8_stands 27 = .ok (.iload_n 3, 1) := by decide +kernel
theorem dX8_stands_28 : decode cX8_stands 28 = .ok (.ifCond .eq 5, 3) := by decide +kernel
theorem dX8_stands_31 : decode cX8_stands 31 = .ok (.iload_n 3, 1) := by decide +kernel
theorem dX8_stands_32 : decode cX8_stands 32 = .ok (.ireturn, 1) := by decide +kernel
theorem dX8_stands_33 : decode cX8_stands 33 = .ok (.iload_n 2, 1) := by decide +kernel
theorem dX8_stands_34 : decode cX8_stands 34 = .ok (.lookupswitch 54 #[(0, 26), (1, 39)], 26) := by decide +kernel
theorem dX8_stands_60 : decode cX8_stands 60 = .ok (.aload_n 0, 1) := by decide +kernel
theorem dX8_stands_61 : decode cX8_stands 61 = .ok (.getfield 34, 3) := by decide +kernel
theorem dX8_stands_64 : decode cX8_stands 64 = .ok (.getfield 119, 3) := by decide +kernel
theorem dX8_stands_67 : decode cX8_stands 67 = .ok (.getfield 84, 3) := by decide +kernel
theorem dX8_stands_70 : decode cX8_stands 70 = .ok (.iload_n 1, 1) := by decide +kernel
theorem dX8_stands_71 : decode cX8_stands 71 = .ok (.iaload, 1) := by decide +kernel
theorem dX8_stands_72 : decode cX8_stands 72 = .ok (.ireturn, 1) := by decide +kernel
theorem dX8_stands_73 : decode cX8_stands 73 = .ok (.aload_n 0, 1) := by decide +kernel
theorem dX8_stands_74 : decode cX8_stands 74 = .ok (.getfield 34, 3) := by decide +kernel
theorem dX8_stands_77 : decode cX8_stands 77 = .ok (.getfield 119, 3) := by decide +kernel
theorem dX8_stands_80 : decode cX8_stands 80 = .ok (.getfield 88, 3) := by decide +kernel
theorem dX8_stands_83 : decode cX8_stands 83 = .ok (.iload_n 1, 1) := by decide +kernel
theorem dX8_stands_84 : decode cX8_stands 84 = .ok (.invokestatic 134, 3) := by decide +kernel
theorem dX8_stands_87 : decode cX8_stands 87 = .ok (.ireturn, 1) := by decide +kernel
theorem dX8_stands_88 : decode cX8_stands 88 = .ok (.aload_n 0, 1) := by decide +kernel
theorem dX8_stands_89 : decode cX8_stands 89 = .ok (.getfield 34, 3) := by decide +kernel
theorem dX8_stands_92 : decode cX8_stands 92 = .ok (.getfield 119, 3) := by decide +kernel
theorem dX8_stands_95 : decode cX8_stands 95 = .ok (.iload_n 1, 1) := by decide +kernel
theorem dX8_stands_96 : decode cX8_stands 96 = .ok (.invokevirtual 138, 3) := by decide +kernel
theorem dX8_stands_99 : decode cX8_stands 99 = .ok (.ireturn, 1) := by decide +kernel
theorem dX8_posted_0 : decode cX8_posted 0 = .ok (.iload_n 1, 1) := by decide +kernel
theorem dX8_posted_1 : decode cX8_posted 1 = .ok (.iconst 3, 1) := by decide +kernel
theorem dX8_posted_2 : decode cX8_posted 2 = .ok (.invokestatic 59, 3) := by decide +kernel
theorem dX8_posted_5 : decode cX8_posted 5 = .ok (.ifCond .ne 6, 3) := by decide +kernel
theorem dX8_posted_8 : decode cX8_posted 8 = .ok (.bipush (-2), 2) := by decide +kernel
theorem dX8_posted_10 : decode cX8_posted 10 = .ok (.ireturn, 1) := by decide +kernel
theorem dX8_posted_11 : decode cX8_posted 11 = .ok (.aload_n 0, 1) := by decide +kernel
theorem dX8_posted_12 : decode cX8_posted 12 = .ok (.invokevirtual 107, 3) := by decide +kernel
theorem dX8_posted_15 : decode cX8_posted 15 = .ok (.istore_n 2, 1) := by decide +kernel
theorem dX8_posted_16 : decode cX8_posted 16 = .ok (.iload_n 2, 1) := by decide +kernel
theorem dX8_posted_17 : decode cX8_posted 17 = .ok (.ifCond .eq 5, 3) := by decide +kernel
theorem dX8_posted_20 : decode cX8_posted 20 = .ok (.iload_n 2, 1) := by decide +kernel
theorem dX8_posted_21 : decode cX8_posted 21 = .ok (.ireturn, 1) := by decide +kernel
theorem dX8_posted_22 : decode cX8_posted 22 = .ok (.iload_n 1, 1) := by decide +kernel
theorem dX8_posted_23 : decode cX8_posted 23 = .ok (.lookupswitch 44 #[(0, 25), (1, 36)], 25) := by decide +kernel
theorem dX8_posted_48 : decode cX8_posted 48 = .ok (.aload_n 0, 1) := by decide +kernel
theorem dX8_posted_49 : decode cX8_posted 49 = .ok (.getfield 34, 3) := by decide +kernel
theorem dX8_posted_52 : decode cX8_posted 52 = .ok (.getfield 119, 3) := by decide +kernel
theorem dX8_posted_55 : decode cX8_posted 55 = .ok (.invokevirtual 141, 3) := by decide +kernel
theorem dX8_posted_58 : decode cX8_posted 58 = .ok (.ireturn, 1) := by decide +kernel
theorem dX8_posted_59 : decode cX8_posted 59 = .ok (.aload_n 0, 1) := by decide +kernel
theorem dX8_posted_60 : decode cX8_posted 60 = .ok (.getfield 34, 3) := by decide +kernel
theorem dX8_posted_63 : decode cX8_posted 63 = .ok (.getfield 144, 3) := by decide +kernel
theorem dX8_posted_66 : decode cX8_posted 66 = .ok (.ireturn, 1) := by decide +kernel
theorem dX8_posted_67 : decode cX8_posted 67 = .ok (.aload_n 0, 1) := by decide +kernel
theorem dX8_posted_68 : decode cX8_posted 68 = .ok (.getfield 34, 3) := by decide +kernel
theorem dX8_posted_71 : decode cX8_posted 71 = .ok (.getfield 119, 3) := by decide +kernel
theorem dX8_posted_74 : decode cX8_posted 74 = .ok (.invokevirtual 147, 3) := by decide +kernel
theorem dX8_posted_77 : decode cX8_posted 77 = .ok (.invokestatic 70, 3) := by decide +kernel
theorem dX8_posted_80 : decode cX8_posted 80 = .ok (.ireturn, 1) := by decide +kernel
theorem dX8_done_0 : decode cX8_done 0 = .ok (.aload_n 0, 1) := by decide +kernel
theorem dX8_done_1 : decode cX8_done 1 = .ok (.invokevirtual 107, 3) := by decide +kernel
theorem dX8_done_4 : decode cX8_done 4 = .ok (.istore_n 1, 1) := by decide +kernel
theorem dX8_done_5 : decode cX8_done 5 = .ok (.iload_n 1, 1) := by decide +kernel
theorem dX8_done_6 : decode cX8_done 6 = .ok (.ifCond .eq 5, 3) := by decide +kernel
theorem dX8_done_9 : decode cX8_done 9 = .ok (.iload_n 1, 1) := by decide +kernel
theorem dX8_done_10 : decode cX8_done 10 = .ok (.ireturn, 1) := by decide +kernel
theorem dX8_done_11 : decode cX8_done 11 = .ok (.aload_n 0, 1) := by decide +kernel
theorem dX8_done_12 : decode cX8_done 12 = .ok (.getfield 10, 3) := by decide +kernel
theorem dX8_done_15 : decode cX8_done 15 = .ok (.aload_n 0, 1) := by decide +kernel
theorem dX8_done_16 : decode cX8_done 16 = .ok (.getfield 34, 3) := by decide +kernel
theorem dX8_done_19 : decode cX8_done 19 = .ok (.getfield 119, 3) := by decide +kernel
theorem dX8_done_22 : decode cX8_done 22 = .ok (.invokevirtual 150, 3) := by decide +kernel
theorem dX8_done_25 : decode cX8_done 25 = .ok (.aload_n 0, 1) := by decide +kernel
theorem dX8_done_26 : decode cX8_done 26 = .ok (.getfield 27, 3) := by decide +kernel
theorem dX8_done_29 : decode cX8_done 29 = .ok (.iconst 0, 1) := by decide +kernel
theorem dX8_done_30 : decode cX8_done 30 = .ok (.putfield 100, 3) := by decide +kernel
theorem dX8_done_33 : decode cX8_done 33 = .ok (.aload_n 0, 1) := by decide +kernel
theorem dX8_done_34 : decode cX8_done 34 = .ok (.getfield 27, 3) := by decide +kernel
theorem dX8_done_37 : decode cX8_done 37 = .ok (.getfield 154, 3) := by decide +kernel
theorem dX8_done_40 : decode cX8_done 40 = .ok (.ireturn, 1) := by decide +kernel
theorem dX8_says_0 : decode cX8_says 0 = .ok (.iload_n 1, 1) := by decide +kernel
theorem dX8_says_1 : decode cX8_says 1 = .ok (.sipush 256, 3) := by decide +kernel
theorem dX8_says_4 : decode cX8_says 4 = .ok (.invokestatic 59, 3) := by decide +kernel
theorem dX8_says_7 : decode cX8_says 7 = .ok (.ifCond .eq 10, 3) := by decide +kernel
theorem dX8_says_10 : decode cX8_says 10 = .ok (.iload_n 1, 1) := by decide +kernel
theorem dX8_says_11 : decode cX8_says 11 = .ok (.invokestatic 157, 3) := by decide +kernel
theorem dX8_says_14 : decode cX8_says 14 = .ok (.goto 5, 3) := by decide +kernel
theorem dX8_says_17 : decode cX8_says 17 = .ok (.bipush (-2), 2) := by decide +kernel
theorem dX8_says_19 : decode cX8_says 19 = .ok (.ireturn, 1) := by decide +kernel
theorem dX8_grew_0 : decode cX8_grew 0 = .ok (.iload_n 1, 1) := by decide +kernel
theorem dX8_grew_1 : decode cX8_grew 1 = .ok (.sipush 256, 3) := by decide +kernel
theorem dX8_grew_4 : decode cX8_grew 4 = .ok (.invokestatic 59, 3) := by decide +kernel
theorem dX8_grew_7 : decode cX8_grew 7 = .ok (.ifCond .eq 31, 3) := by decide +kernel
theorem dX8_grew_10 : decode cX8_grew 10 = .ok (.iload_n 2, 1) := by decide +kernel
theorem dX8_grew_11 : decode cX8_grew 11 = .ok (.sipush 256, 3) := by decide +kernel
theorem dX8_grew_14 : decode cX8_grew 14 = .ok (.invokestatic 59, 3) := by decide +kernel
theorem dX8_grew_17 : decode cX8_grew 17 = .ok (.ifCond .eq 21, 3) := by decide +kernel
theorem dX8_grew_20 : decode cX8_grew 20 = .ok (.iload_n 3, 1) := by decide +kernel
theorem dX8_grew_21 : decode cX8_grew 21 = .ok (.bipush 11, 2) := by decide +kernel
theorem dX8_grew_23 : decode cX8_grew 23 = .ok (.invokestatic 59, 3) := by decide +kernel
theorem dX8_grew_26 : decode cX8_grew 26 = .ok (.ifCond .eq 12, 3) := by decide +kernel
theorem dX8_grew_29 : decode cX8_grew 29 = .ok (.iload 4, 2) := by decide +kernel
theorem dX8_grew_31 : decode cX8_grew 31 = .ok (.iconst 2, 1) := by decide +kernel
theorem dX8_grew_32 : decode cX8_grew 32 = .ok (.invokestatic 59, 3) := by decide +kernel
theorem dX8_grew_35 : decode cX8_grew 35 = .ok (.ifCond .ne 7, 3) := by decide +kernel
theorem dX8_grew_38 : decode cX8_grew 38 = .ok (.ldc2_w 162, 3) := by decide +kernel
theorem dX8_grew_41 : decode cX8_grew 41 = .ok (.lreturn, 1) := by decide +kernel
theorem dX8_grew_42 : decode cX8_grew 42 = .ok (.iload 4, 2) := by decide +kernel
theorem dX8_grew_44 : decode cX8_grew 44 = .ok (.ifCond .ne 25, 3) := by decide +kernel
theorem dX8_grew_47 : decode cX8_grew 47 = .ok (.iload_n 1, 1) := by decide +kernel
theorem dX8_grew_48 : decode cX8_grew 48 = .ok (.iload_n 2, 1) := by decide +kernel
theorem dX8_grew_49 : decode cX8_grew 49 = .ok (.iload_n 3, 1) := by decide +kernel
theorem dX8_grew_50 : decode cX8_grew 50 = .ok (.aload_n 0, 1) := by decide +kernel
theorem dX8_grew_51 : decode cX8_grew 51 = .ok (.getfield 10, 3) := by decide +kernel
theorem dX8_grew_54 : decode cX8_grew 54 = .ok (.getfield 91, 3) := by decide +kernel
theorem dX8_grew_57 : decode cX8_grew 57 = .ok (.aload_n 0, 1) := by decide +kernel
theorem dX8_grew_58 : decode cX8_grew 58 = .ok (.getfield 10, 3) := by decide +kernel
theorem dX8_grew_61 : decode cX8_grew 61 = .ok (.getfield 94, 3) := by decide +kernel
theorem dX8_grew_64 : decode cX8_grew 64 = .ok (.invokestatic 164, 3) := by decide +kernel
theorem dX8_grew_67 : decode cX8_grew 67 = .ok (.i2l, 1) := by decide +kernel
theorem dX8_grew_68 : decode cX8_grew 68 = .ok (.lreturn, 1) := by decide +kernel
theorem dX8_grew_69 : decode cX8_grew 69 = .ok (.iload_n 1, 1) := by decide +kernel
theorem dX8_grew_70 : decode cX8_grew 70 = .ok (.iload_n 2, 1) := by decide +kernel
theorem dX8_grew_71 : decode cX8_grew 71 = .ok (.iload_n 3, 1) := by decide +kernel
theorem dX8_grew_72 : decode cX8_grew 72 = .ok (.aload_n 0, 1) := by decide +kernel
theorem dX8_grew_73 : decode cX8_grew 73 = .ok (.getfield 10, 3) := by decide +kernel
theorem dX8_grew_76 : decode cX8_grew 76 = .ok (.getfield 91, 3) := by decide +kernel
theorem dX8_grew_79 : decode cX8_grew 79 = .ok (.aload_n 0, 1) := by decide +kernel
theorem dX8_grew_80 : decode cX8_grew 80 = .ok (.getfield 10, 3) := by decide +kernel
theorem dX8_grew_83 : decode cX8_grew 83 = .ok (.getfield 94, 3) := by decide +kernel
theorem dX8_grew_86 : decode cX8_grew 86 = .ok (.invokestatic 168, 3) := by decide +kernel
theorem dX8_grew_89 : decode cX8_grew 89 = .ok (.lreturn, 1) := by decide +kernel
theorem dX8_soon_0 : decode cX8_soon 0 = .ok (.iload_n 1, 1) := by decide +kernel
theorem dX8_soon_1 : decode cX8_soon 1 = .ok (.sipush 256, 3) := by decide +kernel
theorem dX8_soon_4 : decode cX8_soon 4 = .ok (.invokestatic 59, 3) := by decide +kernel
theorem dX8_soon_7 : decode cX8_soon 7 = .ok (.ifCond .eq 13, 3) := by decide +kernel
theorem dX8_soon_10 : decode cX8_soon 10 = .ok (.iload_n 2, 1) := by decide +kernel
theorem dX8_soon_11 : decode cX8_soon 11 = .ok (.sipush 256, 3) := by decide +kernel
theorem dX8_soon_14 : decode cX8_soon 14 = .ok (.invokestatic 59, 3) := by decide +kernel
theorem dX8_soon_17 : decode cX8_soon 17 = .ok (.ifCond .ne 6, 3) := by decide +kernel
theorem dX8_soon_20 : decode cX8_soon 20 = .ok (.bipush (-2), 2) := by decide +kernel
theorem dX8_soon_22 : decode cX8_soon 22 = .ok (.ireturn, 1) := by decide +kernel
theorem dX8_soon_23 : decode cX8_soon 23 = .ok (.aload_n 0, 1) := by decide +kernel
theorem dX8_soon_24 : decode cX8_soon 24 = .ok (.getfield 41, 3) := by decide +kernel
theorem dX8_soon_27 : decode cX8_soon 27 = .ok (.iload_n 1, 1) := by decide +kernel
theorem dX8_soon_28 : decode cX8_soon 28 = .ok (.iload_n 2, 1) := by decide +kernel
theorem dX8_soon_29 : decode cX8_soon 29 = .ok (.aload_n 0, 1) := by decide +kernel
theorem dX8_soon_30 : decode cX8_soon 30 = .ok (.getfield 10, 3) := by decide +kernel
theorem dX8_soon_33 : decode cX8_soon 33 = .ok (.getfield 91, 3) := by decide +kernel
theorem dX8_soon_36 : decode cX8_soon 36 = .ok (.aload_n 0, 1) := by decide +kernel
theorem dX8_soon_37 : decode cX8_soon 37 = .ok (.getfield 10, 3) := by decide +kernel
theorem dX8_soon_40 : decode cX8_soon 40 = .ok (.getfield 94, 3) := by decide +kernel
theorem dX8_soon_43 : decode cX8_soon 43 = .ok (.invokevirtual 172, 3) := by decide +kernel
theorem dX8_soon_46 : decode cX8_soon 46 = .ok (.ireturn, 1) := by decide +kernel
theorem dX8_most_0 : decode cX8_most 0 = .ok (.iload_n 1, 1) := by decide +kernel
theorem dX8_most_1 : decode cX8_most 1 = .ok (.iconst 2, 1) := by decide +kernel
theorem dX8_most_2 : decode cX8_most 2 = .ok (.invokestatic 59, 3) := by decide +kernel
theorem dX8_most_5 : decode cX8_most 5 = .ok (.ifCond .ne 6, 3) := by decide +kernel
theorem dX8_most_8 : decode cX8_most 8 = .ok (.bipush (-2), 2) := by decide +kernel
theorem dX8_most_10 : decode cX8_most 10 = .ok (.ireturn, 1) := by decide +kernel
theorem dX8_most_11 : decode cX8_most 11 = .ok (.iload_n 1, 1) := by decide +kernel
theorem dX8_most_12 : decode cX8_most 12 = .ok (.ifCond .ne 13, 3) := by decide +kernel
theorem dX8_most_15 : decode cX8_most 15 = .ok (.aload_n 0, 1) := by decide +kernel
theorem dX8_most_16 : decode cX8_most 16 = .ok (.getfield 10, 3) := by decide +kernel
theorem dX8_most_19 : decode cX8_most 19 = .ok (.invokestatic 176, 3) := by decide +kernel
theorem dX8_most_22 : decode cX8_most 22 = .ok (.goto 10, 3) := by decide +kernel
theorem dX8_most_25 : decode cX8_most 25 = .ok (.aload_n 0, 1) := by decide +kernel
theorem dX8_most_26 : decode cX8_most 26 = .ok (.getfield 10, 3) := by decide +kernel
theorem dX8_most_29 : decode cX8_most 29 = .ok (.invokestatic 182, 3) := by decide +kernel
theorem dX8_most_32 : decode cX8_most 32 = .ok (.ireturn, 1) := by decide +kernel
theorem dX8_patch_0 : decode cX8_patch 0 = .ok (.iload_n 1, 1) := by decide +kernel
theorem dX8_patch_1 : decode cX8_patch 1 = .ok (.iconst 2, 1) := by decide +kernel
theorem dX8_patch_2 : decode cX8_patch 2 = .ok (.invokestatic 59, 3) := by decide +kernel
theorem dX8_patch_5 : decode cX8_patch 5 = .ok (.ifCond .ne 6, 3) := by decide +kernel
theorem dX8_patch_8 : decode cX8_patch 8 = .ok (.bipush (-2), 2) := by decide +kernel
theorem dX8_patch_10 : decode cX8_patch 10 = .ok (.ireturn, 1) := by decide +kernel
theorem dX8_patch_11 : decode cX8_patch 11 = .ok (.aload_n 0, 1) := by decide +kernel
theorem dX8_patch_12 : decode cX8_patch 12 = .ok (.getfield 10, 3) := by decide +kernel
theorem dX8_patch_15 : decode cX8_patch 15 = .ok (.invokevirtual 185, 3) := by decide +kernel
theorem dX8_patch_18 : decode cX8_patch 18 = .ok (.istore_n 2, 1) := by decide +kernel
theorem dX8_patch_19 : decode cX8_patch 19 = .ok (.bipush (-6), 2) := by decide +kernel
theorem dX8_patch_21 : decode cX8_patch 21 = .ok (.istore_n 3, 1) := by decide +kernel
theorem dX8_patch_22 : decode cX8_patch 22 = .ok (.iconst 0, 1) := by decide +kernel
theorem dX8_patch_23 : decode cX8_patch 23 = .ok (.istore 4, 2) := by decide +kernel
theorem dX8_patch_25 : decode cX8_patch 25 = .ok (.iconst 0, 1) := by decide +kernel
theorem dX8_patch_26 : decode cX8_patch 26 = .ok (.istore 5, 2) := by decide +kernel
theorem dX8_patch_28 : decode cX8_patch 28 = .ok (.iconst 0, 1) := by decide +kernel
theorem dX8_patch_29 : decode cX8_patch 29 = .ok (.istore 6, 2) := by decide +kernel
theorem dX8_patch_31 : decode cX8_patch 31 = .ok (.iload 6, 2) := by decide +kernel
theorem dX8_patch_33 : decode cX8_patch 33 = .ok (.bipush 16, 2) := by decide +kernel
theorem dX8_patch_35 : decode cX8_patch 35 = .ok (.if_icmp .ge 48, 3) := by decide +kernel
theorem dX8_patch_38 : decode cX8_patch 38 = .ok (.iload_n 2, 1) := by decide +kernel
theorem dX8_patch_39 : decode cX8_patch 39 = .ok (.iload 6, 2) := by decide +kernel
theorem dX8_patch_41 : decode cX8_patch 41 = .ok (.invokestatic 134, 3) := by decide +kernel
theorem dX8_patch_44 : decode cX8_patch 44 = .ok (.iconst 1, 1) := by decide +kernel
theorem dX8_patch_45 : decode cX8_patch 45 = .ok (.if_icmp .ne 7, 3) := by decide +kernel
theorem dX8_patch_48 : decode cX8_patch 48 = .ok (.iconst 0, 1) := by decide +kernel
theorem dX8_patch_49 : decode cX8_patch 49 = .ok (.goto 7, 3) := by decide +kernel
theorem dX8_patch_52 : decode cX8_patch 52 = .ok (.iload 5, 2) := by decide +kernel
theorem dX8_patch_54 : decode cX8_patch 54 = .ok (.iconst 1, 1) := by decide +kernel
theorem dX8_patch_55 : decode cX8_patch 55 = .ok (.iadd, 1) := by decide +kernel
theorem dX8_patch_56 : decode cX8_patch 56 = .ok (.istore 5, 2) := by decide +kernel
theorem dX8_patch_58 : decode cX8_patch 58 = .ok (.iload 5, 2) := by decide +kernel
theorem dX8_patch_60 : decode cX8_patch 60 = .ok (.iload 4, 2) := by decide +kernel
theorem dX8_patch_62 : decode cX8_patch 62 = .ok (.if_icmp .le 15, 3) := by decide +kernel
theorem dX8_patch_65 : decode cX8_patch 65 = .ok (.iload 5, 2) := by decide +kernel
theorem dX8_patch_67 : decode cX8_patch 67 = .ok (.istore 4, 2) := by decide +kernel
theorem dX8_patch_69 : decode cX8_patch 69 = .ok (.iload 6, 2) := by decide +kernel
theorem dX8_patch_71 : decode cX8_patch 71 = .ok (.iload 5, 2) := by decide +kernel
theorem dX8_patch_73 : decode cX8_patch 73 = .ok (.isub, 1) := by decide +kernel
theorem dX8_patch_74 : decode cX8_patch 74 = .ok (.iconst 1, 1) := by decide +kernel
theorem dX8_patch_75 : decode cX8_patch 75 = .ok (.iadd, 1) := by decide +kernel
theorem dX8_patch_76 : decode cX8_patch 76 = .ok (.istore_n 3, 1) := by decide +kernel
theorem dX8_patch_77 : decode cX8_patch 77 = .ok (.iinc 6 1, 3) := by decide +kernel
theorem dX8_patch_80 : decode cX8_patch 80 = .ok (.goto (-49), 3) := by decide +kernel
theorem dX8_patch_83 : decode cX8_patch 83 = .ok (.iload_n 1, 1) := by decide +kernel
theorem dX8_patch_84 : decode cX8_patch 84 = .ok (.ifCond .ne 8, 3) := by decide +kernel
theorem dX8_patch_87 : decode cX8_patch 87 = .ok (.iload 4, 2) := by decide +kernel
theorem dX8_patch_89 : decode cX8_patch 89 = .ok (.goto 4, 3) := by decide +kernel
theorem dX8_patch_92 : decode cX8_patch 92 = .ok (.iload_n 3, 1) := by decide +kernel
theorem dX8_patch_93 : decode cX8_patch 93 = .ok (.ireturn, 1) := by decide +kernel
theorem dX8_seen_0 : decode cX8_seen 0 = .ok (.iload_n 1, 1) := by decide +kernel
theorem dX8_seen_1 : decode cX8_seen 1 = .ok (.sipush 256, 3) := by decide +kernel
theorem dX8_seen_4 : decode cX8_seen 4 = .ok (.invokestatic 59, 3) := by decide +kernel
theorem dX8_seen_7 : decode cX8_seen 7 = .ok (.ifCond .eq 13, 3) := by decide +kernel
theorem dX8_seen_10 : decode cX8_seen 10 = .ok (.iload_n 2, 1) := by decide +kernel
theorem dX8_seen_11 : decode cX8_seen 11 = .ok (.sipush 256, 3) := by decide +kernel
theorem dX8_seen_14 : decode cX8_seen 14 = .ok (.invokestatic 59, 3) := by decide +kernel
theorem dX8_seen_17 : decode cX8_seen 17 = .ok (.ifCond .ne 6, 3) := by decide +kernel
theorem dX8_seen_20 : decode cX8_seen 20 = .ok (.bipush (-2), 2) := by decide +kernel
theorem dX8_seen_22 : decode cX8_seen 22 = .ok (.ireturn, 1) := by decide +kernel
theorem dX8_seen_23 : decode cX8_seen 23 = .ok (.aload_n 0, 1) := by decide +kernel
theorem dX8_seen_24 : decode cX8_seen 24 = .ok (.getfield 10, 3) := by decide +kernel
theorem dX8_seen_27 : decode cX8_seen 27 = .ok (.getfield 188, 3) := by decide +kernel
theorem dX8_seen_30 : decode cX8_seen 30 = .ok (.bipush 8, 2) := by decide +kernel
theorem dX8_seen_32 : decode cX8_seen 32 = .ok (.if_icmp .lt 6, 3) := by decide +kernel
theorem dX8_seen_35 : decode cX8_seen 35 = .ok (.bipush (-4), 2) := by decide +kernel
theorem dX8_seen_37 : decode cX8_seen 37 = .ok (.ireturn, 1) := by decide +kernel
theorem dX8_seen_38 : decode cX8_seen 38 = .ok (.aload_n 0, 1) := by decide +kernel
theorem dX8_seen_39 : decode cX8_seen 39 = .ok (.getfield 10, 3) := by decide +kernel
theorem dX8_seen_42 : decode cX8_seen 42 = .ok (.iload_n 1, 1) := by decide +kernel
theorem dX8_seen_43 : decode cX8_seen 43 = .ok (.iload_n 2, 1) := by decide +kernel
theorem dX8_seen_44 : decode cX8_seen 44 = .ok (.invokevirtual 191, 3) := by decide +kernel
theorem dX8_seen_47 : decode cX8_seen 47 = .ok (.aload_n 0, 1) := by decide +kernel
theorem dX8_seen_48 : decode cX8_seen 48 = .ok (.getfield 10, 3) := by decide +kernel
theorem dX8_seen_51 : decode cX8_seen 51 = .ok (.getfield 188, 3) := by decide +kernel
theorem dX8_seen_54 : decode cX8_seen 54 = .ok (.ireturn, 1) := by decide +kernel
theorem dX8_forget_0 : decode cX8_forget 0 = .ok (.aload_n 0, 1) := by decide +kernel
theorem dX8_forget_1 : decode cX8_forget 1 = .ok (.getfield 10, 3) := by decide +kernel
theorem dX8_forget_4 : decode cX8_forget 4 = .ok (.getfield 188, 3) := by decide +kernel
theorem dX8_forget_7 : decode cX8_forget 7 = .ok (.istore_n 1, 1) := by decide +kernel
theorem dX8_forget_8 : decode cX8_forget 8 = .ok (.aload_n 0, 1) := by decide +kernel
theorem dX8_forget_9 : decode cX8_forget 9 = .ok (.getfield 10, 3) := by decide +kernel
theorem dX8_forget_12 : decode cX8_forget 12 = .ok (.iconst 0, 1) := by decide +kernel
theorem dX8_forget_13 : decode cX8_forget 13 = .ok (.putfield 188, 3) := by decide +kernel
theorem dX8_forget_16 : decode cX8_forget 16 = .ok (.aload_n 0, 1) := by decide +kernel
theorem dX8_forget_17 : decode cX8_forget 17 = .ok (.getfield 10, 3) := by decide +kernel
theorem dX8_forget_20 : decode cX8_forget 20 = .ok (.iconst 0, 1) := by decide +kernel
theorem dX8_forget_21 : decode cX8_forget 21 = .ok (.putfield 195, 3) := by decide +kernel
theorem dX8_forget_24 : decode cX8_forget 24 = .ok (.aload_n 0, 1) := by decide +kernel
theorem dX8_forget_25 : decode cX8_forget 25 = .ok (.getfield 10, 3) := by decide +kernel
theorem dX8_forget_28 : decode cX8_forget 28 = .ok (.iconst 0, 1) := by decide +kernel
theorem dX8_forget_29 : decode cX8_forget 29 = .ok (.putfield 198, 3) := by decide +kernel
theorem dX8_forget_32 : decode cX8_forget 32 = .ok (.iload_n 1, 1) := by decide +kernel
theorem dX8_forget_33 : decode cX8_forget 33 = .ok (.ireturn, 1) := by decide +kernel
theorem dX8_laws_0 : decode cX8_laws 0 = .ok (.iconst 0, 1) := by decide +kernel
theorem dX8_laws_1 : decode cX8_laws 1 = .ok (.istore_n 2, 1) := by decide +kernel
theorem dX8_laws_2 : decode cX8_laws 2 = .ok (.iconst 0, 1) := by decide +kernel
theorem dX8_laws_3 : decode cX8_laws 3 = .ok (.istore_n 3, 1) := by decide +kernel
theorem dX8_laws_4 : decode cX8_laws 4 = .ok (.iload_n 3, 1) := by decide +kernel
theorem dX8_laws_5 : decode cX8_laws 5 = .ok (.sipush 256, 3) := by decide +kernel
theorem dX8_laws_8 : decode cX8_laws 8 = .ok (.if_icmp .ge 30, 3) := by decide +kernel
theorem dX8_laws_11 : decode cX8_laws 11 = .ok (.aload_n 0, 1) := by decide +kernel
theorem dX8_laws_12 : decode cX8_laws 12 = .ok (.getfield 10, 3) := by decide +kernel
theorem dX8_laws_15 : decode cX8_laws 15 = .ok (.iload_n 3, 1) := by decide +kernel
theorem dX8_laws_16 : decode cX8_laws 16 = .ok (.invokevirtual 201, 3) := by decide +kernel
theorem dX8_laws_19 : decode cX8_laws 19 = .ok (.ifCond .eq 13, 3) := by decide +kernel
theorem dX8_laws_22 : decode cX8_laws 22 = .ok (.iload_n 2, 1) := by decide +kernel
theorem dX8_laws_23 : decode cX8_laws 23 = .ok (.iload_n 1, 1) := by decide +kernel
theorem dX8_laws_24 : decode cX8_laws 24 = .ok (.if_icmp .ne 5, 3) := by decide +kernel
theorem dX8_laws_27 : decode cX8_laws 27 = .ok (.iload_n 3, 1) := by decide +kernel
theorem dX8_laws_28 : decode cX8_laws 28 = .ok (.ireturn, 1) := by decide +kernel
theorem dX8_laws_29 : decode cX8_laws 29 = .ok (.iinc 2 1, 3) := by decide +kernel
theorem dX8_laws_32 : decode cX8_laws 32 = .ok (.iinc 3 1, 3) := by decide +kernel
theorem dX8_laws_35 : decode cX8_laws 35 = .ok (.goto (-31), 3) := by decide +kernel
theorem dX8_laws_38 : decode cX8_laws 38 = .ok (.iload_n 1, 1) := by decide +kernel
theorem dX8_laws_39 : decode cX8_laws 39 = .ok (.iconst (-1), 1) := by decide +kernel
theorem dX8_laws_40 : decode cX8_laws 40 = .ok (.if_icmp .ne 7, 3) := by decide +kernel
theorem dX8_laws_43 : decode cX8_laws 43 = .ok (.iload_n 2, 1) := by decide +kernel
theorem dX8_laws_44 : decode cX8_laws 44 = .ok (.goto 5, 3) := by decide +kernel
theorem dX8_laws_47 : decode cX8_laws 47 = .ok (.bipush (-6), 2) := by decide +kernel
theorem dX8_laws_49 : decode cX8_laws 49 = .ok (.ireturn, 1) := by decide +kernel
theorem dX8_look_0 : decode cX8_look 0 = .ok (.iload_n 1, 1) := by decide +kernel
theorem dX8_look_1 : decode cX8_look 1 = .ok (.iconst 2, 1) := by decide +kernel
theorem dX8_look_2 : decode cX8_look 2 = .ok (.invokestatic 59, 3) := by decide +kernel
theorem dX8_look_5 : decode cX8_look 5 = .ok (.ifCond .ne 6, 3) := by decide +kernel
theorem dX8_look_8 : decode cX8_look 8 = .ok (.bipush (-2), 2) := by decide +kernel
theorem dX8_look_10 : decode cX8_look 10 = .ok (.ireturn, 1) := by decide +kernel
theorem dX8_look_11 : decode cX8_look 11 = .ok (.aload_n 0, 1) := by decide +kernel
theorem dX8_look_12 : decode cX8_look 12 = .ok (.getfield 10, 3) := by decide +kernel
theorem dX8_look_15 : decode cX8_look 15 = .ok (.getfield 195, 3) := by decide +kernel
theorem dX8_look_18 : decode cX8_look 18 = .ok (.aload_n 0, 1) := by decide +kernel
theorem dX8_look_19 : decode cX8_look 19 = .ok (.getfield 10, 3) := by decide +kernel
theorem dX8_look_22 : decode cX8_look 22 = .ok (.getfield 198, 3) := by decide +kernel
theorem dX8_look_25 : decode cX8_look 25 = .ok (.iand, 1) := by decide +kernel
theorem dX8_look_26 : decode cX8_look 26 = .ok (.ifCond .eq 6, 3) := by decide +kernel
theorem dX8_look_29 : decode cX8_look 29 = .ok (.bipush (-6), 2) := by decide +kernel
theorem dX8_look_31 : decode cX8_look 31 = .ok (.ireturn, 1) := by decide +kernel
theorem dX8_look_32 : decode cX8_look 32 = .ok (.iconst 0, 1) := by decide +kernel
theorem dX8_look_33 : decode cX8_look 33 = .ok (.istore_n 2, 1) := by decide +kernel
theorem dX8_look_34 : decode cX8_look 34 = .ok (.sipush 257, 3) := by decide +kernel
theorem dX8_look_37 : decode cX8_look 37 = .ok (.istore_n 3, 1) := by decide +kernel
theorem dX8_look_38 : decode cX8_look 38 = .ok (.iconst 0, 1) := by decide +kernel
theorem dX8_look_39 : decode cX8_look 39 = .ok (.istore 4, 2) := by decide +kernel
theorem dX8_look_41 : decode cX8_look 41 = .ok (.iload 4, 2) := by decide +kernel
theorem dX8_look_43 : decode cX8_look 43 = .ok (.sipush 256, 3) := by decide +kernel
theorem dX8_look_46 : decode cX8_look 46 = .ok (.if_icmp .ge 32, 3) := by decide +kernel
theorem dX8_look_49 : decode cX8_look 49 = .ok (.aload_n 0, 1) := by decide +kernel
theorem dX8_look_50 : decode cX8_look 50 = .ok (.getfield 10, 3) := by decide +kernel
theorem dX8_look_53 : decode cX8_look 53 = .ok (.iload 4, 2) := by decide +kernel
theorem dX8_look_55 : decode cX8_look 55 = .ok (.invokevirtual 204, 3) := by decide +kernel
theorem dX8_look_58 : decode cX8_look 58 = .ok (.istore 5, 2) := by decide +kernel
theorem dX8_look_60 : decode cX8_look 60 = .ok (.iload 5, 2) := by decide +kernel
theorem dX8_look_62 : decode cX8_look 62 = .ok (.iload_n 3, 1) := by decide +kernel
theorem dX8_look_63 : decode cX8_look 63 = .ok (.if_icmp .ge 9, 3) := by decide +kernel
theorem dX8_look_66 : decode cX8_look 66 = .ok (.iload 5, 2) := by decide +kernel
theorem dX8_look_68 : decode cX8_look 68 = .ok (.istore_n 3, 1) := by decide +kernel
theorem dX8_look_69 : decode cX8_look 69 = .ok (.iload 4, 2) := by decide +kernel
theorem dX8_look_71 : decode cX8_look 71 = .ok (.istore_n 2, 1) := by decide +kernel
theorem dX8_look_72 : decode cX8_look 72 = .ok (.iinc 4 1, 3) := by decide +kernel
theorem dX8_look_75 : decode cX8_look 75 = .ok (.goto (-34), 3) := by decide +kernel
theorem dX8_look_78 : decode cX8_look 78 = .ok (.iload_n 1, 1) := by decide +kernel
theorem dX8_look_79 : decode cX8_look 79 = .ok (.ifCond .ne 7, 3) := by decide +kernel
theorem dX8_look_82 : decode cX8_look 82 = .ok (.iload_n 2, 1) := by decide +kernel
theorem dX8_look_83 : decode cX8_look 83 = .ok (.goto 4, 3) := by decide +kernel
theorem dX8_look_86 : decode cX8_look 86 = .ok (.iload_n 3, 1) := by decide +kernel
theorem dX8_look_87 : decode cX8_look 87 = .ok (.ireturn, 1) := by decide +kernel
theorem dX8_gusts_0 : decode cX8_gusts 0 = .ok (.iload_n 1, 1) := by decide +kernel
theorem dX8_gusts_1 : decode cX8_gusts 1 = .ok (.bipush 16, 2) := by decide +kernel
theorem dX8_gusts_3 : decode cX8_gusts 3 = .ok (.invokestatic 59, 3) := by decide +kernel
theorem dX8_gusts_6 : decode cX8_gusts 6 = .ok (.ifCond .eq 69, 3) := by decide +kernel
theorem dX8_gusts_9 : decode cX8_gusts 9 = .ok (.iload_n 2, 1) := by decide +kernel
theorem dX8_gusts_10 : decode cX8_gusts 10 = .ok (.bipush 7, 2) := by decide +kernel
theorem dX8_gusts_12 : decode cX8_gusts 12 = .ok (.invokestatic 59, 3) := by decide +kernel
theorem dX8_gusts_15 : decode cX8_gusts 15 = .ok (.ifCond .eq 60, 3) := by decide +kernel
theorem dX8_gusts_18 : decode cX8_gusts 18 = .ok (.iload_n 3, 1) := by decide +kernel
theorem dX8_gusts_19 : decode cX8_gusts 19 = .ok (.bipush 11, 2) := by decide +kernel
theorem dX8_gusts_21 : decode cX8_gusts 21 = .ok (.invokestatic 59, 3) := by decide +kernel
theorem dX8_gusts_24 : decode cX8_gusts 24 = .ok (.ifCond .eq 51, 3) := by decide +kernel
theorem dX8_gusts_27 : decode cX8_gusts 27 = .ok (.iload 4, 2) := by decide +kernel
theorem dX8_gusts_29 : decode cX8_gusts 29 = .ok (.bipush 11, 2) := by decide +kernel
theorem dX8_gusts_31 : decode cX8_gusts 31 = .ok (.invokestatic 59, 3) := by decide +kernel
theorem dX8_gusts_34 : decode cX8_gusts 34 = .ok (.ifCond .eq 41, 3) := by decide +kernel
theorem dX8_gusts_37 : decode cX8_gusts 37 = .ok (.iload_n 3, 1) := by decide +kernel
theorem dX8_gusts_38 : decode cX8_gusts 38 = .ok (.iload 4, 2) := by decide +kernel
theorem dX8_gusts_40 : decode cX8_gusts 40 = .ok (.iadd, 1) := by decide +kernel
theorem dX8_gusts_41 : decode cX8_gusts 41 = .ok (.bipush 10, 2) := by decide +kernel
theorem dX8_gusts_43 : decode cX8_gusts 43 = .ok (.if_icmp .gt 32, 3) := by decide +kernel
theorem dX8_gusts_46 : decode cX8_gusts 46 = .ok (.iload 5, 2) := by decide +kernel
theorem dX8_gusts_48 : decode cX8_gusts 48 = .ok (.iconst (-1), 1) := by decide +kernel
theorem dX8_gusts_49 : decode cX8_gusts 49 = .ok (.if_icmp .eq 13, 3) := by decide +kernel
theorem dX8_gusts_52 : decode cX8_gusts 52 = .ok (.iload 5, 2) := by decide +kernel
theorem dX8_gusts_54 : decode cX8_gusts 54 = .ok (.bipush 16, 2) := by decide +kernel
theorem dX8_gusts_56 : decode cX8_gusts 56 = .ok (.invokestatic 59, 3) := by decide +kernel
theorem dX8_gusts_59 : decode cX8_gusts 59 = .ok (.ifCond .eq 16, 3) := by decide +kernel
theorem dX8_gusts_62 : decode cX8_gusts 62 = .ok (.iload 6, 2) := by decide +kernel
theorem dX8_gusts_64 : decode cX8_gusts 64 = .ok (.iconst 2, 1) := by decide +kernel
theorem dX8_gusts_65 : decode cX8_gusts 65 = .ok (.invokestatic 59, 3) := by decide +kernel
theorem dX8_gusts_68 : decode cX8_gusts 68 = .ok (.ifCond .eq 7, 3) := by decide +kernel
theorem dX8_gusts_71 : decode cX8_gusts 71 = .ok (.iconst 1, 1) := by decide +kernel
theorem dX8_gusts_72 : decode cX8_gusts 72 = .ok (.goto 4, 3) := by decide +kernel
theorem dX8_gusts_75 : decode cX8_gusts 75 = .ok (.iconst 0, 1) := by decide +kernel
theorem dX8_gusts_76 : decode cX8_gusts 76 = .ok (.istore 7, 2) := by decide +kernel
theorem dX8_gusts_78 : decode cX8_gusts 78 = .ok (.iload 7, 2) := by decide +kernel
theorem dX8_gusts_80 : decode cX8_gusts 80 = .ok (.ifCond .ne 7, 3) := by decide +kernel
theorem dX8_gusts_83 : decode cX8_gusts 83 = .ok (.ldc2_w 207, 3) := by decide +kernel
theorem dX8_gusts_86 : decode cX8_gusts 86 = .ok (.lreturn, 1) := by decide +kernel
theorem dX8_gusts_87 : decode cX8_gusts 87 = .ok (.aload_n 0, 1) := by decide +kernel
theorem dX8_gusts_88 : decode cX8_gusts 88 = .ok (.getfield 48, 3) := by decide +kernel
theorem dX8_gusts_91 : decode cX8_gusts 91 = .ok (.iload_n 1, 1) := by decide +kernel
theorem dX8_gusts_92 : decode cX8_gusts 92 = .ok (.iload_n 2, 1) := by decide +kernel
theorem dX8_gusts_93 : decode cX8_gusts 93 = .ok (.iload_n 3, 1) := by decide +kernel
theorem dX8_gusts_94 : decode cX8_gusts 94 = .ok (.iload 4, 2) := by decide +kernel
theorem dX8_gusts_96 : decode cX8_gusts 96 = .ok (.invokevirtual 209, 3) := by decide +kernel
theorem dX8_gusts_99 : decode cX8_gusts 99 = .ok (.aload_n 0, 1) := by decide +kernel
theorem dX8_gusts_100 : decode cX8_gusts 100 = .ok (.getfield 48, 3) := by decide +kernel
theorem dX8_gusts_103 : decode cX8_gusts 103 = .ok (.iload 5, 2) := by decide +kernel
theorem dX8_gusts_105 : decode cX8_gusts 105 = .ok (.iload_n 2, 1) := by decide +kernel
theorem dX8_gusts_106 : decode cX8_gusts 106 = .ok (.iload 6, 2) := by decide +kernel
theorem dX8_gusts_108 : decode cX8_gusts 108 = .ok (.invokevirtual 213, 3) := by decide +kernel
theorem dX8_gusts_111 : decode cX8_gusts 111 = .ok (.lreturn, 1) := by decide +kernel
theorem dX8_spoon_0 : decode cX8_spoon 0 = .ok (.iload_n 1, 1) := by decide +kernel
theorem dX8_spoon_1 : decode cX8_spoon 1 = .ok (.bipush 61, 2) := by decide +kernel
theorem dX8_spoon_3 : decode cX8_spoon 3 = .ok (.invokestatic 59, 3) := by decide +kernel
theorem dX8_spoon_6 : decode cX8_spoon 6 = .ok (.ifCond .eq 11, 3) := by decide +kernel
theorem dX8_spoon_9 : decode cX8_spoon 9 = .ok (.iload_n 2, 1) := by decide +kernel
theorem dX8_spoon_10 : decode cX8_spoon 10 = .ok (.iconst 2, 1) := by decide +kernel
theorem dX8_spoon_11 : decode cX8_spoon 11 = .ok (.invokestatic 59, 3) := by decide +kernel
theorem dX8_spoon_14 : decode cX8_spoon 14 = .ok (.ifCond .ne 6, 3) := by decide +kernel
theorem dX8_spoon_17 : decode cX8_spoon 17 = .ok (.bipush (-2), 2) := by decide +kernel
theorem dX8_spoon_19 : decode cX8_spoon 19 = .ok (.ireturn, 1) := by decide +kernel
theorem dX8_spoon_20 : decode cX8_spoon 20 = .ok (.aload_n 0, 1) := by decide +kernel
theorem dX8_spoon_21 : decode cX8_spoon 21 = .ok (.getfield 55, 3) := by decide +kernel
theorem dX8_spoon_24 : decode cX8_spoon 24 = .ok (.iload_n 1, 1) := by decide +kernel
theorem dX8_spoon_25 : decode cX8_spoon 25 = .ok (.iconst 0, 1) := by decide +kernel
theorem dX8_spoon_26 : decode cX8_spoon 26 = .ok (.invokevirtual 217, 3) := by decide +kernel
theorem dX8_spoon_29 : decode cX8_spoon 29 = .ok (.istore_n 3, 1) := by decide +kernel
theorem dX8_spoon_30 : decode cX8_spoon 30 = .ok (.iload_n 2, 1) := by decide +kernel
theorem dX8_spoon_31 : decode cX8_spoon 31 = .ok (.ifCond .ne 15, 3) := by decide +kernel
theorem dX8_spoon_34 : decode cX8_spoon 34 = .ok (.iload_n 3, 1) := by decide +kernel
theorem dX8_spoon_35 : decode cX8_spoon 35 = .ok (.bipush (-6), 2) := by decide +kernel
theorem dX8_spoon_37 : decode cX8_spoon 37 = .ok (.if_icmp .ne 7, 3) := by decide +kernel
theorem dX8_spoon_40 : decode cX8_spoon 40 = .ok (.iconst 0, 1) := by decide +kernel
theorem dX8_spoon_41 : decode cX8_spoon 41 = .ok (.goto 4, 3) := by decide +kernel
theorem dX8_spoon_44 : decode cX8_spoon 44 = .ok (.iconst 1, 1) := by decide +kernel
theorem dX8_spoon_45 : decode cX8_spoon 45 = .ok (.ireturn, 1) := by decide +kernel
theorem dX8_spoon_46 : decode cX8_spoon 46 = .ok (.iload_n 3, 1) := by decide +kernel
theorem dX8_spoon_47 : decode cX8_spoon 47 = .ok (.ireturn, 1) := by decide +kernel
theorem dX8_year_0 : decode cX8_year 0 = .ok (.iload_n 1, 1) := by decide +kernel
theorem dX8_year_1 : decode cX8_year 1 = .ok (.sipush 10000, 3) := by decide +kernel
theorem dX8_year_4 : decode cX8_year 4 = .ok (.invokestatic 59, 3) := by decide +kernel
theorem dX8_year_7 : decode cX8_year 7 = .ok (.ifCond .eq 22, 3) := by decide +kernel
theorem dX8_year_10 : decode cX8_year 10 = .ok (.iload_n 2, 1) := by decide +kernel
theorem dX8_year_11 : decode cX8_year 11 = .ok (.iconst 1, 1) := by decide +kernel
theorem dX8_year_12 : decode cX8_year 12 = .ok (.if_icmp .lt 17, 3) := by decide +kernel
theorem dX8_year_15 : decode cX8_year 15 = .ok (.iload_n 2, 1) := by decide +kernel
theorem dX8_year_16 : decode cX8_year 16 = .ok (.bipush 99, 2) := by decide +kernel
theorem dX8_year_18 : decode cX8_year 18 = .ok (.if_icmp .gt 11, 3) := by decide +kernel
theorem dX8_year_21 : decode cX8_year 21 = .ok (.iload_n 3, 1) := by decide +kernel
theorem dX8_year_22 : decode cX8_year 22 = .ok (.iconst 3, 1) := by decide +kernel
theorem dX8_year_23 : decode cX8_year 23 = .ok (.invokestatic 59, 3) := by decide +kernel
theorem dX8_year_26 : decode cX8_year 26 = .ok (.ifCond .ne 6, 3) := by decide +kernel
theorem dX8_year_29 : decode cX8_year 29 = .ok (.bipush (-2), 2) := by decide +kernel
theorem dX8_year_31 : decode cX8_year 31 = .ok (.ireturn, 1) := by decide +kernel
theorem dX8_year_32 : decode cX8_year 32 = .ok (.aload_n 0, 1) := by decide +kernel
theorem dX8_year_33 : decode cX8_year 33 = .ok (.getfield 34, 3) := by decide +kernel
theorem dX8_year_36 : decode cX8_year 36 = .ok (.aload_n 0, 1) := by decide +kernel
theorem dX8_year_37 : decode cX8_year 37 = .ok (.getfield 10, 3) := by decide +kernel
theorem dX8_year_40 : decode cX8_year 40 = .ok (.iload_n 1, 1) := by decide +kernel
theorem dX8_year_41 : decode cX8_year 41 = .ok (.iload_n 2, 1) := by decide +kernel
theorem dX8_year_42 : decode cX8_year 42 = .ok (.invokevirtual 220, 3) := by decide +kernel
theorem dX8_year_45 : decode cX8_year 45 = .ok (.iload_n 3, 1) := by decide +kernel
theorem dX8_year_46 : decode cX8_year 46 = .ok (.lookupswitch 54 #[(0, 26), (1, 40)], 26) := by decide +kernel
theorem dX8_year_72 : decode cX8_year 72 = .ok (.aload_n 0, 1) := by decide +kernel
theorem dX8_year_73 : decode cX8_year 73 = .ok (.getfield 34, 3) := by decide +kernel
theorem dX8_year_76 : decode cX8_year 76 = .ok (.getfield 119, 3) := by decide +kernel
theorem dX8_year_79 : decode cX8_year 79 = .ok (.invokevirtual 141, 3) := by decide +kernel
theorem dX8_year_82 : decode cX8_year 82 = .ok (.invokestatic 70, 3) := by decide +kernel
theorem dX8_year_85 : decode cX8_year 85 = .ok (.ireturn, 1) := by decide +kernel
theorem dX8_year_86 : decode cX8_year 86 = .ok (.aload_n 0, 1) := by decide +kernel
theorem dX8_year_87 : decode cX8_year 87 = .ok (.getfield 34, 3) := by decide +kernel
theorem dX8_year_90 : decode cX8_year 90 = .ok (.getfield 119, 3) := by decide +kernel
theorem dX8_year_93 : decode cX8_year 93 = .ok (.invokevirtual 147, 3) := by decide +kernel
theorem dX8_year_96 : decode cX8_year 96 = .ok (.invokestatic 70, 3) := by decide +kernel
theorem dX8_year_99 : decode cX8_year 99 = .ok (.ireturn, 1) := by decide +kernel
theorem dX8_year_100 : decode cX8_year 100 = .ok (.aload_n 0, 1) := by decide +kernel
theorem dX8_year_101 : decode cX8_year 101 = .ok (.getfield 34, 3) := by decide +kernel
theorem dX8_year_104 : decode cX8_year 104 = .ok (.getfield 119, 3) := by decide +kernel
theorem dX8_year_107 : decode cX8_year 107 = .ok (.invokevirtual 224, 3) := by decide +kernel
theorem dX8_year_110 : decode cX8_year 110 = .ok (.invokestatic 70, 3) := by decide +kernel
theorem dX8_year_113 : decode cX8_year 113 = .ok (.ireturn, 1) := by decide +kernel
theorem dX8_image_0 : decode cX8_image 0 = .ok (.iload_n 1, 1) := by decide +kernel
theorem dX8_image_1 : decode cX8_image 1 = .ok (.iconst 2, 1) := by decide +kernel
theorem dX8_image_2 : decode cX8_image 2 = .ok (.invokestatic 59, 3) := by decide +kernel
theorem dX8_image_5 : decode cX8_image 5 = .ok (.ifCond .ne 6, 3) := by decide +kernel
theorem dX8_image_8 : decode cX8_image 8 = .ok (.bipush (-2), 2) := by decide +kernel
theorem dX8_image_10 : decode cX8_image 10 = .ok (.ireturn, 1) := by decide +kernel
theorem dX8_image_11 : decode cX8_image 11 = .ok (.aload_n 0, 1) := by decide +kernel
theorem dX8_image_12 : decode cX8_image 12 = .ok (.getfield 16, 3) := by decide +kernel
theorem dX8_image_15 : decode cX8_image 15 = .ok (.iload_n 1, 1) := by decide +kernel
theorem dX8_image_16 : decode cX8_image 16 = .ok (.aaload, 1) := by decide +kernel
theorem dX8_image_17 : decode cX8_image 17 = .ok (.aload_n 0, 1) := by decide +kernel
theorem dX8_image_18 : decode cX8_image 18 = .ok (.getfield 10, 3) := by decide +kernel
theorem dX8_image_21 : decode cX8_image 21 = .ok (.invokevirtual 150, 3) := by decide +kernel
theorem dX8_image_24 : decode cX8_image 24 = .ok (.aload_n 0, 1) := by decide +kernel
theorem dX8_image_25 : decode cX8_image 25 = .ok (.dup, 1) := by decide +kernel
theorem dX8_image_26 : decode cX8_image 26 = .ok (.getfield 20, 3) := by decide +kernel
theorem dX8_image_29 : decode cX8_image 29 = .ok (.iconst 1, 1) := by decide +kernel
theorem dX8_image_30 : decode cX8_image 30 = .ok (.iload_n 1, 1) := by decide +kernel
theorem dX8_image_31 : decode cX8_image 31 = .ok (.ishl, 1) := by decide +kernel
theorem dX8_image_32 : decode cX8_image 32 = .ok (.ior, 1) := by decide +kernel
theorem dX8_image_33 : decode cX8_image 33 = .ok (.putfield 20, 3) := by decide +kernel
theorem dX8_image_36 : decode cX8_image 36 = .ok (.iconst 1, 1) := by decide +kernel
theorem dX8_image_37 : decode cX8_image 37 = .ok (.ireturn, 1) := by decide +kernel
theorem dX8_restore_0 : decode cX8_restore 0 = .ok (.iload_n 1, 1) := by decide +kernel
theorem dX8_restore_1 : decode cX8_restore 1 = .ok (.iconst 2, 1) := by decide +kernel
theorem dX8_restore_2 : decode cX8_restore 2 = .ok (.invokestatic 59, 3) := by decide +kernel
theorem dX8_restore_5 : decode cX8_restore 5 = .ok (.ifCond .ne 6, 3) := by decide +kernel
theorem dX8_restore_8 : decode cX8_restore 8 = .ok (.bipush (-2), 2) := by decide +kernel
theorem dX8_restore_10 : decode cX8_restore 10 = .ok (.ireturn, 1) := by decide +kernel
theorem dX8_restore_11 : decode cX8_restore 11 = .ok (.aload_n 0, 1) := by decide +kernel
theorem dX8_restore_12 : decode cX8_restore 12 = .ok (.getfield 20, 3) := by decide +kernel
theorem dX8_restore_15 : decode cX8_restore 15 = .ok (.iload_n 1, 1) := by decide +kernel
theorem dX8_restore_16 : decode cX8_restore 16 = .ok (.invokestatic 134, 3) := by decide +kernel
theorem dX8_restore_19 : decode cX8_restore 19 = .ok (.ifCond .ne 6, 3) := by decide +kernel
theorem dX8_restore_22 : decode cX8_restore 22 = .ok (.bipush (-3), 2) := by decide +kernel
theorem dX8_restore_24 : decode cX8_restore 24 = .ok (.ireturn, 1) := by decide +kernel
theorem dX8_restore_25 : decode cX8_restore 25 = .ok (.aload_n 0, 1) := by decide +kernel
theorem dX8_restore_26 : decode cX8_restore 26 = .ok (.getfield 10, 3) := by decide +kernel
theorem dX8_restore_29 : decode cX8_restore 29 = .ok (.aload_n 0, 1) := by decide +kernel
theorem dX8_restore_30 : decode cX8_restore 30 = .ok (.getfield 16, 3) := by decide +kernel
theorem dX8_restore_33 : decode cX8_restore 33 = .ok (.iload_n 1, 1) := by decide +kernel
theorem dX8_restore_34 : decode cX8_restore 34 = .ok (.aaload, 1) := by decide +kernel
theorem dX8_restore_35 : decode cX8_restore 35 = .ok (.invokevirtual 150, 3) := by decide +kernel
theorem dX8_restore_38 : decode cX8_restore 38 = .ok (.iconst 1, 1) := by decide +kernel
theorem dX8_restore_39 : decode cX8_restore 39 = .ok (.ireturn, 1) := by decide +kernel
theorem dX8_told_0 : decode cX8_told 0 = .ok (.iload_n 1, 1) := by decide +kernel
theorem dX8_told_1 : decode cX8_told 1 = .ok (.bipush 100, 2) := by decide +kernel
theorem dX8_told_3 : decode cX8_told 3 = .ok (.if_icmp .lt 19, 3) := by decide +kernel
theorem dX8_told_6 : decode cX8_told 6 = .ok (.aload_n 0, 1) := by decide +kernel
theorem dX8_told_7 : decode cX8_told 7 = .ok (.iload_n 1, 1) := by decide +kernel
theorem dX8_told_8 : decode cX8_told 8 = .ok (.bipush 10, 2) := by decide +kernel
theorem dX8_told_10 : decode cX8_told 10 = .ok (.idiv, 1) := by decide +kernel
theorem dX8_told_11 : decode cX8_told 11 = .ok (.bipush 10, 2) := by decide +kernel
theorem dX8_told_13 : decode cX8_told 13 = .ok (.isub, 1) := by decide +kernel
theorem dX8_told_14 : decode cX8_told 14 = .ok (.iload_n 1, 1) := by decide +kernel
theorem dX8_told_15 : decode cX8_told 15 = .ok (.bipush 10, 2) := by decide +kernel
theorem dX8_told_17 : decode cX8_told 17 = .ok (.irem, 1) := by decide +kernel
theorem dX8_told_18 : decode cX8_told 18 = .ok (.invokevirtual 227, 3) := by decide +kernel
theorem dX8_told_21 : decode cX8_told 21 = .ok (.ireturn, 1) := by decide +kernel
theorem dX8_told_22 : decode cX8_told 22 = .ok (.iload_n 1, 1) := by decide +kernel
theorem dX8_told_23 : decode cX8_told 23 = .ok (.bipush 10, 2) := by decide +kernel
theorem dX8_told_25 : decode cX8_told 25 = .ok (.if_icmp .lt 18, 3) := by decide +kernel
theorem dX8_told_28 : decode cX8_told 28 = .ok (.aload_n 0, 1) := by decide +kernel
theorem dX8_told_29 : decode cX8_told 29 = .ok (.iload_n 1, 1) := by decide +kernel
theorem dX8_told_30 : decode cX8_told 30 = .ok (.bipush 10, 2) := by decide +kernel
theorem dX8_told_32 : decode cX8_told 32 = .ok (.idiv, 1) := by decide +kernel
theorem dX8_told_33 : decode cX8_told 33 = .ok (.iconst 1, 1) := by decide +kernel
theorem dX8_told_34 : decode cX8_told 34 = .ok (.isub, 1) := by decide +kernel
theorem dX8_told_35 : decode cX8_told 35 = .ok (.iload_n 1, 1) := by decide +kernel
theorem dX8_told_36 : decode cX8_told 36 = .ok (.bipush 10, 2) := by decide +kernel
theorem dX8_told_38 : decode cX8_told 38 = .ok (.irem, 1) := by decide +kernel
theorem dX8_told_39 : decode cX8_told 39 = .ok (.invokevirtual 230, 3) := by decide +kernel
theorem dX8_told_42 : decode cX8_told 42 = .ok (.ireturn, 1) := by decide +kernel
theorem dX8_told_43 : decode cX8_told 43 = .ok (.iload_n 1, 1) := by decide +kernel
theorem dX8_told_44 : decode cX8_told 44 = .ok (.tableswitch 88 0 5 #[40, 48, 56, 64, 72, 80], 40) := by decide +kernel
theorem dX8_told_84 : decode cX8_told 84 = .ok (.aload_n 0, 1) := by decide +kernel
theorem dX8_told_85 : decode cX8_told 85 = .ok (.getfield 27, 3) := by decide +kernel
theorem dX8_told_88 : decode cX8_told 88 = .ok (.getfield 100, 3) := by decide +kernel
theorem dX8_told_91 : decode cX8_told 91 = .ok (.ireturn, 1) := by decide +kernel
theorem dX8_told_92 : decode cX8_told 92 = .ok (.aload_n 0, 1) := by decide +kernel
theorem dX8_told_93 : decode cX8_told 93 = .ok (.getfield 10, 3) := by decide +kernel
theorem dX8_told_96 : decode cX8_told 96 = .ok (.getfield 67, 3) := by decide +kernel
theorem dX8_told_99 : decode cX8_told 99 = .ok (.ireturn, 1) := by decide +kernel
theorem dX8_told_100 : decode cX8_told 100 = .ok (.aload_n 0, 1) := by decide +kernel
theorem dX8_told_101 : decode cX8_told 101 = .ok (.getfield 10, 3) := by decide +kernel
theorem dX8_told_104 : decode cX8_told 104 = .ok (.getfield 91, 3) := by decide +kernel
theorem dX8_told_107 : decode cX8_told 107 = .ok (.ireturn, 1) := by decide +kernel
theorem dX8_told_108 : decode cX8_told 108 = .ok (.aload_n 0, 1) := by decide +kernel
theorem dX8_told_109 : decode cX8_told 109 = .ok (.getfield 10, 3) := by decide +kernel
theorem dX8_told_112 : decode cX8_told 112 = .ok (.getfield 94, 3) := by decide +kernel
theorem dX8_told_115 : decode cX8_told 115 = .ok (.ireturn, 1) := by decide +kernel
theorem dX8_told_116 : decode cX8_told 116 = .ok (.aload_n 0, 1) := by decide +kernel
theorem dX8_told_117 : decode cX8_told 117 = .ok (.getfield 10, 3) := by decide +kernel
theorem dX8_told_120 : decode cX8_told 120 = .ok (.getfield 188, 3) := by decide +kernel
theorem dX8_told_123 : decode cX8_told 123 = .ok (.ireturn, 1) := by decide +kernel
theorem dX8_told_124 : decode cX8_told 124 = .ok (.aload_n 0, 1) := by decide +kernel
theorem dX8_told_125 : decode cX8_told 125 = .ok (.getfield 10, 3) := by decide +kernel
theorem dX8_told_128 : decode cX8_told 128 = .ok (.invokevirtual 147, 3) := by decide +kernel
theorem dX8_told_131 : decode cX8_told 131 = .ok (.ireturn, 1) := by decide +kernel
theorem dX8_told_132 : decode cX8_told 132 = .ok (.bipush (-2), 2) := by decide +kernel
theorem dX8_told_134 : decode cX8_told 134 = .ok (.ireturn, 1) := by decide +kernel
theorem dX8_toldOfFlake_0 : decode cX8_toldOfFlake 0 = .ok (.aload_n 0, 1) := by decide +kernel
theorem dX8_toldOfFlake_1 : decode cX8_toldOfFlake 1 = .ok (.getfield 10, 3) := by decide +kernel
theorem dX8_toldOfFlake_4 : decode cX8_toldOfFlake 4 = .ok (.iload_n 1, 1) := by decide +kernel
theorem dX8_toldOfFlake_5 : decode cX8_toldOfFlake 5 = .ok (.invokevirtual 76, 3) := by decide +kernel
theorem dX8_toldOfFlake_8 : decode cX8_toldOfFlake 8 = .ok (.ifCond .ne 6, 3) := by decide +kernel
theorem dX8_toldOfFlake_11 : decode cX8_toldOfFlake 11 = .ok (.bipush (-2), 2) := by decide +kernel
theorem dX8_toldOfFlake_13 : decode cX8_toldOfFlake 13 = .ok (.ireturn, 1) := by decide +kernel
theorem dX8_toldOfFlake_14 : decode cX8_toldOfFlake 14 = .ok (.iload_n 2, 1) := by decide +kernel
theorem dX8_toldOfFlake_15 : decode cX8_toldOfFlake 15 = .ok (.tableswitch 83 0 4 #[33, 43, 53, 63, 73], 33) := by decide +kernel
theorem dX8_toldOfFlake_48 : decode cX8_toldOfFlake 48 = .ok (.aload_n 0, 1) := by decide +kernel
theorem dX8_toldOfFlake_49 : decode cX8_toldOfFlake 49 = .ok (.getfield 10, 3) := by decide +kernel
theorem dX8_toldOfFlake_52 : decode cX8_toldOfFlake 52 = .ok (.getfield 122, 3) := by decide +kernel
theorem dX8_toldOfFlake_55 : decode cX8_toldOfFlake 55 = .ok (.iload_n 1, 1) := by decide +kernel
theorem dX8_toldOfFlake_56 : decode cX8_toldOfFlake 56 = .ok (.iaload, 1) := by decide +kernel
theorem dX8_toldOfFlake_57 : decode cX8_toldOfFlake 57 = .ok (.ireturn, 1) := by decide +kernel
theorem dX8_toldOfFlake_58 : decode cX8_toldOfFlake 58 = .ok (.aload_n 0, 1) := by decide +kernel
theorem dX8_toldOfFlake_59 : decode cX8_toldOfFlake 59 = .ok (.getfield 10, 3) := by decide +kernel
theorem dX8_toldOfFlake_62 : decode cX8_toldOfFlake 62 = .ok (.getfield 125, 3) := by decide +kernel
theorem dX8_toldOfFlake_65 : decode cX8_toldOfFlake 65 = .ok (.iload_n 1, 1) := by decide +kernel
theorem dX8_toldOfFlake_66 : decode cX8_toldOfFlake 66 = .ok (.iaload, 1) := by decide +kernel
theorem dX8_toldOfFlake_67 : decode cX8_toldOfFlake 67 = .ok (.ireturn, 1) := by decide +kernel
theorem dX8_toldOfFlake_68 : decode cX8_toldOfFlake 68 = .ok (.aload_n 0, 1) := by decide +kernel
theorem dX8_toldOfFlake_69 : decode cX8_toldOfFlake 69 = .ok (.getfield 10, 3) := by decide +kernel
theorem dX8_toldOfFlake_72 : decode cX8_toldOfFlake 72 = .ok (.getfield 128, 3) := by decide +kernel
theorem dX8_toldOfFlake_75 : decode cX8_toldOfFlake 75 = .ok (.iload_n 1, 1) := by decide +kernel
theorem dX8_toldOfFlake_76 : decode cX8_toldOfFlake 76 = .ok (.iaload, 1) := by decide +kernel
theorem dX8_toldOfFlake_77 : decode cX8_toldOfFlake 77 = .ok (.ireturn, 1) := by decide +kernel
theorem dX8_toldOfFlake_78 : decode cX8_toldOfFlake 78 = .ok (.aload_n 0, 1) := by decide +kernel
theorem dX8_toldOfFlake_79 : decode cX8_toldOfFlake 79 = .ok (.getfield 10, 3) := by decide +kernel
theorem dX8_toldOfFlake_82 : decode cX8_toldOfFlake 82 = .ok (.getfield 233, 3) := by decide +kernel
theorem dX8_toldOfFlake_85 : decode cX8_toldOfFlake 85 = .ok (.iload_n 1, 1) := by decide +kernel
theorem dX8_toldOfFlake_86 : decode cX8_toldOfFlake 86 = .ok (.iaload, 1) := by decide +kernel
theorem dX8_toldOfFlake_87 : decode cX8_toldOfFlake 87 = .ok (.ireturn, 1) := by decide +kernel
theorem dX8_toldOfFlake_88 : decode cX8_toldOfFlake 88 = .ok (.aload_n 0, 1) := by decide +kernel
theorem dX8_toldOfFlake_89 : decode cX8_toldOfFlake 89 = .ok (.getfield 10, 3) := by decide +kernel
theorem dX8_toldOfFlake_92 : decode cX8_toldOfFlake 92 = .ok (.getfield 131, 3) := by decide +kernel
theorem dX8_toldOfFlake_95 : decode cX8_toldOfFlake 95 = .ok (.iload_n 1, 1) := by decide +kernel
theorem dX8_toldOfFlake_96 : decode cX8_toldOfFlake 96 = .ok (.iaload, 1) := by decide +kernel
theorem dX8_toldOfFlake_97 : decode cX8_toldOfFlake 97 = .ok (.ireturn, 1) := by decide +kernel
theorem dX8_toldOfFlake_98 : decode cX8_toldOfFlake 98 = .ok (.bipush (-2), 2) := by decide +kernel
theorem dX8_toldOfFlake_100 : decode cX8_toldOfFlake 100 = .ok (.ireturn, 1) := by decide +kernel
theorem dX8_toldOfOne_0 : decode cX8_toldOfOne 0 = .ok (.iload_n 1, 1) := by decide +kernel
theorem dX8_toldOfOne_1 : decode cX8_toldOfOne 1 = .ok (.bipush 6, 2) := by decide +kernel
theorem dX8_toldOfOne_3 : decode cX8_toldOfOne 3 = .ok (.invokestatic 59, 3) := by decide +kernel
theorem dX8_toldOfOne_6 : decode cX8_toldOfOne 6 = .ok (.ifCond .eq 11, 3) := by decide +kernel
theorem dX8_toldOfOne_9 : decode cX8_toldOfOne 9 = .ok (.iload_n 2, 1) := by decide +kernel
theorem dX8_toldOfOne_10 : decode cX8_toldOfOne 10 = .ok (.iconst 2, 1) := by decide +kernel
theorem dX8_toldOfOne_11 : decode cX8_toldOfOne 11 = .ok (.invokestatic 59, 3) := by decide +kernel
theorem dX8_toldOfOne_14 : decode cX8_toldOfOne 14 = .ok (.ifCond .ne 6, 3) := by decide +kernel
theorem dX8_toldOfOne_17 : decode cX8_toldOfOne 17 = .ok (.bipush (-2), 2) := by decide +kernel
theorem dX8_toldOfOne_19 : decode cX8_toldOfOne 19 = .ok (.ireturn, 1) := by decide +kernel
theorem dX8_toldOfOne_20 : decode cX8_toldOfOne 20 = .ok (.iload_n 2, 1) := by decide +kernel
theorem dX8_toldOfOne_21 : decode cX8_toldOfOne 21 = .ok (.ifCond .ne 15, 3) := by decide +kernel
theorem dX8_toldOfOne_24 : decode cX8_toldOfOne 24 = .ok (.aload_n 0, 1) := by decide +kernel
theorem dX8_toldOfOne_25 : decode cX8_toldOfOne 25 = .ok (.getfield 10, 3) := by decide +kernel
theorem dX8_toldOfOne_28 : decode cX8_toldOfOne 28 = .ok (.getfield 84, 3) := by decide +kernel
theorem dX8_toldOfOne_31 : decode cX8_toldOfOne 31 = .ok (.iload_n 1, 1) := by decide +kernel
theorem dX8_toldOfOne_32 : decode cX8_toldOfOne 32 = .ok (.iaload, 1) := by decide +kernel
theorem dX8_toldOfOne_33 : decode cX8_toldOfOne 33 = .ok (.goto 14, 3) := by decide +kernel
theorem dX8_toldOfOne_36 : decode cX8_toldOfOne 36 = .ok (.aload_n 0, 1) := by decide +kernel
theorem dX8_toldOfOne_37 : decode cX8_toldOfOne 37 = .ok (.getfield 10, 3) := by decide +kernel
theorem dX8_toldOfOne_40 : decode cX8_toldOfOne 40 = .ok (.getfield 88, 3) := by decide +kernel
theorem dX8_toldOfOne_43 : decode cX8_toldOfOne 43 = .ok (.iload_n 1, 1) := by decide +kernel
theorem dX8_toldOfOne_44 : decode cX8_toldOfOne 44 = .ok (.invokestatic 134, 3) := by decide +kernel
theorem dX8_toldOfOne_47 : decode cX8_toldOfOne 47 = .ok (.ireturn, 1) := by decide +kernel
theorem dX8_refusalOfDays_0 : decode cX8_refusalOfDays 0 = .ok (.aload_n 0, 1) := by decide +kernel
theorem dX8_refusalOfDays_1 : decode cX8_refusalOfDays 1 = .ok (.getfield 27, 3) := by decide +kernel
theorem dX8_refusalOfDays_4 : decode cX8_refusalOfDays 4 = .ok (.invokevirtual 103, 3) := by decide +kernel
theorem dX8_refusalOfDays_7 : decode cX8_refusalOfDays 7 = .ok (.bipush (-6), 2) := by decide +kernel
theorem dX8_refusalOfDays_9 : decode cX8_refusalOfDays 9 = .ok (.if_icmp .eq 6, 3) := by decide +kernel
theorem dX8_refusalOfDays_12 : decode cX8_refusalOfDays 12 = .ok (.bipush (-5), 2) := by decide +kernel
theorem dX8_refusalOfDays_14 : decode cX8_refusalOfDays 14 = .ok (.ireturn, 1) := by decide +kernel
theorem dX8_refusalOfDays_15 : decode cX8_refusalOfDays 15 = .ok (.aload_n 0, 1) := by decide +kernel
theorem dX8_refusalOfDays_16 : decode cX8_refusalOfDays 16 = .ok (.getfield 34, 3) := by decide +kernel
theorem dX8_refusalOfDays_19 : decode cX8_refusalOfDays 19 = .ok (.aload_n 0, 1) := by decide +kernel
theorem dX8_refusalOfDays_20 : decode cX8_refusalOfDays 20 = .ok (.getfield 10, 3) := by decide +kernel
theorem dX8_refusalOfDays_23 : decode cX8_refusalOfDays 23 = .ok (.aload_n 0, 1) := by decide +kernel
theorem dX8_refusalOfDays_24 : decode cX8_refusalOfDays 24 = .ok (.getfield 27, 3) := by decide +kernel
theorem dX8_refusalOfDays_27 : decode cX8_refusalOfDays 27 = .ok (.invokevirtual 236, 3) := by decide +kernel
theorem dX8_refusalOfDays_30 : decode cX8_refusalOfDays 30 = .ok (.aload_n 0, 1) := by decide +kernel
theorem dX8_refusalOfDays_31 : decode cX8_refusalOfDays 31 = .ok (.getfield 34, 3) := by decide +kernel
theorem dX8_refusalOfDays_34 : decode cX8_refusalOfDays 34 = .ok (.getfield 110, 3) := by decide +kernel
theorem dX8_refusalOfDays_37 : decode cX8_refusalOfDays 37 = .ok (.bipush (-6), 2) := by decide +kernel
theorem dX8_refusalOfDays_39 : decode cX8_refusalOfDays 39 = .ok (.if_icmp .ne 7, 3) := by decide +kernel
theorem dX8_refusalOfDays_42 : decode cX8_refusalOfDays 42 = .ok (.iconst 0, 1) := by decide +kernel
theorem dX8_refusalOfDays_43 : decode cX8_refusalOfDays 43 = .ok (.goto 5, 3) := by decide +kernel
theorem dX8_refusalOfDays_46 : decode cX8_refusalOfDays 46 = .ok (.bipush (-3), 2) := by decide +kernel
theorem dX8_refusalOfDays_48 : decode cX8_refusalOfDays 48 = .ok (.ireturn, 1) := by decide +kernel
theorem dX8_isBelow_0 : decode cX8_isBelow 0 = .ok (.iload_n 0, 1) := by decide +kernel
theorem dX8_isBelow_1 : decode cX8_isBelow 1 = .ok (.ifCond .lt 12, 3) := by decide +kernel
theorem dX8_isBelow_4 : decode cX8_isBelow 4 = .ok (.iload_n 0, 1) := by decide +kernel
theorem dX8_isBelow_5 : decode cX8_isBelow 5 = .ok (.iload_n 1, 1) := by decide +kernel
theorem dX8_isBelow_6 : decode cX8_isBelow 6 = .ok (.if_icmp .ge 7, 3) := by decide +kernel
theorem dX8_isBelow_9 : decode cX8_isBelow 9 = .ok (.iconst 1, 1) := by decide +kernel
theorem dX8_isBelow_10 : decode cX8_isBelow 10 = .ok (.goto 4, 3) := by decide +kernel
theorem dX8_isBelow_13 : decode cX8_isBelow 13 = .ok (.iconst 0, 1) := by decide +kernel
theorem dX8_isBelow_14 : decode cX8_isBelow 14 = .ok (.ireturn, 1) := by decide +kernel
theorem dX8_bit_0 : decode cX8_bit 0 = .ok (.iload_n 0, 1) := by decide +kernel
theorem dX8_bit_1 : decode cX8_bit 1 = .ok (.iload_n 1, 1) := by decide +kernel
theorem dX8_bit_2 : decode cX8_bit 2 = .ok (.ishr, 1) := by decide +kernel
theorem dX8_bit_3 : decode cX8_bit 3 = .ok (.iconst 1, 1) := by decide +kernel
theorem dX8_bit_4 : decode cX8_bit 4 = .ok (.iand, 1) := by decide +kernel
theorem dX8_bit_5 : decode cX8_bit 5 = .ok (.ireturn, 1) := by decide +kernel
theorem dJ6_bitCount_0f7a4_0 : decode cJ6_bitCount_0f7a4 0 = .ok (.iload_n 0, 1) := by decide +kernel
theorem dJ6_bitCount_0f7a4_1 : decode cJ6_bitCount_0f7a4 1 = .ok (.iload_n 0, 1) := by decide +kernel
theorem dJ6_bitCount_0f7a4_2 : decode cJ6_bitCount_0f7a4 2 = .ok (.iconst 1, 1) := by decide +kernel
theorem dJ6_bitCount_0f7a4_3 : decode cJ6_bitCount_0f7a4 3 = .ok (.iushr, 1) := by decide +kernel
theorem dJ6_bitCount_0f7a4_4 : decode cJ6_bitCount_0f7a4 4 = .ok (.ldc_w 265, 3) := by decide +kernel
theorem dJ6_bitCount_0f7a4_7 : decode cJ6_bitCount_0f7a4 7 = .ok (.iand, 1) := by decide +kernel
theorem dJ6_bitCount_0f7a4_8 : decode cJ6_bitCount_0f7a4 8 = .ok (.isub, 1) := by decide +kernel
theorem dJ6_bitCount_0f7a4_9 : decode cJ6_bitCount_0f7a4 9 = .ok (.istore_n 0, 1) := by decide +kernel
theorem dJ6_bitCount_0f7a4_10 : decode cJ6_bitCount_0f7a4 10 = .ok (.iload_n 0, 1) := by decide +kernel
theorem dJ6_bitCount_0f7a4_11 : decode cJ6_bitCount_0f7a4 11 = .ok (.ldc_w 266, 3) := by decide +kernel
theorem dJ6_bitCount_0f7a4_14 : decode cJ6_bitCount_0f7a4 14 = .ok (.iand, 1) := by decide +kernel
theorem dJ6_bitCount_0f7a4_15 : decode cJ6_bitCount_0f7a4 15 = .ok (.iload_n 0, 1) := by decide +kernel
theorem dJ6_bitCount_0f7a4_16 : decode cJ6_bitCount_0f7a4 16 = .ok (.iconst 2, 1) := by decide +kernel
theorem dJ6_bitCount_0f7a4_17 : decode cJ6_bitCount_0f7a4 17 = .ok (.iushr, 1) := by decide +kernel
theorem dJ6_bitCount_0f7a4_18 : decode cJ6_bitCount_0f7a4 18 = .ok (.ldc_w 266, 3) := by decide +kernel
theorem dJ6_bitCount_0f7a4_21 : decode cJ6_bitCount_0f7a4 21 = .ok (.iand, 1) := by decide +kernel
theorem dJ6_bitCount_0f7a4_22 : decode cJ6_bitCount_0f7a4 22 = .ok (.iadd, 1) := by decide +kernel
theorem dJ6_bitCount_0f7a4_23 : decode cJ6_bitCount_0f7a4 23 = .ok (.istore_n 0, 1) := by decide +kernel
theorem dJ6_bitCount_0f7a4_24 : decode cJ6_bitCount_0f7a4 24 = .ok (.iload_n 0, 1) := by decide +kernel
theorem dJ6_bitCount_0f7a4_25 : decode cJ6_bitCount_0f7a4 25 = .ok (.iload_n 0, 1) := by decide +kernel
theorem dJ6_bitCount_0f7a4_26 : decode cJ6_bitCount_0f7a4 26 = .ok (.iconst 4, 1) := by decide +kernel
theorem dJ6_bitCount_0f7a4_27 : decode cJ6_bitCount_0f7a4 27 = .ok (.iushr, 1) := by decide +kernel
theorem dJ6_bitCount_0f7a4_28 : decode cJ6_bitCount_0f7a4 28 = .ok (.iadd, 1) := by decide +kernel
theorem dJ6_bitCount_0f7a4_29 : decode cJ6_bitCount_0f7a4 29 = .ok (.ldc_w 267, 3) := by decide +kernel
theorem dJ6_bitCount_0f7a4_32 : decode cJ6_bitCount_0f7a4 32 = .ok (.iand, 1) := by decide +kernel
theorem dJ6_bitCount_0f7a4_33 : decode cJ6_bitCount_0f7a4 33 = .ok (.istore_n 0, 1) := by decide +kernel
theorem dJ6_bitCount_0f7a4_34 : decode cJ6_bitCount_0f7a4 34 = .ok (.iload_n 0, 1) := by decide +kernel
theorem dJ6_bitCount_0f7a4_35 : decode cJ6_bitCount_0f7a4 35 = .ok (.iload_n 0, 1) := by decide +kernel
theorem dJ6_bitCount_0f7a4_36 : decode cJ6_bitCount_0f7a4 36 = .ok (.bipush 8, 2) := by decide +kernel
theorem dJ6_bitCount_0f7a4_38 : decode cJ6_bitCount_0f7a4 38 = .ok (.iushr, 1) := by decide +kernel
theorem dJ6_bitCount_0f7a4_39 : decode cJ6_bitCount_0f7a4 39 = .ok (.iadd, 1) := by decide +kernel
theorem dJ6_bitCount_0f7a4_40 : decode cJ6_bitCount_0f7a4 40 = .ok (.istore_n 0, 1) := by decide +kernel
theorem dJ6_bitCount_0f7a4_41 : decode cJ6_bitCount_0f7a4 41 = .ok (.iload_n 0, 1) := by decide +kernel
theorem dJ6_bitCount_0f7a4_42 : decode cJ6_bitCount_0f7a4 42 = .ok (.iload_n 0, 1) := by decide +kernel
theorem dJ6_bitCount_0f7a4_43 : decode cJ6_bitCount_0f7a4 43 = .ok (.bipush 16, 2) := by decide +kernel
theorem dJ6_bitCount_0f7a4_45 : decode cJ6_bitCount_0f7a4 45 = .ok (.iushr, 1) := by decide +kernel
theorem dJ6_bitCount_0f7a4_46 : decode cJ6_bitCount_0f7a4 46 = .ok (.iadd, 1) := by decide +kernel
theorem dJ6_bitCount_0f7a4_47 : decode cJ6_bitCount_0f7a4 47 = .ok (.istore_n 0, 1) := by decide +kernel
theorem dJ6_bitCount_0f7a4_48 : decode cJ6_bitCount_0f7a4 48 = .ok (.iload_n 0, 1) := by decide +kernel
theorem dJ6_bitCount_0f7a4_49 : decode cJ6_bitCount_0f7a4 49 = .ok (.bipush 63, 2) := by decide +kernel
theorem dJ6_bitCount_0f7a4_51 : decode cJ6_bitCount_0f7a4 51 = .ok (.iand, 1) := by decide +kernel
theorem dJ6_bitCount_0f7a4_52 : decode cJ6_bitCount_0f7a4 52 = .ok (.ireturn, 1) := by decide +kernel
theorem dJ9_abs_0f7a4_0 : decode cJ9_abs_0f7a4 0 = .ok (.iload_n 0, 1) := by decide +kernel
theorem dJ9_abs_0f7a4_1 : decode cJ9_abs_0f7a4 1 = .ok (.ifCond .ge 8, 3) := by decide +kernel
theorem dJ9_abs_0f7a4_4 : decode cJ9_abs_0f7a4 4 = .ok (.iload_n 0, 1) := by decide +kernel
theorem dJ9_abs_0f7a4_5 : decode cJ9_abs_0f7a4 5 = .ok (.ineg, 1) := by decide +kernel
theorem dJ9_abs_0f7a4_6 : decode cJ9_abs_0f7a4 6 = .ok (.goto 4, 3) := by decide +kernel
theorem dJ9_abs_0f7a4_9 : decode cJ9_abs_0f7a4 9 = .ok (.iload_n 0, 1) := by decide +kernel
theorem dJ9_abs_0f7a4_10 : decode cJ9_abs_0f7a4 10 = .ok (.ireturn, 1) := by decide +kernel
theorem dJ9_max_7cf53_0 : decode cJ9_max_7cf53 0 = .ok (.iload_n 0, 1) := by decide +kernel
theorem dJ9_max_7cf53_1 : decode cJ9_max_7cf53 1 = .ok (.iload_n 1, 1) := by decide +kernel
theorem dJ9_max_7cf53_2 : decode cJ9_max_7cf53 2 = .ok (.if_icmp .lt 7, 3) := by decide +kernel
theorem dJ9_max_7cf53_5 : decode cJ9_max_7cf53 5 = .ok (.iload_n 0, 1) := by decide +kernel
theorem dJ9_max_7cf53_6 : decode cJ9_max_7cf53 6 = .ok (.goto 4, 3) := by decide +kernel
theorem dJ9_max_7cf53_9 : decode cJ9_max_7cf53 9 = .ok (.iload_n 1, 1) := by decide +kernel
theorem dJ9_max_7cf53_10 : decode cJ9_max_7cf53 10 = .ok (.ireturn, 1) := by decide +kernel
theorem dJ7_fill_53178_0 : decode cJ7_fill_53178 0 = .ok (.iconst 0, 1) := by decide +kernel
theorem dJ7_fill_53178_1 : decode cJ7_fill_53178 1 = .ok (.istore_n 2, 1) := by decide +kernel
theorem dJ7_fill_53178_2 : decode cJ7_fill_53178 2 = .ok (.aload_n 0, 1) := by decide +kernel
theorem dJ7_fill_53178_3 : decode cJ7_fill_53178 3 = .ok (.arraylength, 1) := by decide +kernel
theorem dJ7_fill_53178_4 : decode cJ7_fill_53178 4 = .ok (.istore_n 3, 1) := by decide +kernel
theorem dJ7_fill_53178_5 : decode cJ7_fill_53178 5 = .ok (.iload_n 2, 1) := by decide +kernel
theorem dJ7_fill_53178_6 : decode cJ7_fill_53178 6 = .ok (.iload_n 3, 1) := by decide +kernel
theorem dJ7_fill_53178_7 : decode cJ7_fill_53178 7 = .ok (.if_icmp .ge 13, 3) := by decide +kernel
theorem dJ7_fill_53178_10 : decode cJ7_fill_53178 10 = .ok (.aload_n 0, 1) := by decide +kernel
theorem dJ7_fill_53178_11 : decode cJ7_fill_53178 11 = .ok (.iload_n 2, 1) := by decide +kernel
theorem dJ7_fill_53178_12 : decode cJ7_fill_53178 12 = .ok (.iload_n 1, 1) := by decide +kernel
theorem dJ7_fill_53178_13 : decode cJ7_fill_53178 13 = .ok (.iastore, 1) := by decide +kernel
theorem dJ7_fill_53178_14 : decode cJ7_fill_53178 14 = .ok (.iinc 2 1, 3) := by decide +kernel
theorem dJ7_fill_53178_17 : decode cJ7_fill_53178 17 = .ok (.goto (-12), 3) := by decide +kernel
theorem dJ7_fill_53178_20 : decode cJ7_fill_53178 20 = .ok (.return_, 1) := by decide +kernel
end
section
theorem dX9_init_0 : decode cX9_init 0 = .ok (.aload_n 0, 1) := by decide +kernel
theorem dX9_init_1 : decode cX9_init 1 = .ok (.invokespecial 1, 3) := by decide +kernel
theorem dX9_init_4 : decode cX9_init 4 = .ok (.aload_n 0, 1) := by decide +kernel
theorem dX9_init_5 : decode cX9_init 5 = .ok (.bipush 8, 2) := by decide +kernel
theorem dX9_init_7 : decode cX9_init 7 = .ok (.newarray .int, 2) := by decide +kernel
theorem dX9_init_9 : decode cX9_init 9 = .ok (.putfield 7, 3) := by decide +kernel
theorem dX9_init_12 : decode cX9_init 12 = .ok (.aload_n 0, 1) := by decide +kernel
theorem dX9_init_13 : decode cX9_init 13 = .ok (.bipush 8, 2) := by decide +kernel
theorem dX9_init_15 : decode cX9_init 15 = .ok (.newarray .int, 2) := by decide +kernel
theorem dX9_init_17 : decode cX9_init 17 = .ok (.putfield 13, 3) := by decide +kernel
theorem dX9_init_20 : decode cX9_init 20 = .ok (.aload_n 0, 1) := by decide +kernel
theorem dX9_init_21 : decode cX9_init 21 = .ok (.bipush 8, 2) := by decide +kernel
theorem dX9_init_23 : decode cX9_init 23 = .ok (.newarray .int, 2) := by decide +kernel
theorem dX9_init_25 : decode cX9_init 25 = .ok (.putfield 16, 3) := by decide +kernel
theorem dX9_init_28 : decode cX9_init 28 = .ok (.aload_n 0, 1) := by decide +kernel
theorem dX9_init_29 : decode cX9_init 29 = .ok (.bipush 8, 2) := by decide +kernel
theorem dX9_init_31 : decode cX9_init 31 = .ok (.newarray .int, 2) := by decide +kernel
theorem dX9_init_33 : decode cX9_init 33 = .ok (.putfield 19, 3) := by decide +kernel
theorem dX9_init_36 : decode cX9_init 36 = .ok (.aload_n 0, 1) := by decide +kernel
theorem dX9_init_37 : decode cX9_init 37 = .ok (.bipush 8, 2) := by decide +kernel
theorem dX9_init_39 : decode cX9_init 39 = .ok (.newarray .int, 2) := by decide +kernel
theorem dX9_init_41 : decode cX9_init 41 = .ok (.putfield 22, 3) := by decide +kernel
theorem dX9_init_44 : decode cX9_init 44 = .ok (.aload_n 0, 1) := by decide +kernel
theorem dX9_init_45 : decode cX9_init 45 = .ok (.bipush 6, 2) := by decide +kernel
theorem dX9_init_47 : decode cX9_init 47 = .ok (.newarray .int, 2) := by decide +kernel
theorem dX9_init_49 : decode cX9_init 49 = .ok (.putfield 25, 3) := by decide +kernel
theorem dX9_init_52 : decode cX9_init 52 = .ok (.aload_n 0, 1) := by decide +kernel
theorem dX9_init_53 : decode cX9_init 53 = .ok (.bipush 6, 2) := by decide +kernel
theorem dX9_init_55 : decode cX9_init 55 = .ok (.newarray .int, 2) := by decide +kernel
theorem dX9_init_57 : decode cX9_init 57 = .ok (.putfield 28, 3) := by decide +kernel
theorem dX9_init_60 : decode cX9_init 60 = .ok (.aload_n 0, 1) := by decide +kernel
theorem dX9_init_61 : decode cX9_init 61 = .ok (.iconst 2, 1) := by decide +kernel
theorem dX9_init_62 : decode cX9_init 62 = .ok (.newarray .int, 2) := by decide +kernel
theorem dX9_init_64 : decode cX9_init 64 = .ok (.putfield 31, 3) := by decide +kernel
theorem dX9_init_67 : decode cX9_init 67 = .ok (.aload_n 0, 1) := by decide +kernel
theorem dX9_init_68 : decode cX9_init 68 = .ok (.bipush 8, 2) := by decide +kernel
theorem dX9_init_70 : decode cX9_init 70 = .ok (.newarray .int, 2) := by decide +kernel
theorem dX9_init_72 : decode cX9_init 72 = .ok (.putfield 34, 3) := by decide +kernel
theorem dX9_init_75 : decode cX9_init 75 = .ok (.aload_n 0, 1) := by decide +kernel
theorem dX9_init_76 : decode cX9_init 76 = .ok (.bipush 8, 2) := by decide +kernel
theorem dX9_init_78 : decode cX9_init 78 = .ok (.newarray .int, 2) := by decide +kernel
theorem dX9_init_80 : decode cX9_init 80 = .ok (.putfield 37, 3) := by decide +kernel
theorem dX9_init_83 : decode cX9_init 83 = .ok (.aload_n 0, 1) := by decide +kernel
theorem dX9_init_84 : decode cX9_init 84 = .ok (.bipush 60, 2) := by decide +kernel
theorem dX9_init_86 : decode cX9_init 86 = .ok (.newarray .int, 2) := by decide +kernel
theorem dX9_init_88 : decode cX9_init 88 = .ok (.putfield 40, 3) := by decide +kernel
theorem dX9_init_91 : decode cX9_init 91 = .ok (.aload_n 0, 1) := by decide +kernel
theorem dX9_init_92 : decode cX9_init 92 = .ok (.bipush 60, 2) := by decide +kernel
theorem dX9_init_94 : decode cX9_init 94 = .ok (.newarray .int, 2) := by decide +kernel
theorem dX9_init_96 : decode cX9_init 96 = .ok (.putfield 43, 3) := by decide +kernel
theorem dX9_init_99 : decode cX9_init 99 = .ok (.aload_n 0, 1) := by decide +kernel
theorem dX9_init_100 : decode cX9_init 100 = .ok (.bipush 60, 2) := by decide +kernel
theorem dX9_init_102 : decode cX9_init 102 = .ok (.newarray .int, 2) := by decide +kernel
theorem dX9_init_104 : decode cX9_init 104 = .ok (.putfield 46, 3) := by decide +kernel
theorem dX9_init_107 : decode cX9_init 107 = .ok (.aload_n 0, 1) := by decide +kernel
theorem dX9_init_108 : decode cX9_init 108 = .ok (.bipush 44, 2) := by decide +kernel
theorem dX9_init_110 : decode cX9_init 110 = .ok (.newarray .int, 2) := by decide +kernel
theorem dX9_init_112 : decode cX9_init 112 = .ok (.putfield 49, 3) := by decide +kernel
theorem dX9_init_115 : decode cX9_init 115 = .ok (.aload_n 0, 1) := by decide +kernel
theorem dX9_init_116 : decode cX9_init 116 = .ok (.sipush 2816, 3) := by decide +kernel
theorem dX9_init_119 : decode cX9_init 119 = .ok (.newarray .long, 2) := by decide +kernel
theorem dX9_init_121 : decode cX9_init 121 = .ok (.putfield 52, 3) := by decide +kernel
theorem dX9_init_124 : decode cX9_init 124 = .ok (.aload_n 0, 1) := by decide +kernel
theorem dX9_init_125 : decode cX9_init 125 = .ok (.sipush 256, 3) := by decide +kernel
theorem dX9_init_128 : decode cX9_init 128 = .ok (.newarray .int, 2) := by decide +kernel
theorem dX9_init_130 : decode cX9_init 130 = .ok (.putfield 56, 3) := by decide +kernel
theorem dX9_init_133 : decode cX9_init 133 = .ok (.aload_n 0, 1) := by decide +kernel
theorem dX9_init_134 : decode cX9_init 134 = .ok (.bipush 64, 2) := by decide +kernel
theorem dX9_init_136 : decode cX9_init 136 = .ok (.newarray .int, 2) := by decide +kernel
theorem dX9_init_138 : decode cX9_init 138 = .ok (.putfield 59, 3) := by decide +kernel
theorem dX9_init_141 : decode cX9_init 141 = .ok (.aload_n 0, 1) := by decide +kernel
theorem dX9_init_142 : decode cX9_init 142 = .ok (.sipush 256, 3) := by decide +kernel
theorem dX9_init_145 : decode cX9_init 145 = .ok (.newarray .int, 2) := by decide +kernel
theorem dX9_init_147 : decode cX9_init 147 = .ok (.putfield 62, 3) := by decide +kernel
theorem dX9_init_150 : decode cX9_init 150 = .ok (.aload_n 0, 1) := by decide +kernel
theorem dX9_init_151 : decode cX9_init 151 = .ok (.sipush 256, 3) := by decide +kernel
theorem dX9_init_154 : decode cX9_init 154 = .ok (.newarray .boolean, 2) := by decide +kernel
theorem dX9_init_156 : decode cX9_init 156 = .ok (.putfield 65, 3) := by decide +kernel
theorem dX9_init_159 : decode cX9_init 159 = .ok (.aload_n 0, 1) := by decide +kernel
theorem dX9_init_160 : decode cX9_init 160 = .ok (.bipush 17, 2) := by decide +kernel
theorem dX9_init_162 : decode cX9_init 162 = .ok (.newarray .long, 2) := by decide +kernel
theorem dX9_init_164 : decode cX9_init 164 = .ok (.putfield 69, 3) := by decide +kernel
theorem dX9_init_167 : decode cX9_init 167 = .ok (.aload_n 0, 1) := by decide +kernel
theorem dX9_init_168 : decode cX9_init 168 = .ok (.bipush 17, 2) := by decide +kernel
theorem dX9_init_170 : decode cX9_init 170 = .ok (.newarray .long, 2) := by decide +kernel
theorem dX9_init_172 : decode cX9_init 172 = .ok (.putfield 72, 3) := by decide +kernel
theorem dX9_init_175 : decode cX9_init 175 = .ok (.aload_n 0, 1) := by decide +kernel
theorem dX9_init_176 : decode cX9_init 176 = .ok (.sipush 244, 3) := by decide +kernel
theorem dX9_init_179 : decode cX9_init 179 = .ok (.newarray .int, 2) := by decide +kernel
theorem dX9_init_181 : decode cX9_init 181 = .ok (.putfield 75, 3) := by decide +kernel
theorem dX9_init_184 : decode cX9_init 184 = .ok (.aload_n 0, 1) := by decide +kernel
theorem dX9_init_185 : decode cX9_init 185 = .ok (.sipush 180, 3) := by decide +kernel
theorem dX9_init_188 : decode cX9_init 188 = .ok (.newarray .int, 2) := by decide +kernel
theorem dX9_init_190 : decode cX9_init 190 = .ok (.putfield 78, 3) := by decide +kernel
theorem dX9_init_193 : decode cX9_init 193 = .ok (.aload_n 0, 1) := by decide +kernel
theorem dX9_init_194 : decode cX9_init 194 = .ok (.iconst 2, 1) := by decide +kernel
theorem dX9_init_195 : decode cX9_init 195 = .ok (.newarray .boolean, 2) := by decide +kernel
theorem dX9_init_197 : decode cX9_init 197 = .ok (.putfield 81, 3) := by decide +kernel
theorem dX9_init_200 : decode cX9_init 200 = .ok (.aload_n 0, 1) := by decide +kernel
theorem dX9_init_201 : decode cX9_init 201 = .ok (.getfield 31, 3) := by decide +kernel
theorem dX9_init_204 : decode cX9_init 204 = .ok (.iconst 0, 1) := by decide +kernel
theorem dX9_init_205 : decode cX9_init 205 = .ok (.bipush 90, 2) := by decide +kernel
theorem dX9_init_207 : decode cX9_init 207 = .ok (.iastore, 1) := by decide +kernel
theorem dX9_init_208 : decode cX9_init 208 = .ok (.aload_n 0, 1) := by decide +kernel
theorem dX9_init_209 : decode cX9_init 209 = .ok (.getfield 31, 3) := by decide +kernel
theorem dX9_init_212 : decode cX9_init 212 = .ok (.iconst 1, 1) := by decide +kernel
theorem dX9_init_213 : decode cX9_init 213 = .ok (.bipush 30, 2) := by decide +kernel
theorem dX9_init_215 : decode cX9_init 215 = .ok (.iastore, 1) := by decide +kernel
theorem dX9_init_216 : decode cX9_init 216 = .ok (.iconst 0, 1) := by decide +kernel
theorem dX9_init_217 : decode cX9_init 217 = .ok (.istore_n 1, 1) := by decide +kernel
theorem dX9_init_218 : decode cX9_init 218 = .ok (.iload_n 1, 1) := by decide +kernel
theorem dX9_init_219 : decode cX9_init 219 = .ok (.bipush 6, 2) := by decide +kernel
theorem dX9_init_221 : decode cX9_init 221 = .ok (.if_icmp .ge 16, 3) := by decide +kernel
theorem dX9_init_224 : decode cX9_init 224 = .ok (.aload_n 0, 1) := by decide +kernel
theorem dX9_init_225 : decode cX9_init 225 = .ok (.getfield 25, 3) := by decide +kernel
theorem dX9_init_228 : decode cX9_init 228 = .ok (.iload_n 1, 1) := by decide +kernel
theorem dX9_init_229 : decode cX9_init 229 = .ok (.iload_n 1, 1) := by decide +kernel
theorem dX9_init_230 : decode cX9_init 230 = .ok (.iastore, 1) := by decide +kernel
theorem dX9_init_231 : decode cX9_init 231 = .ok (.iinc 1 1, 3) := by decide +kernel
theorem dX9_init_234 : decode cX9_init 234 = .ok (.goto (-16), 3) := by decide +kernel
theorem dX9_init_237 : decode cX9_init 237 = .ok (.return_, 1) := by decide +kernel
theorem dX9_in_0 : decode cX9_in 0 = .ok (.lload_n 0, 1) := by decide +kernel
theorem dX9_in_1 : decode cX9_in 1 = .ok (.lload_n 2, 1) := by decide +kernel
theorem dX9_in_2 : decode cX9_in 2 = .ok (.lcmp, 1) := by decide +kernel
theorem dX9_in_3 : decode cX9_in 3 = .ok (.ifCond .lt 14, 3) := by decide +kernel
theorem dX9_in_6 : decode cX9_in 6 = .ok (.lload_n 0, 1) := by decide +kernel
theorem dX9_in_7 : decode cX9_in 7 = .ok (.lload 4, 2) := by decide +kernel
theorem dX9_in_9 : decode cX9_in 9 = .ok (.lcmp, 1) := by decide +kernel
theorem dX9_in_10 : decode cX9_in 10 = .ok (.ifCond .gt 7, 3) := by decide +kernel
theorem dX9_in_13 : decode cX9_in 13 = .ok (.iconst 1, 1) := by decide +kernel
theorem dX9_in_14 : decode cX9_in 14 = .ok (.goto 4, 3) := by decide +kernel
theorem dX9_in_17 : decode cX9_in 17 = .ok (.iconst 0, 1) := by decide +kernel
theorem dX9_in_18 : decode cX9_in 18 = .ok (.ireturn, 1) := by decide +kernel
theorem dX9_bitsOf_0 : decode cX9_bitsOf 0 = .ok (.iconst 0, 1) := by decide +kernel
theorem dX9_bitsOf_1 : decode cX9_bitsOf 1 = .ok (.istore_n 1, 1) := by decide +kernel
theorem dX9_bitsOf_2 : decode cX9_bitsOf 2 = .ok (.iload_n 0, 1) := by decide +kernel
theorem dX9_bitsOf_3 : decode cX9_bitsOf 3 = .ok (.istore_n 2, 1) := by decide +kernel
theorem dX9_bitsOf_4 : decode cX9_bitsOf 4 = .ok (.iload_n 2, 1) := by decide +kernel
theorem dX9_bitsOf_5 : decode cX9_bitsOf 5 = .ok (.ifCond .eq 15, 3) := by decide +kernel
theorem dX9_bitsOf_8 : decode cX9_bitsOf 8 = .ok (.iinc 1 1, 3) := by decide +kernel
theorem dX9_bitsOf_11 : decode cX9_bitsOf 11 = .ok (.iload_n 2, 1) := by decide +kernel
theorem dX9_bitsOf_12 : decode cX9_bitsOf 12 = .ok (.iload_n 2, 1) := by decide +kernel
theorem dX9_bitsOf_13 : decode cX9_bitsOf 13 = .ok (.iconst 1, 1) := by decide +kernel
theorem dX9_bitsOf_14 : decode cX9_bitsOf 14 = .ok (.isub, 1) := by decide +kernel
theorem dX9_bitsOf_15 : decode cX9_bitsOf 15 = .ok (.iand, 1) := by decide +kernel
theorem dX9_bitsOf_16 : decode cX9_bitsOf 16 = .ok (.istore_n 2, 1) := by decide +kernel
theorem dX9_bitsOf_17 : decode cX9_bitsOf 17 = .ok (.goto (-13), 3) := by decide +kernel
theorem dX9_bitsOf_20 : decode cX9_bitsOf 20 = .ok (.iload_n 1, 1) := by decide +kernel
theorem dX9_bitsOf_21 : decode cX9_bitsOf 21 = .ok (.ireturn, 1) := by decide +kernel
theorem dX9_isFlake_0 : decode cX9_isFlake 0 = .ok (.iload_n 1, 1) := by decide +kernel
theorem dX9_isFlake_1 : decode cX9_isFlake 1 = .ok (.i2l, 1) := by decide +kernel
theorem dX9_isFlake_2 : decode cX9_isFlake 2 = .ok (.lconst 0, 1) := by decide +kernel
theorem dX9_isFlake_3 : decode cX9_isFlake 3 = .ok (.ldc2_w 84, 3) := by decide +kernel
theorem dX9_isFlake_6 : decode cX9_isFlake 6 = .ok (.invokestatic 86, 3) := by decide +kernel
theorem dX9_isFlake_9 : decode cX9_isFlake 9 = .ok (.ifCond .eq 19, 3) := by decide +kernel
theorem dX9_isFlake_12 : decode cX9_isFlake 12 = .ok (.aload_n 0, 1) := by decide +kernel
theorem dX9_isFlake_13 : decode cX9_isFlake 13 = .ok (.getfield 90, 3) := by decide +kernel
theorem dX9_isFlake_16 : decode cX9_isFlake 16 = .ok (.iload_n 1, 1) := by decide +kernel
theorem dX9_isFlake_17 : decode cX9_isFlake 17 = .ok (.ishr, 1) := by decide +kernel
theorem dX9_isFlake_18 : decode cX9_isFlake 18 = .ok (.iconst 1, 1) := by decide +kernel
theorem dX9_isFlake_19 : decode cX9_isFlake 19 = .ok (.iand, 1) := by decide +kernel
theorem dX9_isFlake_20 : decode cX9_isFlake 20 = .ok (.iconst 1, 1) := by decide +kernel
theorem dX9_isFlake_21 : decode cX9_isFlake 21 = .ok (.if_icmp .ne 7, 3) := by decide +kernel
theorem dX9_isFlake_24 : decode cX9_isFlake 24 = .ok (.iconst 1, 1) := by decide +kernel
theorem dX9_isFlake_25 : decode cX9_isFlake 25 = .ok (.goto 4, 3) := by decide +kernel
theorem dX9_isFlake_28 : decode cX9_isFlake 28 = .ok (.iconst 0, 1) := by decide +kernel
theorem dX9_isFlake_29 : decode cX9_isFlake 29 = .ok (.ireturn, 1) := by decide +kernel
theorem dX9_isOne_0 : decode cX9_isOne 0 = .ok (.iload_n 0, 1) := by decide +kernel
theorem dX9_isOne_1 : decode cX9_isOne 1 = .ok (.i2l, 1) := by decide +kernel
theorem dX9_isOne_2 : decode cX9_isOne 2 = .ok (.lconst 0, 1) := by decide +kernel
theorem dX9_isOne_3 : decode cX9_isOne 3 = .ok (.ldc2_w 94, 3) := by decide +kernel
theorem dX9_isOne_6 : decode cX9_isOne 6 = .ok (.invokestatic 86, 3) := by decide +kernel
theorem dX9_isOne_9 : decode cX9_isOne 9 = .ok (.ireturn, 1) := by decide +kernel
theorem dX9_isArm_0 : decode cX9_isArm 0 = .ok (.iload_n 0, 1) := by decide +kernel
theorem dX9_isArm_1 : decode cX9_isArm 1 = .ok (.i2l, 1) := by decide +kernel
theorem dX9_isArm_2 : decode cX9_isArm 2 = .ok (.lconst 0, 1) := by decide +kernel
theorem dX9_isArm_3 : decode cX9_isArm 3 = .ok (.ldc2_w 96, 3) := by decide +kernel
theorem dX9_isArm_6 : decode cX9_isArm 6 = .ok (.invokestatic 86, 3) := by decide +kernel
theorem dX9_isArm_9 : decode cX9_isArm 9 = .ok (.ireturn, 1) := by decide +kernel
theorem dX9_flake_0 : decode cX9_flake 0 = .ok (.iload_n 1, 1) := by decide +kernel
theorem dX9_flake_1 : decode cX9_flake 1 = .ok (.i2l, 1) := by decide +kernel
theorem dX9_flake_2 : decode cX9_flake 2 = .ok (.lconst 0, 1) := by decide +kernel
theorem dX9_flake_3 : decode cX9_flake 3 = .ok (.ldc2_w 84, 3) := by decide +kernel
theorem dX9_flake_6 : decode cX9_flake 6 = .ok (.invokestatic 86, 3) := by decide +kernel
theorem dX9_flake_9 : decode cX9_flake 9 = .ok (.ifCond .eq 11, 3) := by decide +kernel
theorem dX9_flake_12 : decode cX9_flake 12 = .ok (.iload 5, 2) := by decide +kernel
theorem dX9_flake_14 : decode cX9_flake 14 = .ok (.invokestatic 98, 3) := by decide +kernel
theorem dX9_flake_17 : decode cX9_flake 17 = .ok (.ifCond .ne 5, 3) := by decide +kernel
theorem dX9_flake_20 : decode cX9_flake 20 = .ok (.iconst (-1), 1) := by decide +kernel
theorem dX9_flake_21 : decode cX9_flake 21 = .ok (.ireturn, 1) := by decide +kernel
theorem dX9_flake_22 : decode cX9_flake 22 = .ok (.iload_n 2, 1) := by decide +kernel
theorem dX9_flake_23 : decode cX9_flake 23 = .ok (.invokestatic 102, 3) := by decide +kernel
theorem dX9_flake_26 : decode cX9_flake 26 = .ok (.ifCond .eq 28, 3) := by decide +kernel
theorem dX9_flake_29 : decode cX9_flake 29 = .ok (.iload_n 3, 1) := by decide +kernel
theorem dX9_flake_30 : decode cX9_flake 30 = .ok (.i2l, 1) := by decide +kernel
theorem dX9_flake_31 : decode cX9_flake 31 = .ok (.lconst 0, 1) := by decide +kernel
theorem dX9_flake_32 : decode cX9_flake 32 = .ok (.ldc2_w 105, 3) := by decide +kernel
theorem dX9_flake_35 : decode cX9_flake 35 = .ok (.invokestatic 86, 3) := by decide +kernel
theorem dX9_flake_38 : decode cX9_flake 38 = .ok (.ifCond .eq 16, 3) := by decide +kernel
theorem dX9_flake_41 : decode cX9_flake 41 = .ok (.iload 4, 2) := by decide +kernel
theorem dX9_flake_43 : decode cX9_flake 43 = .ok (.i2l, 1) := by decide +kernel
theorem dX9_flake_44 : decode cX9_flake 44 = .ok (.lconst 0, 1) := by decide +kernel
theorem dX9_flake_45 : decode cX9_flake 45 = .ok (.ldc2_w 107, 3) := by decide +kernel
theorem dX9_flake_48 : decode cX9_flake 48 = .ok (.invokestatic 86, 3) := by decide +kernel
theorem dX9_flake_51 : decode cX9_flake 51 = .ok (.ifCond .ne 6, 3) := by decide +kernel
theorem dX9_flake_54 : decode cX9_flake 54 = .ok (.bipush (-2), 2) := by decide +kernel
theorem dX9_flake_56 : decode cX9_flake 56 = .ok (.ireturn, 1) := by decide +kernel
theorem dX9_flake_57 : decode cX9_flake 57 = .ok (.aload_n 0, 1) := by decide +kernel
theorem dX9_flake_58 : decode cX9_flake 58 = .ok (.dup, 1) := by decide +kernel
theorem dX9_flake_59 : decode cX9_flake 59 = .ok (.getfield 90, 3) := by decide +kernel
theorem dX9_flake_62 : decode cX9_flake 62 = .ok (.iconst 1, 1) := by decide +kernel
theorem dX9_flake_63 : decode cX9_flake 63 = .ok (.iload_n 1, 1) := by decide +kernel
theorem dX9_flake_64 : decode cX9_flake 64 = .ok (.ishl, 1) := by decide +kernel
theorem dX9_flake_65 : decode cX9_flake 65 = .ok (.ior, 1) := by decide +kernel
theorem dX9_flake_66 : decode cX9_flake 66 = .ok (.putfield 90, 3) := by decide +kernel
theorem dX9_flake_69 : decode cX9_flake 69 = .ok (.aload_n 0, 1) := by decide +kernel
theorem dX9_flake_70 : decode cX9_flake 70 = .ok (.getfield 7, 3) := by decide +kernel
theorem dX9_flake_73 : decode cX9_flake 73 = .ok (.iload_n 1, 1) := by decide +kernel
theorem dX9_flake_74 : decode cX9_flake 74 = .ok (.iload_n 2, 1) := by decide +kernel
theorem dX9_flake_75 : decode cX9_flake 75 = .ok (.iastore, 1) := by decide +kernel
theorem dX9_flake_76 : decode cX9_flake 76 = .ok (.aload_n 0, 1) := by decide +kernel
theorem dX9_flake_77 : decode cX9_flake 77 = .ok (.getfield 13, 3) := by decide +kernel
theorem dX9_flake_80 : decode cX9_flake 80 = .ok (.iload_n 1, 1) := by decide +kernel
theorem dX9_flake_81 : decode cX9_flake 81 = .ok (.iload_n 3, 1) := by decide +kernel
theorem dX9_flake_82 : decode cX9_flake 82 = .ok (.iastore, 1) := by decide +kernel
theorem dX9_flake_83 : decode cX9_flake 83 = .ok (.aload_n 0, 1) := by decide +kernel
theorem dX9_flake_84 : decode cX9_flake 84 = .ok (.getfield 16, 3) := by decide +kernel
theorem dX9_flake_87 : decode cX9_flake 87 = .ok (.iload_n 1, 1) := by decide +kernel
theorem dX9_flake_88 : decode cX9_flake 88 = .ok (.iload 4, 2) := by decide +kernel
theorem dX9_flake_90 : decode cX9_flake 90 = .ok (.iastore, 1) := by decide +kernel
theorem dX9_flake_91 : decode cX9_flake 91 = .ok (.aload_n 0, 1) := by decide +kernel
theorem dX9_flake_92 : decode cX9_flake 92 = .ok (.getfield 19, 3) := by decide +kernel
theorem dX9_flake_95 : decode cX9_flake 95 = .ok (.iload_n 1, 1) := by decide +kernel
theorem dX9_flake_96 : decode cX9_flake 96 = .ok (.iload 5, 2) := by decide +kernel
theorem dX9_flake_98 : decode cX9_flake 98 = .ok (.iastore, 1) := by decide +kernel
theorem dX9_flake_99 : decode cX9_flake 99 = .ok (.aload_n 0, 1) := by decide +kernel
theorem dX9_flake_100 : decode cX9_flake 100 = .ok (.getfield 22, 3) := by decide +kernel
theorem dX9_flake_103 : decode cX9_flake 103 = .ok (.iload_n 1, 1) := by decide +kernel
theorem dX9_flake_104 : decode cX9_flake 104 = .ok (.bipush (-6), 2) := by decide +kernel
theorem dX9_flake_106 : decode cX9_flake 106 = .ok (.iastore, 1) := by decide +kernel
theorem dX9_flake_107 : decode cX9_flake 107 = .ok (.aload_n 0, 1) := by decide +kernel
theorem dX9_flake_108 : decode cX9_flake 108 = .ok (.getfield 90, 3) := by decide +kernel
theorem dX9_flake_111 : decode cX9_flake 111 = .ok (.invokestatic 109, 3) := by decide +kernel
theorem dX9_flake_114 : decode cX9_flake 114 = .ok (.ireturn, 1) := by decide +kernel
theorem dX9_melt_0 : decode cX9_melt 0 = .ok (.aload_n 0, 1) := by decide +kernel
theorem dX9_melt_1 : decode cX9_melt 1 = .ok (.iload_n 1, 1) := by decide +kernel
theorem dX9_melt_2 : decode cX9_melt 2 = .ok (.invokevirtual 113, 3) := by decide +kernel
theorem dX9_melt_5 : decode cX9_melt 5 = .ok (.ifCond .ne 5, 3) := by decide +kernel
theorem dX9_melt_8 : decode cX9_melt 8 = .ok (.iconst (-1), 1) := by decide +kernel
theorem dX9_melt_9 : decode cX9_melt 9 = .ok (.ireturn, 1) := by decide +kernel
theorem dX9_melt_10 : decode cX9_melt 10 = .ok (.aload_n 0, 1) := by decide +kernel
theorem dX9_melt_11 : decode cX9_melt 11 = .ok (.dup, 1) := by decide +kernel
theorem dX9_melt_12 : decode cX9_melt 12 = .ok (.getfield 90, 3) := by decide +kernel
theorem dX9_melt_15 : decode cX9_melt 15 = .ok (.iconst 1, 1) := by decide +kernel
theorem dX9_melt_16 : decode cX9_melt 16 = .ok (.iload_n 1, 1) := by decide +kernel
theorem dX9_melt_17 : decode cX9_melt 17 = .ok (.ishl, 1) := by decide +kernel
theorem dX9_melt_18 : decode cX9_melt 18 = .ok (.iconst (-1), 1) := by decide +kernel
theorem dX9_melt_19 : decode cX9_melt 19 = .ok (.ixor, 1) := by decide +kernel
theorem dX9_melt_20 : decode cX9_melt 20 = .ok (.iand, 1) := by decide +kernel
theorem dX9_melt_21 : decode cX9_melt 21 = .ok (.putfield 90, 3) := by decide +kernel
theorem dX9_melt_24 : decode cX9_melt 24 = .ok (.aload_n 0, 1) := by decide +kernel
theorem dX9_melt_25 : decode cX9_melt 25 = .ok (.getfield 90, 3) := by decide +kernel
theorem dX9_melt_28 : decode cX9_melt 28 = .ok (.invokestatic 109, 3) := by decide +kernel
theorem dX9_melt_31 : decode cX9_melt 31 = .ok (.ireturn, 1) := by decide +kernel
theorem dX9_stand_0 : decode cX9_stand 0 = .ok (.iload_n 1, 1) := by decide +kernel
theorem dX9_stand_1 : decode cX9_stand 1 = .ok (.invokestatic 98, 3) := by decide +kernel
theorem dX9_stand_4 : decode cX9_stand 4 = .ok (.ifCond .ne 5, 3) := by decide +kernel
theorem dX9_stand_7 : decode cX9_stand 7 = .ok (.iconst (-1), 1) := by decide +kernel
theorem dX9_stand_8 : decode cX9_stand 8 = .ok (.ireturn, 1) := by decide +kernel
theorem dX9_stand_9 : decode cX9_stand 9 = .ok (.iload_n 2, 1) := by decide +kernel
theorem dX9_stand_10 : decode cX9_stand 10 = .ok (.i2l, 1) := by decide +kernel
theorem dX9_stand_11 : decode cX9_stand 11 = .ok (.lconst 0, 1) := by decide +kernel
theorem dX9_stand_12 : decode cX9_stand 12 = .ok (.ldc2_w 105, 3) := by decide +kernel
theorem dX9_stand_15 : decode cX9_stand 15 = .ok (.invokestatic 86, 3) := by decide +kernel
theorem dX9_stand_18 : decode cX9_stand 18 = .ok (.ifCond .ne 6, 3) := by decide +kernel
theorem dX9_stand_21 : decode cX9_stand 21 = .ok (.bipush (-2), 2) := by decide +kernel
theorem dX9_stand_23 : decode cX9_stand 23 = .ok (.ireturn, 1) := by decide +kernel
theorem dX9_stand_24 : decode cX9_stand 24 = .ok (.aload_n 0, 1) := by decide +kernel
theorem dX9_stand_25 : decode cX9_stand 25 = .ok (.getfield 25, 3) := by decide +kernel
theorem dX9_stand_28 : decode cX9_stand 28 = .ok (.iload_n 1, 1) := by decide +kernel
theorem dX9_stand_29 : decode cX9_stand 29 = .ok (.iaload, 1) := by decide +kernel
theorem dX9_stand_30 : decode cX9_stand 30 = .ok (.istore_n 3, 1) := by decide +kernel
theorem dX9_stand_31 : decode cX9_stand 31 = .ok (.aload_n 0, 1) := by decide +kernel
theorem dX9_stand_32 : decode cX9_stand 32 = .ok (.getfield 25, 3) := by decide +kernel
theorem dX9_stand_35 : decode cX9_stand 35 = .ok (.iload_n 1, 1) := by decide +kernel
theorem dX9_stand_36 : decode cX9_stand 36 = .ok (.iload_n 2, 1) := by decide +kernel
theorem dX9_stand_37 : decode cX9_stand 37 = .ok (.iastore, 1) := by decide +kernel
theorem dX9_stand_38 : decode cX9_stand 38 = .ok (.aload_n 0, 1) := by decide +kernel
theorem dX9_stand_39 : decode cX9_stand 39 = .ok (.getfield 28, 3) := by decide +kernel
theorem dX9_stand_42 : decode cX9_stand 42 = .ok (.iload_n 1, 1) := by decide +kernel
theorem dX9_stand_43 : decode cX9_stand 43 = .ok (.iconst 0, 1) := by decide +kernel
theorem dX9_stand_44 : decode cX9_stand 44 = .ok (.iastore, 1) := by decide +kernel
theorem dX9_stand_45 : decode cX9_stand 45 = .ok (.iload_n 3, 1) := by decide +kernel
theorem dX9_stand_46 : decode cX9_stand 46 = .ok (.ireturn, 1) := by decide +kernel
theorem dX9_air_0 : decode cX9_air 0 = .ok (.iload_n 1, 1) := by decide +kernel
theorem dX9_air_1 : decode cX9_air 1 = .ok (.i2l, 1) := by decide +kernel
theorem dX9_air_2 : decode cX9_air 2 = .ok (.lconst 0, 1) := by decide +kernel
theorem dX9_air_3 : decode cX9_air 3 = .ok (.lconst 1, 1) := by decide +kernel
theorem dX9_air_4 : decode cX9_air 4 = .ok (.invokestatic 86, 3) := by decide +kernel
theorem dX9_air_7 : decode cX9_air 7 = .ok (.ifCond .eq 15, 3) := by decide +kernel
theorem dX9_air_10 : decode cX9_air 10 = .ok (.iload_n 2, 1) := by decide +kernel
theorem dX9_air_11 : decode cX9_air 11 = .ok (.i2l, 1) := by decide +kernel
theorem dX9_air_12 : decode cX9_air 12 = .ok (.lconst 0, 1) := by decide +kernel
theorem dX9_air_13 : decode cX9_air 13 = .ok (.ldc2_w 96, 3) := by decide +kernel
theorem dX9_air_16 : decode cX9_air 16 = .ok (.invokestatic 86, 3) := by decide +kernel
theorem dX9_air_19 : decode cX9_air 19 = .ok (.ifCond .ne 6, 3) := by decide +kernel
theorem dX9_air_22 : decode cX9_air 22 = .ok (.bipush (-2), 2) := by decide +kernel
theorem dX9_air_24 : decode cX9_air 24 = .ok (.ireturn, 1) := by decide +kernel
theorem dX9_air_25 : decode cX9_air 25 = .ok (.aload_n 0, 1) := by decide +kernel
theorem dX9_air_26 : decode cX9_air 26 = .ok (.getfield 31, 3) := by decide +kernel
theorem dX9_air_29 : decode cX9_air 29 = .ok (.iload_n 1, 1) := by decide +kernel
theorem dX9_air_30 : decode cX9_air 30 = .ok (.iaload, 1) := by decide +kernel
theorem dX9_air_31 : decode cX9_air 31 = .ok (.istore_n 3, 1) := by decide +kernel
theorem dX9_air_32 : decode cX9_air 32 = .ok (.aload_n 0, 1) := by decide +kernel
theorem dX9_air_33 : decode cX9_air 33 = .ok (.getfield 31, 3) := by decide +kernel
theorem dX9_air_36 : decode cX9_air 36 = .ok (.iload_n 1, 1) := by decide +kernel
theorem dX9_air_37 : decode cX9_air 37 = .ok (.iload_n 2, 1) := by decide +kernel
theorem dX9_air_38 : decode cX9_air 38 = .ok (.iastore, 1) := by decide +kernel
theorem dX9_air_39 : decode cX9_air 39 = .ok (.iload_n 3, 1) := by decide +kernel
theorem dX9_air_40 : decode cX9_air 40 = .ok (.ireturn, 1) := by decide +kernel
theorem dX9_say_0 : decode cX9_say 0 = .ok (.iload_n 1, 1) := by decide +kernel
theorem dX9_say_1 : decode cX9_say 1 = .ok (.i2l, 1) := by decide +kernel
theorem dX9_say_2 : decode cX9_say 2 = .ok (.ldc2_w 116, 3) := by decide +kernel
theorem dX9_say_5 : decode cX9_say 5 = .ok (.ldc2_w 118, 3) := by decide +kernel
theorem dX9_say_8 : decode cX9_say 8 = .ok (.invokestatic 86, 3) := by decide +kernel
theorem dX9_say_11 : decode cX9_say 11 = .ok (.ifCond .ne 6, 3) := by decide +kernel
theorem dX9_say_14 : decode cX9_say 14 = .ok (.bipush (-2), 2) := by decide +kernel
theorem dX9_say_16 : decode cX9_say 16 = .ok (.ireturn, 1) := by decide +kernel
theorem dX9_say_17 : decode cX9_say 17 = .ok (.aload_n 0, 1) := by decide +kernel
theorem dX9_say_18 : decode cX9_say 18 = .ok (.getfield 120, 3) := by decide +kernel
theorem dX9_say_21 : decode cX9_say 21 = .ok (.bipush 60, 2) := by decide +kernel
theorem dX9_say_23 : decode cX9_say 23 = .ok (.if_icmp .ne 6, 3) := by decide +kernel
theorem dX9_say_26 : decode cX9_say 26 = .ok (.bipush (-4), 2) := by decide +kernel
theorem dX9_say_28 : decode cX9_say 28 = .ok (.ireturn, 1) := by decide +kernel
theorem dX9_say_29 : decode cX9_say 29 = .ok (.aload_n 0, 1) := by decide +kernel
theorem dX9_say_30 : decode cX9_say 30 = .ok (.getfield 40, 3) := by decide +kernel
theorem dX9_say_33 : decode cX9_say 33 = .ok (.aload_n 0, 1) := by decide +kernel
theorem dX9_say_34 : decode cX9_say 34 = .ok (.getfield 120, 3) := by decide +kernel
theorem dX9_say_37 : decode cX9_say 37 = .ok (.iload_n 1, 1) := by decide +kernel
theorem dX9_say_38 : decode cX9_say 38 = .ok (.iastore, 1) := by decide +kernel
theorem dX9_say_39 : decode cX9_say 39 = .ok (.aload_n 0, 1) := by decide +kernel
theorem dX9_say_40 : decode cX9_say 40 = .ok (.dup, 1) := by decide +kernel
theorem dX9_say_41 : decode cX9_say 41 = .ok (.getfield 120, 3) := by decide +kernel
theorem dX9_say_44 : decode cX9_say 44 = .ok (.iconst 1, 1) := by decide +kernel
theorem dX9_say_45 : decode cX9_say 45 = .ok (.iadd, 1) := by decide +kernel
theorem dX9_say_46 : decode cX9_say 46 = .ok (.putfield 120, 3) := by decide +kernel
theorem dX9_say_49 : decode cX9_say 49 = .ok (.aload_n 0, 1) := by decide +kernel
theorem dX9_say_50 : decode cX9_say 50 = .ok (.getfield 120, 3) := by decide +kernel
theorem dX9_say_53 : decode cX9_say 53 = .ok (.ireturn, 1) := by decide +kernel
theorem dX9_wipe_0 : decode cX9_wipe 0 = .ok (.aload_n 0, 1) := by decide +kernel
theorem dX9_wipe_1 : decode cX9_wipe 1 = .ok (.getfield 120, 3) := by decide +kernel
theorem dX9_wipe_4 : decode cX9_wipe 4 = .ok (.istore_n 1, 1) := by decide +kernel
theorem dX9_wipe_5 : decode cX9_wipe 5 = .ok (.aload_n 0, 1) := by decide +kernel
theorem dX9_wipe_6 : decode cX9_wipe 6 = .ok (.iconst 0, 1) := by decide +kernel
theorem dX9_wipe_7 : decode cX9_wipe 7 = .ok (.putfield 120, 3) := by decide +kernel
theorem dX9_wipe_10 : decode cX9_wipe 10 = .ok (.iload_n 1, 1) := by decide +kernel
theorem dX9_wipe_11 : decode cX9_wipe 11 = .ok (.ireturn, 1) := by decide +kernel
theorem dX9_close_0 : decode cX9_close 0 = .ok (.aload_n 0, 1) := by decide +kernel
theorem dX9_close_1 : decode cX9_close 1 = .ok (.getfield 43, 3) := by decide +kernel
theorem dX9_close_4 : decode cX9_close 4 = .ok (.aload_n 0, 1) := by decide +kernel
theorem dX9_close_5 : decode cX9_close 5 = .ok (.getfield 123, 3) := by decide +kernel
theorem dX9_close_8 : decode cX9_close 8 = .ok (.iload_n 1, 1) := by decide +kernel
theorem dX9_close_9 : decode cX9_close 9 = .ok (.iastore, 1) := by decide +kernel
theorem dX9_close_10 : decode cX9_close 10 = .ok (.aload_n 0, 1) := by decide +kernel
theorem dX9_close_11 : decode cX9_close 11 = .ok (.dup, 1) := by decide +kernel
theorem dX9_close_12 : decode cX9_close 12 = .ok (.getfield 123, 3) := by decide +kernel
theorem dX9_close_15 : decode cX9_close 15 = .ok (.iconst 1, 1) := by decide +kernel
theorem dX9_close_16 : decode cX9_close 16 = .ok (.iadd, 1) := by decide +kernel
theorem dX9_close_17 : decode cX9_close 17 = .ok (.putfield 123, 3) := by decide +kernel
theorem dX9_close_20 : decode cX9_close 20 = .ok (.iconst 0, 1) := by decide +kernel
theorem dX9_close_21 : decode cX9_close 21 = .ok (.ireturn, 1) := by decide +kernel
theorem dX9_readOn_0 : decode cX9_readOn 0 = .ok (.iload_n 1, 1) := by decide +kernel
theorem dX9_readOn_1 : decode cX9_readOn 1 = .ok (.iconst 1, 1) := by decide +kernel
theorem dX9_readOn_2 : decode cX9_readOn 2 = .ok (.if_icmp .ne 50, 3) := by decide +kernel
theorem dX9_readOn_5 : decode cX9_readOn 5 = .ok (.iload_n 2, 1) := by decide +kernel
theorem dX9_readOn_6 : decode cX9_readOn 6 = .ok (.bipush 60, 2) := by decide +kernel
theorem dX9_readOn_8 : decode cX9_readOn 8 = .ok (.if_icmp .ne 11, 3) := by decide +kernel
theorem dX9_readOn_11 : decode cX9_readOn 11 = .ok (.aload_n 0, 1) := by decide +kernel
theorem dX9_readOn_12 : decode cX9_readOn 12 = .ok (.iconst 5, 1) := by decide +kernel
theorem dX9_readOn_13 : decode cX9_readOn 13 = .ok (.invokevirtual 126, 3) := by decide +kernel
theorem dX9_readOn_16 : decode cX9_readOn 16 = .ok (.goto 35, 3) := by decide +kernel
theorem dX9_readOn_19 : decode cX9_readOn 19 = .ok (.iload_n 2, 1) := by decide +kernel
theorem dX9_readOn_20 : decode cX9_readOn 20 = .ok (.bipush 62, 2) := by decide +kernel
theorem dX9_readOn_22 : decode cX9_readOn 22 = .ok (.if_icmp .ne 12, 3) := by decide +kernel
theorem dX9_readOn_25 : decode cX9_readOn 25 = .ok (.aload_n 0, 1) := by decide +kernel
theorem dX9_readOn_26 : decode cX9_readOn 26 = .ok (.bipush 6, 2) := by decide +kernel
theorem dX9_readOn_28 : decode cX9_readOn 28 = .ok (.invokevirtual 126, 3) := by decide +kernel
theorem dX9_readOn_31 : decode cX9_readOn 31 = .ok (.goto 20, 3) := by decide +kernel
theorem dX9_readOn_34 : decode cX9_readOn 34 = .ok (.iload_n 2, 1) := by decide +kernel
theorem dX9_readOn_35 : decode cX9_readOn 35 = .ok (.bipush 117, 2) := by decide +kernel
theorem dX9_readOn_37 : decode cX9_readOn 37 = .ok (.if_icmp .ne 12, 3) := by decide +kernel
theorem dX9_readOn_40 : decode cX9_readOn 40 = .ok (.aload_n 0, 1) := by decide +kernel
theorem dX9_readOn_41 : decode cX9_readOn 41 = .ok (.bipush 7, 2) := by decide +kernel
theorem dX9_readOn_43 : decode cX9_readOn 43 = .ok (.invokevirtual 126, 3) := by decide +kernel
theorem dX9_readOn_46 : decode cX9_readOn 46 = .ok (.goto 5, 3) := by decide +kernel
theorem dX9_readOn_49 : decode cX9_readOn 49 = .ok (.bipush (-6), 2) := by decide +kernel
theorem dX9_readOn_51 : decode cX9_readOn 51 = .ok (.ireturn, 1) := by decide +kernel
theorem dX9_readOn_52 : decode cX9_readOn 52 = .ok (.iload_n 2, 1) := by decide +kernel
theorem dX9_readOn_53 : decode cX9_readOn 53 = .ok (.i2l, 1) := by decide +kernel
theorem dX9_readOn_54 : decode cX9_readOn 54 = .ok (.ldc2_w 129, 3) := by decide +kernel
theorem dX9_readOn_57 : decode cX9_readOn 57 = .ok (.ldc2_w 131, 3) := by decide +kernel
theorem dX9_readOn_60 : decode cX9_readOn 60 = .ok (.invokestatic 86, 3) := by decide +kernel
theorem dX9_readOn_63 : decode cX9_readOn 63 = .ok (.istore_n 3, 1) := by decide +kernel
theorem dX9_readOn_64 : decode cX9_readOn 64 = .ok (.aload_n 0, 1) := by decide +kernel
theorem dX9_readOn_65 : decode cX9_readOn 65 = .ok (.getfield 46, 3) := by decide +kernel
theorem dX9_readOn_68 : decode cX9_readOn 68 = .ok (.aload_n 0, 1) := by decide +kernel
theorem dX9_readOn_69 : decode cX9_readOn 69 = .ok (.getfield 123, 3) := by decide +kernel
theorem dX9_readOn_72 : decode cX9_readOn 72 = .ok (.iload_n 3, 1) := by decide +kernel
theorem dX9_readOn_73 : decode cX9_readOn 73 = .ok (.ifCond .eq 10, 3) := by decide +kernel
theorem dX9_readOn_76 : decode cX9_readOn 76 = .ok (.iload_n 2, 1) := by decide +kernel
theorem dX9_readOn_77 : decode cX9_readOn 77 = .ok (.bipush 65, 2) := by decide +kernel
theorem dX9_readOn_79 : decode cX9_readOn 79 = .ok (.isub, 1) := by decide +kernel
theorem dX9_readOn_80 : decode cX9_readOn 80 = .ok (.goto 4, 3) := by decide +kernel
theorem dX9_readOn_83 : decode cX9_readOn 83 = .ok (.iconst 0, 1) := by decide +kernel
theorem dX9_readOn_84 : decode cX9_readOn 84 = .ok (.iastore, 1) := by decide +kernel
theorem dX9_readOn_85 : decode cX9_readOn 85 = .ok (.iload_n 2, 1) := by decide +kernel
theorem dX9_readOn_86 : decode cX9_readOn 86 = .ok (.lookupswitch 80 #[(46, 74), (60, 62), (62, 68), (99, 50), (100, 56)], 50) := by decide +kernel
theorem dX9_readOn_136 : decode cX9_readOn 136 = .ok (.aload_n 0, 1) := by decide +kernel
theorem dX9_readOn_137 : decode cX9_readOn 137 = .ok (.iconst 0, 1) := by decide +kernel
theorem dX9_readOn_138 : decode cX9_readOn 138 = .ok (.invokevirtual 126, 3) := by decide +kernel
theorem dX9_readOn_141 : decode cX9_readOn 141 = .ok (.ireturn, 1) := by decide +kernel
theorem dX9_readOn_142 : decode cX9_readOn 142 = .ok (.aload_n 0, 1) := by decide +kernel
theorem dX9_readOn_143 : decode cX9_readOn 143 = .ok (.iconst 1, 1) := by decide +kernel
theorem dX9_readOn_144 : decode cX9_readOn 144 = .ok (.invokevirtual 126, 3) := by decide +kernel
theorem dX9_readOn_147 : decode cX9_readOn 147 = .ok (.ireturn, 1) := by decide +kernel
theorem dX9_readOn_148 : decode cX9_readOn 148 = .ok (.aload_n 0, 1) := by decide +kernel
theorem dX9_readOn_149 : decode cX9_readOn 149 = .ok (.iconst 2, 1) := by decide +kernel
theorem dX9_readOn_150 : decode cX9_readOn 150 = .ok (.invokevirtual 126, 3) := by decide +kernel
theorem dX9_readOn_153 : decode cX9_readOn 153 = .ok (.ireturn, 1) := by decide +kernel
theorem dX9_readOn_154 : decode cX9_readOn 154 = .ok (.aload_n 0, 1) := by decide +kernel
theorem dX9_readOn_155 : decode cX9_readOn 155 = .ok (.iconst 3, 1) := by decide +kernel
theorem dX9_readOn_156 : decode cX9_readOn 156 = .ok (.invokevirtual 126, 3) := by decide +kernel
theorem dX9_readOn_159 : decode cX9_readOn 159 = .ok (.ireturn, 1) := by decide +kernel
theorem dX9_readOn_160 : decode cX9_readOn 160 = .ok (.aload_n 0, 1) := by decide +kernel
theorem dX9_readOn_161 : decode cX9_readOn 161 = .ok (.iconst 4, 1) := by decide +kernel
theorem dX9_readOn_162 : decode cX9_readOn 162 = .ok (.invokevirtual 126, 3) := by decide +kernel
theorem dX9_readOn_165 : decode cX9_readOn 165 = .ok (.ireturn, 1) := by decide +kernel
theorem dX9_readOn_166 : decode cX9_readOn 166 = .ok (.iload_n 3, 1) := by decide +kernel
theorem dX9_readOn_167 : decode cX9_readOn 167 = .ok (.ifCond .eq 7, 3) := by decide +kernel
theorem dX9_readOn_170 : decode cX9_readOn 170 = .ok (.iconst 1, 1) := by decide +kernel
theorem dX9_readOn_171 : decode cX9_readOn 171 = .ok (.goto 5, 3) := by decide +kernel
theorem dX9_readOn_174 : decode cX9_readOn 174 = .ok (.bipush (-6), 2) := by decide +kernel
theorem dX9_readOn_176 : decode cX9_readOn 176 = .ok (.ireturn, 1) := by decide +kernel
theorem dX9_fault_0 : decode cX9_fault 0 = .ok (.aload_n 0, 1) := by decide +kernel
theorem dX9_fault_1 : decode cX9_fault 1 = .ok (.iconst 0, 1) := by decide +kernel
theorem dX9_fault_2 : decode cX9_fault 2 = .ok (.putfield 123, 3) := by decide +kernel
theorem dX9_fault_5 : decode cX9_fault 5 = .ok (.iconst 0, 1) := by decide +kernel
theorem dX9_fault_6 : decode cX9_fault 6 = .ok (.istore_n 1, 1) := by decide +kernel
theorem dX9_fault_7 : decode cX9_fault 7 = .ok (.iconst 0, 1) := by decide +kernel
theorem dX9_fault_8 : decode cX9_fault 8 = .ok (.istore_n 2, 1) := by decide +kernel
theorem dX9_fault_9 : decode cX9_fault 9 = .ok (.iload_n 2, 1) := by decide +kernel
theorem dX9_fault_10 : decode cX9_fault 10 = .ok (.aload_n 0, 1) := by decide +kernel
theorem dX9_fault_11 : decode cX9_fault 11 = .ok (.getfield 120, 3) := by decide +kernel
theorem dX9_fault_14 : decode cX9_fault 14 = .ok (.if_icmp .ge 27, 3) := by decide +kernel
theorem dX9_fault_17 : decode cX9_fault 17 = .ok (.aload_n 0, 1) := by decide +kernel
theorem dX9_fault_18 : decode cX9_fault 18 = .ok (.iload_n 1, 1) := by decide +kernel
theorem dX9_fault_19 : decode cX9_fault 19 = .ok (.aload_n 0, 1) := by decide +kernel
theorem dX9_fault_20 : decode cX9_fault 20 = .ok (.getfield 40, 3) := by decide +kernel
theorem dX9_fault_23 : decode cX9_fault 23 = .ok (.iload_n 2, 1) := by decide +kernel
theorem dX9_fault_24 : decode cX9_fault 24 = .ok (.iaload, 1) := by decide +kernel
theorem dX9_fault_25 : decode cX9_fault 25 = .ok (.invokevirtual 133, 3) := by decide +kernel
theorem dX9_fault_28 : decode cX9_fault 28 = .ok (.istore_n 1, 1) := by decide +kernel
theorem dX9_fault_29 : decode cX9_fault 29 = .ok (.iload_n 1, 1) := by decide +kernel
theorem dX9_fault_30 : decode cX9_fault 30 = .ok (.ifCond .ge 5, 3) := by decide +kernel
theorem dX9_fault_33 : decode cX9_fault 33 = .ok (.iload_n 2, 1) := by decide +kernel
theorem dX9_fault_34 : decode cX9_fault 34 = .ok (.ireturn, 1) := by decide +kernel
theorem dX9_fault_35 : decode cX9_fault 35 = .ok (.iinc 2 1, 3) := by decide +kernel
theorem dX9_fault_38 : decode cX9_fault 38 = .ok (.goto (-29), 3) := by decide +kernel
theorem dX9_fault_41 : decode cX9_fault 41 = .ok (.iload_n 1, 1) := by decide +kernel
theorem dX9_fault_42 : decode cX9_fault 42 = .ok (.ifCond .ne 8, 3) := by decide +kernel
theorem dX9_fault_45 : decode cX9_fault 45 = .ok (.bipush (-6), 2) := by decide +kernel
theorem dX9_fault_47 : decode cX9_fault 47 = .ok (.goto 7, 3) := by decide +kernel
theorem dX9_fault_50 : decode cX9_fault 50 = .ok (.aload_n 0, 1) := by decide +kernel
theorem dX9_fault_51 : decode cX9_fault 51 = .ok (.getfield 120, 3) := by decide +kernel
theorem dX9_fault_54 : decode cX9_fault 54 = .ok (.ireturn, 1) := by decide +kernel
theorem dX9_isAbove_0 : decode cX9_isAbove 0 = .ok (.aload_n 0, 1) := by decide +kernel
theorem dX9_isAbove_1 : decode cX9_isAbove 1 = .ok (.iload_n 1, 1) := by decide +kernel
theorem dX9_isAbove_2 : decode cX9_isAbove 2 = .ok (.invokevirtual 113, 3) := by decide +kernel
theorem dX9_isAbove_5 : decode cX9_isAbove 5 = .ok (.ifCond .eq 16, 3) := by decide +kernel
theorem dX9_isAbove_8 : decode cX9_isAbove 8 = .ok (.aload_n 0, 1) := by decide +kernel
theorem dX9_isAbove_9 : decode cX9_isAbove 9 = .ok (.getfield 16, 3) := by decide +kernel
theorem dX9_isAbove_12 : decode cX9_isAbove 12 = .ok (.iload_n 1, 1) := by decide +kernel
theorem dX9_isAbove_13 : decode cX9_isAbove 13 = .ok (.iaload, 1) := by decide +kernel
theorem dX9_isAbove_14 : decode cX9_isAbove 14 = .ok (.ifCond .le 7, 3) := by decide +kernel
theorem dX9_isAbove_17 : decode cX9_isAbove 17 = .ok (.iconst 1, 1) := by decide +kernel
theorem dX9_isAbove_18 : decode cX9_isAbove 18 = .ok (.goto 4, 3) := by decide +kernel
theorem dX9_isAbove_21 : decode cX9_isAbove 21 = .ok (.iconst 0, 1) := by decide +kernel
theorem dX9_isAbove_22 : decode cX9_isAbove 22 = .ok (.ireturn, 1) := by decide +kernel
theorem dX9_aboveMany_0 : decode cX9_aboveMany 0 = .ok (.iconst 0, 1) := by decide +kernel
theorem dX9_aboveMany_1 : decode cX9_aboveMany 1 = .ok (.istore_n 1, 1) := by decide +kernel
theorem dX9_aboveMany_2 : decode cX9_aboveMany 2 = .ok (.iconst 0, 1) := by decide +kernel
theorem dX9_aboveMany_3 : decode cX9_aboveMany 3 = .ok (.istore_n 2, 1) := by decide +kernel
theorem dX9_aboveMany_4 : decode cX9_aboveMany 4 = .ok (.iload_n 2, 1) := by decide +kernel
theorem dX9_aboveMany_5 : decode cX9_aboveMany 5 = .ok (.bipush 8, 2) := by decide +kernel
theorem dX9_aboveMany_7 : decode cX9_aboveMany 7 = .ok (.if_icmp .ge 25, 3) := by decide +kernel
theorem dX9_aboveMany_10 : decode cX9_aboveMany 10 = .ok (.iload_n 1, 1) := by decide +kernel
theorem dX9_aboveMany_11 : decode cX9_aboveMany 11 = .ok (.aload_n 0, 1) := by decide +kernel
theorem dX9_aboveMany_12 : decode cX9_aboveMany 12 = .ok (.iload_n 2, 1) := by decide +kernel
theorem dX9_aboveMany_13 : decode cX9_aboveMany 13 = .ok (.invokevirtual 137, 3) := by decide +kernel
theorem dX9_aboveMany_16 : decode cX9_aboveMany 16 = .ok (.ifCond .eq 7, 3) := by decide +kernel
theorem dX9_aboveMany_19 : decode cX9_aboveMany 19 = .ok (.iconst 1, 1) := by decide +kernel
theorem dX9_aboveMany_20 : decode cX9_aboveMany 20 = .ok (.goto 4, 3) := by decide +kernel
theorem dX9_aboveMany_23 : decode cX9_aboveMany 23 = .ok (.iconst 0, 1) := by decide +kernel
theorem dX9_aboveMany_24 : decode cX9_aboveMany 24 = .ok (.iadd, 1) := by decide +kernel
theorem dX9_aboveMany_25 : decode cX9_aboveMany 25 = .ok (.istore_n 1, 1) := by decide +kernel
theorem dX9_aboveMany_26 : decode cX9_aboveMany 26 = .ok (.iinc 2 1, 3) := by decide +kernel
theorem dX9_aboveMany_29 : decode cX9_aboveMany 29 = .ok (.goto (-25), 3) := by decide +kernel
theorem dX9_aboveMany_32 : decode cX9_aboveMany 32 = .ok (.iload_n 1, 1) := by decide +kernel
theorem dX9_aboveMany_33 : decode cX9_aboveMany 33 = .ok (.ireturn, 1) := by decide +kernel
theorem dX9_whyNot_0 : decode cX9_whyNot 0 = .ok (.iload_n 1, 1) := by decide +kernel
theorem dX9_whyNot_1 : decode cX9_whyNot 1 = .ok (.tableswitch 61 5 7 #[27, 42, 59], 27) := by decide +kernel
theorem dX9_whyNot_28 : decode cX9_whyNot 28 = .ok (.aload_n 0, 1) := by decide +kernel
theorem dX9_whyNot_29 : decode cX9_whyNot 29 = .ok (.getfield 25, 3) := by decide +kernel
theorem dX9_whyNot_32 : decode cX9_whyNot 32 = .ok (.iload_n 2, 1) := by decide +kernel
theorem dX9_whyNot_33 : decode cX9_whyNot 33 = .ok (.iaload, 1) := by decide +kernel
theorem dX9_whyNot_34 : decode cX9_whyNot 34 = .ok (.ifCond .ne 7, 3) := by decide +kernel
theorem dX9_whyNot_37 : decode cX9_whyNot 37 = .ok (.iconst 1, 1) := by decide +kernel
theorem dX9_whyNot_38 : decode cX9_whyNot 38 = .ok (.goto 4, 3) := by decide +kernel
theorem dX9_whyNot_41 : decode cX9_whyNot 41 = .ok (.iconst 0, 1) := by decide +kernel
theorem dX9_whyNot_42 : decode cX9_whyNot 42 = .ok (.ireturn, 1) := by decide +kernel
theorem dX9_whyNot_43 : decode cX9_whyNot 43 = .ok (.aload_n 0, 1) := by decide +kernel
theorem dX9_whyNot_44 : decode cX9_whyNot 44 = .ok (.getfield 25, 3) := by decide +kernel
theorem dX9_whyNot_47 : decode cX9_whyNot 47 = .ok (.iload_n 2, 1) := by decide +kernel
theorem dX9_whyNot_48 : decode cX9_whyNot 48 = .ok (.iaload, 1) := by decide +kernel
theorem dX9_whyNot_49 : decode cX9_whyNot 49 = .ok (.bipush 15, 2) := by decide +kernel
theorem dX9_whyNot_51 : decode cX9_whyNot 51 = .ok (.if_icmp .ne 7, 3) := by decide +kernel
theorem dX9_whyNot_54 : decode cX9_whyNot 54 = .ok (.iconst 1, 1) := by decide +kernel
theorem dX9_whyNot_55 : decode cX9_whyNot 55 = .ok (.goto 4, 3) := by decide +kernel
theorem dX9_whyNot_58 : decode cX9_whyNot 58 = .ok (.iconst 0, 1) := by decide +kernel
theorem dX9_whyNot_59 : decode cX9_whyNot 59 = .ok (.ireturn, 1) := by decide +kernel
theorem dX9_whyNot_60 : decode cX9_whyNot 60 = .ok (.iconst 0, 1) := by decide +kernel
theorem dX9_whyNot_61 : decode cX9_whyNot 61 = .ok (.ireturn, 1) := by decide +kernel
theorem dX9_whyNot_62 : decode cX9_whyNot 62 = .ok (.aload_n 0, 1) := by decide +kernel
theorem dX9_whyNot_63 : decode cX9_whyNot 63 = .ok (.invokevirtual 140, 3) := by decide +kernel
theorem dX9_whyNot_66 : decode cX9_whyNot 66 = .ok (.ifCond .ne 7, 3) := by decide +kernel
theorem dX9_whyNot_69 : decode cX9_whyNot 69 = .ok (.iconst 2, 1) := by decide +kernel
theorem dX9_whyNot_70 : decode cX9_whyNot 70 = .ok (.goto 4, 3) := by decide +kernel
theorem dX9_whyNot_73 : decode cX9_whyNot 73 = .ok (.iconst 0, 1) := by decide +kernel
theorem dX9_whyNot_74 : decode cX9_whyNot 74 = .ok (.ireturn, 1) := by decide +kernel
theorem dX9_grown_0 : decode cX9_grown 0 = .ok (.iconst 0, 1) := by decide +kernel
theorem dX9_grown_1 : decode cX9_grown 1 = .ok (.istore_n 2, 1) := by decide +kernel
theorem dX9_grown_2 : decode cX9_grown 2 = .ok (.iload_n 0, 1) := by decide +kernel
theorem dX9_grown_3 : decode cX9_grown 3 = .ok (.iconst 1, 1) := by decide +kernel
theorem dX9_grown_4 : decode cX9_grown 4 = .ok (.ishl, 1) := by decide +kernel
theorem dX9_grown_5 : decode cX9_grown 5 = .ok (.istore_n 3, 1) := by decide +kernel
theorem dX9_grown_6 : decode cX9_grown 6 = .ok (.iconst 0, 1) := by decide +kernel
theorem dX9_grown_7 : decode cX9_grown 7 = .ok (.istore 4, 2) := by decide +kernel
theorem dX9_grown_9 : decode cX9_grown 9 = .ok (.iload 4, 2) := by decide +kernel
theorem dX9_grown_11 : decode cX9_grown 11 = .ok (.bipush 8, 2) := by decide +kernel
theorem dX9_grown_13 : decode cX9_grown 13 = .ok (.if_icmp .ge 59, 3) := by decide +kernel
theorem dX9_grown_16 : decode cX9_grown 16 = .ok (.iload_n 3, 1) := by decide +kernel
theorem dX9_grown_17 : decode cX9_grown 17 = .ok (.iload 4, 2) := by decide +kernel
theorem dX9_grown_19 : decode cX9_grown 19 = .ok (.ishr, 1) := by decide +kernel
theorem dX9_grown_20 : decode cX9_grown 20 = .ok (.iconst 1, 1) := by decide +kernel
theorem dX9_grown_21 : decode cX9_grown 21 = .ok (.iand, 1) := by decide +kernel
theorem dX9_grown_22 : decode cX9_grown 22 = .ok (.istore 5, 2) := by decide +kernel
theorem dX9_grown_24 : decode cX9_grown 24 = .ok (.iload_n 3, 1) := by decide +kernel
theorem dX9_grown_25 : decode cX9_grown 25 = .ok (.iload 4, 2) := by decide +kernel
theorem dX9_grown_27 : decode cX9_grown 27 = .ok (.iconst 1, 1) := by decide +kernel
theorem dX9_grown_28 : decode cX9_grown 28 = .ok (.iadd, 1) := by decide +kernel
theorem dX9_grown_29 : decode cX9_grown 29 = .ok (.ishr, 1) := by decide +kernel
theorem dX9_grown_30 : decode cX9_grown 30 = .ok (.iconst 1, 1) := by decide +kernel
theorem dX9_grown_31 : decode cX9_grown 31 = .ok (.iand, 1) := by decide +kernel
theorem dX9_grown_32 : decode cX9_grown 32 = .ok (.istore 6, 2) := by decide +kernel
theorem dX9_grown_34 : decode cX9_grown 34 = .ok (.iload_n 3, 1) := by decide +kernel
theorem dX9_grown_35 : decode cX9_grown 35 = .ok (.iload 4, 2) := by decide +kernel
theorem dX9_grown_37 : decode cX9_grown 37 = .ok (.iconst 2, 1) := by decide +kernel
theorem dX9_grown_38 : decode cX9_grown 38 = .ok (.iadd, 1) := by decide +kernel
theorem dX9_grown_39 : decode cX9_grown 39 = .ok (.ishr, 1) := by decide +kernel
theorem dX9_grown_40 : decode cX9_grown 40 = .ok (.iconst 1, 1) := by decide +kernel
theorem dX9_grown_41 : decode cX9_grown 41 = .ok (.iand, 1) := by decide +kernel
theorem dX9_grown_42 : decode cX9_grown 42 = .ok (.istore 7, 2) := by decide +kernel
theorem dX9_grown_44 : decode cX9_grown 44 = .ok (.iload_n 2, 1) := by decide +kernel
theorem dX9_grown_45 : decode cX9_grown 45 = .ok (.iload_n 1, 1) := by decide +kernel
theorem dX9_grown_46 : decode cX9_grown 46 = .ok (.iconst 4, 1) := by decide +kernel
theorem dX9_grown_47 : decode cX9_grown 47 = .ok (.iload 7, 2) := by decide +kernel
theorem dX9_grown_49 : decode cX9_grown 49 = .ok (.imul, 1) := by decide +kernel
theorem dX9_grown_50 : decode cX9_grown 50 = .ok (.iconst 2, 1) := by decide +kernel
theorem dX9_grown_51 : decode cX9_grown 51 = .ok (.iload 6, 2) := by decide +kernel
theorem dX9_grown_53 : decode cX9_grown 53 = .ok (.imul, 1) := by decide +kernel
theorem dX9_grown_54 : decode cX9_grown 54 = .ok (.iadd, 1) := by decide +kernel
theorem dX9_grown_55 : decode cX9_grown 55 = .ok (.iload 5, 2) := by decide +kernel
theorem dX9_grown_57 : decode cX9_grown 57 = .ok (.iadd, 1) := by decide +kernel
theorem dX9_grown_58 : decode cX9_grown 58 = .ok (.ishr, 1) := by decide +kernel
theorem dX9_grown_59 : decode cX9_grown 59 = .ok (.iconst 1, 1) := by decide +kernel
theorem dX9_grown_60 : decode cX9_grown 60 = .ok (.iand, 1) := by decide +kernel
theorem dX9_grown_61 : decode cX9_grown 61 = .ok (.iload 4, 2) := by decide +kernel
theorem dX9_grown_63 : decode cX9_grown 63 = .ok (.ishl, 1) := by decide +kernel
theorem dX9_grown_64 : decode cX9_grown 64 = .ok (.ior, 1) := by decide +kernel
theorem dX9_grown_65 : decode cX9_grown 65 = .ok (.istore_n 2, 1) := by decide +kernel
theorem dX9_grown_66 : decode cX9_grown 66 = .ok (.iinc 4 1, 3) := by decide +kernel
theorem dX9_grown_69 : decode cX9_grown 69 = .ok (.goto (-60), 3) := by decide +kernel
theorem dX9_grown_72 : decode cX9_grown 72 = .ok (.iload_n 2, 1) := by decide +kernel
theorem dX9_grown_73 : decode cX9_grown 73 = .ok (.ireturn, 1) := by decide +kernel
theorem dX9_grow_0 : decode cX9_grow 0 = .ok (.iconst 0, 1) := by decide +kernel
theorem dX9_grow_1 : decode cX9_grow 1 = .ok (.istore_n 2, 1) := by decide +kernel
theorem dX9_grow_2 : decode cX9_grow 2 = .ok (.iload_n 2, 1) := by decide +kernel
theorem dX9_grow_3 : decode cX9_grow 3 = .ok (.bipush 8, 2) := by decide +kernel
theorem dX9_grow_5 : decode cX9_grow 5 = .ok (.if_icmp .ge 47, 3) := by decide +kernel
theorem dX9_grow_8 : decode cX9_grow 8 = .ok (.aload_n 0, 1) := by decide +kernel
theorem dX9_grow_9 : decode cX9_grow 9 = .ok (.getfield 7, 3) := by decide +kernel
theorem dX9_grow_12 : decode cX9_grow 12 = .ok (.iload_n 2, 1) := by decide +kernel
theorem dX9_grow_13 : decode cX9_grow 13 = .ok (.aload_n 0, 1) := by decide +kernel
theorem dX9_grow_14 : decode cX9_grow 14 = .ok (.iload_n 2, 1) := by decide +kernel
theorem dX9_grow_15 : decode cX9_grow 15 = .ok (.invokevirtual 137, 3) := by decide +kernel
theorem dX9_grow_18 : decode cX9_grow 18 = .ok (.ifCond .eq 21, 3) := by decide +kernel
theorem dX9_grow_21 : decode cX9_grow 21 = .ok (.aload_n 0, 1) := by decide +kernel
theorem dX9_grow_22 : decode cX9_grow 22 = .ok (.getfield 7, 3) := by decide +kernel
theorem dX9_grow_25 : decode cX9_grow 25 = .ok (.iload_n 2, 1) := by decide +kernel
theorem dX9_grow_26 : decode cX9_grow 26 = .ok (.iaload, 1) := by decide +kernel
theorem dX9_grow_27 : decode cX9_grow 27 = .ok (.aload_n 0, 1) := by decide +kernel
theorem dX9_grow_28 : decode cX9_grow 28 = .ok (.getfield 31, 3) := by decide +kernel
theorem dX9_grow_31 : decode cX9_grow 31 = .ok (.iload_n 1, 1) := by decide +kernel
theorem dX9_grow_32 : decode cX9_grow 32 = .ok (.iaload, 1) := by decide +kernel
theorem dX9_grow_33 : decode cX9_grow 33 = .ok (.invokestatic 144, 3) := by decide +kernel
theorem dX9_grow_36 : decode cX9_grow 36 = .ok (.goto 9, 3) := by decide +kernel
theorem dX9_grow_39 : decode cX9_grow 39 = .ok (.aload_n 0, 1) := by decide +kernel
theorem dX9_grow_40 : decode cX9_grow 40 = .ok (.getfield 7, 3) := by decide +kernel
theorem dX9_grow_43 : decode cX9_grow 43 = .ok (.iload_n 2, 1) := by decide +kernel
theorem dX9_grow_44 : decode cX9_grow 44 = .ok (.iaload, 1) := by decide +kernel
theorem dX9_grow_45 : decode cX9_grow 45 = .ok (.iastore, 1) := by decide +kernel
theorem dX9_grow_46 : decode cX9_grow 46 = .ok (.iinc 2 1, 3) := by decide +kernel
theorem dX9_grow_49 : decode cX9_grow 49 = .ok (.goto (-47), 3) := by decide +kernel
theorem dX9_grow_52 : decode cX9_grow 52 = .ok (.return_, 1) := by decide +kernel
theorem dX9_blowOne_0 : decode cX9_blowOne 0 = .ok (.aload_n 0, 1) := by decide +kernel
theorem dX9_blowOne_1 : decode cX9_blowOne 1 = .ok (.getfield 13, 3) := by decide +kernel
theorem dX9_blowOne_4 : decode cX9_blowOne 4 = .ok (.iload_n 1, 1) := by decide +kernel
theorem dX9_blowOne_5 : decode cX9_blowOne 5 = .ok (.iaload, 1) := by decide +kernel
theorem dX9_blowOne_6 : decode cX9_blowOne 6 = .ok (.iload_n 2, 1) := by decide +kernel
theorem dX9_blowOne_7 : decode cX9_blowOne 7 = .ok (.iadd, 1) := by decide +kernel
theorem dX9_blowOne_8 : decode cX9_blowOne 8 = .ok (.istore_n 3, 1) := by decide +kernel
theorem dX9_blowOne_9 : decode cX9_blowOne 9 = .ok (.iload_n 3, 1) := by decide +kernel
theorem dX9_blowOne_10 : decode cX9_blowOne 10 = .ok (.i2l, 1) := by decide +kernel
theorem dX9_blowOne_11 : decode cX9_blowOne 11 = .ok (.lconst 0, 1) := by decide +kernel
theorem dX9_blowOne_12 : decode cX9_blowOne 12 = .ok (.ldc2_w 105, 3) := by decide +kernel
theorem dX9_blowOne_15 : decode cX9_blowOne 15 = .ok (.invokestatic 86, 3) := by decide +kernel
theorem dX9_blowOne_18 : decode cX9_blowOne 18 = .ok (.istore 4, 2) := by decide +kernel
theorem dX9_blowOne_20 : decode cX9_blowOne 20 = .ok (.aload_n 0, 1) := by decide +kernel
theorem dX9_blowOne_21 : decode cX9_blowOne 21 = .ok (.getfield 13, 3) := by decide +kernel
theorem dX9_blowOne_24 : decode cX9_blowOne 24 = .ok (.iload_n 1, 1) := by decide +kernel
theorem dX9_blowOne_25 : decode cX9_blowOne 25 = .ok (.iload 4, 2) := by decide +kernel
theorem dX9_blowOne_27 : decode cX9_blowOne 27 = .ok (.ifCond .eq 7, 3) := by decide +kernel
theorem dX9_blowOne_30 : decode cX9_blowOne 30 = .ok (.iload_n 3, 1) := by decide +kernel
theorem dX9_blowOne_31 : decode cX9_blowOne 31 = .ok (.goto 5, 3) := by decide +kernel
theorem dX9_blowOne_34 : decode cX9_blowOne 34 = .ok (.bipush (-6), 2) := by decide +kernel
theorem dX9_blowOne_36 : decode cX9_blowOne 36 = .ok (.iastore, 1) := by decide +kernel
theorem dX9_blowOne_37 : decode cX9_blowOne 37 = .ok (.aload_n 0, 1) := by decide +kernel
theorem dX9_blowOne_38 : decode cX9_blowOne 38 = .ok (.getfield 16, 3) := by decide +kernel
theorem dX9_blowOne_41 : decode cX9_blowOne 41 = .ok (.iload_n 1, 1) := by decide +kernel
theorem dX9_blowOne_42 : decode cX9_blowOne 42 = .ok (.iload 4, 2) := by decide +kernel
theorem dX9_blowOne_44 : decode cX9_blowOne 44 = .ok (.ifCond .eq 12, 3) := by decide +kernel
theorem dX9_blowOne_47 : decode cX9_blowOne 47 = .ok (.aload_n 0, 1) := by decide +kernel
theorem dX9_blowOne_48 : decode cX9_blowOne 48 = .ok (.getfield 16, 3) := by decide +kernel
theorem dX9_blowOne_51 : decode cX9_blowOne 51 = .ok (.iload_n 1, 1) := by decide +kernel
theorem dX9_blowOne_52 : decode cX9_blowOne 52 = .ok (.iaload, 1) := by decide +kernel
theorem dX9_blowOne_53 : decode cX9_blowOne 53 = .ok (.goto 4, 3) := by decide +kernel
theorem dX9_blowOne_56 : decode cX9_blowOne 56 = .ok (.iconst 0, 1) := by decide +kernel
theorem dX9_blowOne_57 : decode cX9_blowOne 57 = .ok (.iastore, 1) := by decide +kernel
theorem dX9_blowOne_58 : decode cX9_blowOne 58 = .ok (.return_, 1) := by decide +kernel
theorem dX9_blow_0 : decode cX9_blow 0 = .ok (.iconst 0, 1) := by decide +kernel
theorem dX9_blow_1 : decode cX9_blow 1 = .ok (.istore_n 2, 1) := by decide +kernel
theorem dX9_blow_2 : decode cX9_blow 2 = .ok (.iload_n 2, 1) := by decide +kernel
theorem dX9_blow_3 : decode cX9_blow 3 = .ok (.bipush 8, 2) := by decide +kernel
theorem dX9_blow_5 : decode cX9_blow 5 = .ok (.if_icmp .ge 23, 3) := by decide +kernel
theorem dX9_blow_8 : decode cX9_blow 8 = .ok (.aload_n 0, 1) := by decide +kernel
theorem dX9_blow_9 : decode cX9_blow 9 = .ok (.iload_n 2, 1) := by decide +kernel
theorem dX9_blow_10 : decode cX9_blow 10 = .ok (.invokevirtual 137, 3) := by decide +kernel
theorem dX9_blow_13 : decode cX9_blow 13 = .ok (.ifCond .eq 9, 3) := by decide +kernel
theorem dX9_blow_16 : decode cX9_blow 16 = .ok (.aload_n 0, 1) := by decide +kernel
theorem dX9_blow_17 : decode cX9_blow 17 = .ok (.iload_n 2, 1) := by decide +kernel
theorem dX9_blow_18 : decode cX9_blow 18 = .ok (.iload_n 1, 1) := by decide +kernel
theorem dX9_blow_19 : decode cX9_blow 19 = .ok (.invokevirtual 147, 3) := by decide +kernel
theorem dX9_blow_22 : decode cX9_blow 22 = .ok (.iinc 2 1, 3) := by decide +kernel
theorem dX9_blow_25 : decode cX9_blow 25 = .ok (.goto (-23), 3) := by decide +kernel
theorem dX9_blow_28 : decode cX9_blow 28 = .ok (.return_, 1) := by decide +kernel
theorem dX9_comeDown_0 : decode cX9_comeDown 0 = .ok (.aload_n 0, 1) := by decide +kernel
theorem dX9_comeDown_1 : decode cX9_comeDown 1 = .ok (.dup, 1) := by decide +kernel
theorem dX9_comeDown_2 : decode cX9_comeDown 2 = .ok (.getfield 151, 3) := by decide +kernel
theorem dX9_comeDown_5 : decode cX9_comeDown 5 = .ok (.iconst 1, 1) := by decide +kernel
theorem dX9_comeDown_6 : decode cX9_comeDown 6 = .ok (.iadd, 1) := by decide +kernel
theorem dX9_comeDown_7 : decode cX9_comeDown 7 = .ok (.putfield 151, 3) := by decide +kernel
theorem dX9_comeDown_10 : decode cX9_comeDown 10 = .ok (.iconst 5, 1) := by decide +kernel
theorem dX9_comeDown_11 : decode cX9_comeDown 11 = .ok (.istore_n 2, 1) := by decide +kernel
theorem dX9_comeDown_12 : decode cX9_comeDown 12 = .ok (.iload_n 2, 1) := by decide +kernel
theorem dX9_comeDown_13 : decode cX9_comeDown 13 = .ok (.ifCond .lt 49, 3) := by decide +kernel
theorem dX9_comeDown_16 : decode cX9_comeDown 16 = .ok (.aload_n 0, 1) := by decide +kernel
theorem dX9_comeDown_17 : decode cX9_comeDown 17 = .ok (.getfield 22, 3) := by decide +kernel
theorem dX9_comeDown_20 : decode cX9_comeDown 20 = .ok (.iload_n 1, 1) := by decide +kernel
theorem dX9_comeDown_21 : decode cX9_comeDown 21 = .ok (.aload_n 0, 1) := by decide +kernel
theorem dX9_comeDown_22 : decode cX9_comeDown 22 = .ok (.getfield 25, 3) := by decide +kernel
theorem dX9_comeDown_25 : decode cX9_comeDown 25 = .ok (.iload_n 2, 1) := by decide +kernel
theorem dX9_comeDown_26 : decode cX9_comeDown 26 = .ok (.iaload, 1) := by decide +kernel
theorem dX9_comeDown_27 : decode cX9_comeDown 27 = .ok (.aload_n 0, 1) := by decide +kernel
theorem dX9_comeDown_28 : decode cX9_comeDown 28 = .ok (.getfield 13, 3) := by decide +kernel
theorem dX9_comeDown_31 : decode cX9_comeDown 31 = .ok (.iload_n 1, 1) := by decide +kernel
theorem dX9_comeDown_32 : decode cX9_comeDown 32 = .ok (.iaload, 1) := by decide +kernel
theorem dX9_comeDown_33 : decode cX9_comeDown 33 = .ok (.if_icmp .ne 16, 3) := by decide +kernel
theorem dX9_comeDown_36 : decode cX9_comeDown 36 = .ok (.aload_n 0, 1) := by decide +kernel
theorem dX9_comeDown_37 : decode cX9_comeDown 37 = .ok (.getfield 28, 3) := by decide +kernel
theorem dX9_comeDown_40 : decode cX9_comeDown 40 = .ok (.iload_n 2, 1) := by decide +kernel
theorem dX9_comeDown_41 : decode cX9_comeDown 41 = .ok (.iaload, 1) := by decide +kernel
theorem dX9_comeDown_42 : decode cX9_comeDown 42 = .ok (.ifCond .ne 7, 3) := by decide +kernel
theorem dX9_comeDown_45 : decode cX9_comeDown 45 = .ok (.iload_n 2, 1) := by decide +kernel
theorem dX9_comeDown_46 : decode cX9_comeDown 46 = .ok (.goto 9, 3) := by decide +kernel
theorem dX9_comeDown_49 : decode cX9_comeDown 49 = .ok (.aload_n 0, 1) := by decide +kernel
theorem dX9_comeDown_50 : decode cX9_comeDown 50 = .ok (.getfield 22, 3) := by decide +kernel
theorem dX9_comeDown_53 : decode cX9_comeDown 53 = .ok (.iload_n 1, 1) := by decide +kernel
theorem dX9_comeDown_54 : decode cX9_comeDown 54 = .ok (.iaload, 1) := by decide +kernel
theorem dX9_comeDown_55 : decode cX9_comeDown 55 = .ok (.iastore, 1) := by decide +kernel
theorem dX9_comeDown_56 : decode cX9_comeDown 56 = .ok (.iinc 2 (-1), 3) := by decide +kernel
theorem dX9_comeDown_59 : decode cX9_comeDown 59 = .ok (.goto (-47), 3) := by decide +kernel
theorem dX9_comeDown_62 : decode cX9_comeDown 62 = .ok (.aload_n 0, 1) := by decide +kernel
theorem dX9_comeDown_63 : decode cX9_comeDown 63 = .ok (.getfield 22, 3) := by decide +kernel
theorem dX9_comeDown_66 : decode cX9_comeDown 66 = .ok (.iload_n 1, 1) := by decide +kernel
theorem dX9_comeDown_67 : decode cX9_comeDown 67 = .ok (.iaload, 1) := by decide +kernel
theorem dX9_comeDown_68 : decode cX9_comeDown 68 = .ok (.aload_n 0, 1) := by decide +kernel
theorem dX9_comeDown_69 : decode cX9_comeDown 69 = .ok (.getfield 19, 3) := by decide +kernel
theorem dX9_comeDown_72 : decode cX9_comeDown 72 = .ok (.iload_n 1, 1) := by decide +kernel
theorem dX9_comeDown_73 : decode cX9_comeDown 73 = .ok (.iaload, 1) := by decide +kernel
theorem dX9_comeDown_74 : decode cX9_comeDown 74 = .ok (.if_icmp .ne 18, 3) := by decide +kernel
theorem dX9_comeDown_77 : decode cX9_comeDown 77 = .ok (.aload_n 0, 1) := by decide +kernel
theorem dX9_comeDown_78 : decode cX9_comeDown 78 = .ok (.getfield 154, 3) := by decide +kernel
theorem dX9_comeDown_81 : decode cX9_comeDown 81 = .ok (.ifCond .ge 11, 3) := by decide +kernel
theorem dX9_comeDown_84 : decode cX9_comeDown 84 = .ok (.aload_n 0, 1) := by decide +kernel
theorem dX9_comeDown_85 : decode cX9_comeDown 85 = .ok (.aload_n 0, 1) := by decide +kernel
theorem dX9_comeDown_86 : decode cX9_comeDown 86 = .ok (.getfield 157, 3) := by decide +kernel
theorem dX9_comeDown_89 : decode cX9_comeDown 89 = .ok (.putfield 154, 3) := by decide +kernel
theorem dX9_comeDown_92 : decode cX9_comeDown 92 = .ok (.return_, 1) := by decide +kernel
theorem dX9_fall_0 : decode cX9_fall 0 = .ok (.iconst 0, 1) := by decide +kernel
theorem dX9_fall_1 : decode cX9_fall 1 = .ok (.istore_n 1, 1) := by decide +kernel
theorem dX9_fall_2 : decode cX9_fall 2 = .ok (.iload_n 1, 1) := by decide +kernel
theorem dX9_fall_3 : decode cX9_fall 3 = .ok (.bipush 8, 2) := by decide +kernel
theorem dX9_fall_5 : decode cX9_fall 5 = .ok (.if_icmp .ge 41, 3) := by decide +kernel
theorem dX9_fall_8 : decode cX9_fall 8 = .ok (.aload_n 0, 1) := by decide +kernel
theorem dX9_fall_9 : decode cX9_fall 9 = .ok (.iload_n 1, 1) := by decide +kernel
theorem dX9_fall_10 : decode cX9_fall 10 = .ok (.invokevirtual 137, 3) := by decide +kernel
theorem dX9_fall_13 : decode cX9_fall 13 = .ok (.ifCond .eq 27, 3) := by decide +kernel
theorem dX9_fall_16 : decode cX9_fall 16 = .ok (.aload_n 0, 1) := by decide +kernel
theorem dX9_fall_17 : decode cX9_fall 17 = .ok (.getfield 16, 3) := by decide +kernel
theorem dX9_fall_20 : decode cX9_fall 20 = .ok (.iload_n 1, 1) := by decide +kernel
theorem dX9_fall_21 : decode cX9_fall 21 = .ok (.dup2, 1) := by decide +kernel
theorem dX9_fall_22 : decode cX9_fall 22 = .ok (.iaload, 1) := by decide +kernel
theorem dX9_fall_23 : decode cX9_fall 23 = .ok (.iconst 1, 1) := by decide +kernel
theorem dX9_fall_24 : decode cX9_fall 24 = .ok (.isub, 1) := by decide +kernel
theorem dX9_fall_25 : decode cX9_fall 25 = .ok (.iastore, 1) := by decide +kernel
theorem dX9_fall_26 : decode cX9_fall 26 = .ok (.aload_n 0, 1) := by decide +kernel
theorem dX9_fall_27 : decode cX9_fall 27 = .ok (.getfield 16, 3) := by decide +kernel
theorem dX9_fall_30 : decode cX9_fall 30 = .ok (.iload_n 1, 1) := by decide +kernel
theorem dX9_fall_31 : decode cX9_fall 31 = .ok (.iaload, 1) := by decide +kernel
theorem dX9_fall_32 : decode cX9_fall 32 = .ok (.ifCond .ne 8, 3) := by decide +kernel
theorem dX9_fall_35 : decode cX9_fall 35 = .ok (.aload_n 0, 1) := by decide +kernel
theorem dX9_fall_36 : decode cX9_fall 36 = .ok (.iload_n 1, 1) := by decide +kernel
theorem dX9_fall_37 : decode cX9_fall 37 = .ok (.invokevirtual 160, 3) := by decide +kernel
theorem dX9_fall_40 : decode cX9_fall 40 = .ok (.iinc 1 1, 3) := by decide +kernel
theorem dX9_fall_43 : decode cX9_fall 43 = .ok (.goto (-41), 3) := by decide +kernel
theorem dX9_fall_46 : decode cX9_fall 46 = .ok (.return_, 1) := by decide +kernel
theorem dX9_happen_0 : decode cX9_happen 0 = .ok (.iload_n 1, 1) := by decide +kernel
theorem dX9_happen_1 : decode cX9_happen 1 = .ok (.tableswitch 100 0 6 #[43, 43, 51, 59, 67, 74, 87], 43) := by decide +kernel
theorem dX9_happen_44 : decode cX9_happen 44 = .ok (.aload_n 0, 1) := by decide +kernel
theorem dX9_happen_45 : decode cX9_happen 45 = .ok (.iload_n 1, 1) := by decide +kernel
theorem dX9_happen_46 : decode cX9_happen 46 = .ok (.invokevirtual 164, 3) := by decide +kernel
theorem dX9_happen_49 : decode cX9_happen 49 = .ok (.goto 66, 3) := by decide +kernel
theorem dX9_happen_52 : decode cX9_happen 52 = .ok (.aload_n 0, 1) := by decide +kernel
theorem dX9_happen_53 : decode cX9_happen 53 = .ok (.iconst (-1), 1) := by decide +kernel
theorem dX9_happen_54 : decode cX9_happen 54 = .ok (.invokevirtual 167, 3) := by decide +kernel
theorem dX9_happen_57 : decode cX9_happen 57 = .ok (.goto 58, 3) := by decide +kernel
theorem dX9_happen_60 : decode cX9_happen 60 = .ok (.aload_n 0, 1) := by decide +kernel
theorem dX9_happen_61 : decode cX9_happen 61 = .ok (.iconst 1, 1) := by decide +kernel
theorem dX9_happen_62 : decode cX9_happen 62 = .ok (.invokevirtual 167, 3) := by decide +kernel
theorem dX9_happen_65 : decode cX9_happen 65 = .ok (.goto 50, 3) := by decide +kernel
theorem dX9_happen_68 : decode cX9_happen 68 = .ok (.aload_n 0, 1) := by decide +kernel
theorem dX9_happen_69 : decode cX9_happen 69 = .ok (.invokevirtual 170, 3) := by decide +kernel
theorem dX9_happen_72 : decode cX9_happen 72 = .ok (.goto 43, 3) := by decide +kernel
theorem dX9_happen_75 : decode cX9_happen 75 = .ok (.aload_n 0, 1) := by decide +kernel
theorem dX9_happen_76 : decode cX9_happen 76 = .ok (.getfield 25, 3) := by decide +kernel
theorem dX9_happen_79 : decode cX9_happen 79 = .ok (.iload_n 2, 1) := by decide +kernel
theorem dX9_happen_80 : decode cX9_happen 80 = .ok (.dup2, 1) := by decide +kernel
theorem dX9_happen_81 : decode cX9_happen 81 = .ok (.iaload, 1) := by decide +kernel
theorem dX9_happen_82 : decode cX9_happen 82 = .ok (.iconst 1, 1) := by decide +kernel
theorem dX9_happen_83 : decode cX9_happen 83 = .ok (.isub, 1) := by decide +kernel
theorem dX9_happen_84 : decode cX9_happen 84 = .ok (.iastore, 1) := by decide +kernel
theorem dX9_happen_85 : decode cX9_happen 85 = .ok (.goto 30, 3) := by decide +kernel
theorem dX9_happen_88 : decode cX9_happen 88 = .ok (.aload_n 0, 1) := by decide +kernel
theorem dX9_happen_89 : decode cX9_happen 89 = .ok (.getfield 25, 3) := by decide +kernel
theorem dX9_happen_92 : decode cX9_happen 92 = .ok (.iload_n 2, 1) := by decide +kernel
theorem dX9_happen_93 : decode cX9_happen 93 = .ok (.dup2, 1) := by decide +kernel
theorem dX9_happen_94 : decode cX9_happen 94 = .ok (.iaload, 1) := by decide +kernel
theorem dX9_happen_95 : decode cX9_happen 95 = .ok (.iconst 1, 1) := by decide +kernel
theorem dX9_happen_96 : decode cX9_happen 96 = .ok (.iadd, 1) := by decide +kernel
theorem dX9_happen_97 : decode cX9_happen 97 = .ok (.iastore, 1) := by decide +kernel
theorem dX9_happen_98 : decode cX9_happen 98 = .ok (.goto 17, 3) := by decide +kernel
theorem dX9_happen_101 : decode cX9_happen 101 = .ok (.aload_n 0, 1) := by decide +kernel
theorem dX9_happen_102 : decode cX9_happen 102 = .ok (.getfield 28, 3) := by decide +kernel
theorem dX9_happen_105 : decode cX9_happen 105 = .ok (.iload_n 2, 1) := by decide +kernel
theorem dX9_happen_106 : decode cX9_happen 106 = .ok (.iconst 1, 1) := by decide +kernel
theorem dX9_happen_107 : decode cX9_happen 107 = .ok (.aload_n 0, 1) := by decide +kernel
theorem dX9_happen_108 : decode cX9_happen 108 = .ok (.getfield 28, 3) := by decide +kernel
theorem dX9_happen_111 : decode cX9_happen 111 = .ok (.iload_n 2, 1) := by decide +kernel
theorem dX9_happen_112 : decode cX9_happen 112 = .ok (.iaload, 1) := by decide +kernel
theorem dX9_happen_113 : decode cX9_happen 113 = .ok (.isub, 1) := by decide +kernel
theorem dX9_happen_114 : decode cX9_happen 114 = .ok (.iastore, 1) := by decide +kernel
theorem dX9_happen_115 : decode cX9_happen 115 = .ok (.return_, 1) := by decide +kernel
theorem dX9_keepNow_0 : decode cX9_keepNow 0 = .ok (.iconst 0, 1) := by decide +kernel
theorem dX9_keepNow_1 : decode cX9_keepNow 1 = .ok (.istore_n 1, 1) := by decide +kernel
theorem dX9_keepNow_2 : decode cX9_keepNow 2 = .ok (.iload_n 1, 1) := by decide +kernel
theorem dX9_keepNow_3 : decode cX9_keepNow 3 = .ok (.bipush 8, 2) := by decide +kernel
theorem dX9_keepNow_5 : decode cX9_keepNow 5 = .ok (.if_icmp .ge 66, 3) := by decide +kernel
theorem dX9_keepNow_8 : decode cX9_keepNow 8 = .ok (.aload_n 0, 1) := by decide +kernel
theorem dX9_keepNow_9 : decode cX9_keepNow 9 = .ok (.getfield 49, 3) := by decide +kernel
theorem dX9_keepNow_12 : decode cX9_keepNow 12 = .ok (.iload_n 1, 1) := by decide +kernel
theorem dX9_keepNow_13 : decode cX9_keepNow 13 = .ok (.aload_n 0, 1) := by decide +kernel
theorem dX9_keepNow_14 : decode cX9_keepNow 14 = .ok (.getfield 7, 3) := by decide +kernel
theorem dX9_keepNow_17 : decode cX9_keepNow 17 = .ok (.iload_n 1, 1) := by decide +kernel
theorem dX9_keepNow_18 : decode cX9_keepNow 18 = .ok (.iaload, 1) := by decide +kernel
theorem dX9_keepNow_19 : decode cX9_keepNow 19 = .ok (.iastore, 1) := by decide +kernel
theorem dX9_keepNow_20 : decode cX9_keepNow 20 = .ok (.aload_n 0, 1) := by decide +kernel
theorem dX9_keepNow_21 : decode cX9_keepNow 21 = .ok (.getfield 49, 3) := by decide +kernel
theorem dX9_keepNow_24 : decode cX9_keepNow 24 = .ok (.bipush 8, 2) := by decide +kernel
theorem dX9_keepNow_26 : decode cX9_keepNow 26 = .ok (.iload_n 1, 1) := by decide +kernel
theorem dX9_keepNow_27 : decode cX9_keepNow 27 = .ok (.iadd, 1) := by decide +kernel
theorem dX9_keepNow_28 : decode cX9_keepNow 28 = .ok (.aload_n 0, 1) := by decide +kernel
theorem dX9_keepNow_29 : decode cX9_keepNow 29 = .ok (.getfield 13, 3) := by decide +kernel
theorem dX9_keepNow_32 : decode cX9_keepNow 32 = .ok (.iload_n 1, 1) := by decide +kernel
theorem dX9_keepNow_33 : decode cX9_keepNow 33 = .ok (.iaload, 1) := by decide +kernel
theorem dX9_keepNow_34 : decode cX9_keepNow 34 = .ok (.iastore, 1) := by decide +kernel
theorem dX9_keepNow_35 : decode cX9_keepNow 35 = .ok (.aload_n 0, 1) := by decide +kernel
theorem dX9_keepNow_36 : decode cX9_keepNow 36 = .ok (.getfield 49, 3) := by decide +kernel
theorem dX9_keepNow_39 : decode cX9_keepNow 39 = .ok (.bipush 16, 2) := by decide +kernel
theorem dX9_keepNow_41 : decode cX9_keepNow 41 = .ok (.iload_n 1, 1) := by decide +kernel
theorem dX9_keepNow_42 : decode cX9_keepNow 42 = .ok (.iadd, 1) := by decide +kernel
theorem dX9_keepNow_43 : decode cX9_keepNow 43 = .ok (.aload_n 0, 1) := by decide +kernel
theorem dX9_keepNow_44 : decode cX9_keepNow 44 = .ok (.getfield 16, 3) := by decide +kernel
theorem dX9_keepNow_47 : decode cX9_keepNow 47 = .ok (.iload_n 1, 1) := by decide +kernel
theorem dX9_keepNow_48 : decode cX9_keepNow 48 = .ok (.iaload, 1) := by decide +kernel
theorem dX9_keepNow_49 : decode cX9_keepNow 49 = .ok (.iastore, 1) := by decide +kernel
theorem dX9_keepNow_50 : decode cX9_keepNow 50 = .ok (.aload_n 0, 1) := by decide +kernel
theorem dX9_keepNow_51 : decode cX9_keepNow 51 = .ok (.getfield 49, 3) := by decide +kernel
theorem dX9_keepNow_54 : decode cX9_keepNow 54 = .ok (.bipush 24, 2) := by decide +kernel
theorem dX9_keepNow_56 : decode cX9_keepNow 56 = .ok (.iload_n 1, 1) := by decide +kernel
theorem dX9_keepNow_57 : decode cX9_keepNow 57 = .ok (.iadd, 1) := by decide +kernel
theorem dX9_keepNow_58 : decode cX9_keepNow 58 = .ok (.aload_n 0, 1) := by decide +kernel
theorem dX9_keepNow_59 : decode cX9_keepNow 59 = .ok (.getfield 22, 3) := by decide +kernel
theorem dX9_keepNow_62 : decode cX9_keepNow 62 = .ok (.iload_n 1, 1) := by decide +kernel
theorem dX9_keepNow_63 : decode cX9_keepNow 63 = .ok (.iaload, 1) := by decide +kernel
theorem dX9_keepNow_64 : decode cX9_keepNow 64 = .ok (.iastore, 1) := by decide +kernel
theorem dX9_keepNow_65 : decode cX9_keepNow 65 = .ok (.iinc 1 1, 3) := by decide +kernel
theorem dX9_keepNow_68 : decode cX9_keepNow 68 = .ok (.goto (-66), 3) := by decide +kernel
theorem dX9_keepNow_71 : decode cX9_keepNow 71 = .ok (.iconst 0, 1) := by decide +kernel
theorem dX9_keepNow_72 : decode cX9_keepNow 72 = .ok (.istore_n 1, 1) := by decide +kernel
theorem dX9_keepNow_73 : decode cX9_keepNow 73 = .ok (.iload_n 1, 1) := by decide +kernel
theorem dX9_keepNow_74 : decode cX9_keepNow 74 = .ok (.bipush 6, 2) := by decide +kernel
theorem dX9_keepNow_76 : decode cX9_keepNow 76 = .ok (.if_icmp .ge 39, 3) := by decide +kernel
theorem dX9_keepNow_79 : decode cX9_keepNow 79 = .ok (.aload_n 0, 1) := by decide +kernel
theorem dX9_keepNow_80 : decode cX9_keepNow 80 = .ok (.getfield 49, 3) := by decide +kernel
theorem dX9_keepNow_83 : decode cX9_keepNow 83 = .ok (.bipush 32, 2) := by decide +kernel
theorem dX9_keepNow_85 : decode cX9_keepNow 85 = .ok (.iload_n 1, 1) := by decide +kernel
theorem dX9_keepNow_86 : decode cX9_keepNow 86 = .ok (.iadd, 1) := by decide +kernel
theorem dX9_keepNow_87 : decode cX9_keepNow 87 = .ok (.aload_n 0, 1) := by decide +kernel
theorem dX9_keepNow_88 : decode cX9_keepNow 88 = .ok (.getfield 25, 3) := by decide +kernel
theorem dX9_keepNow_91 : decode cX9_keepNow 91 = .ok (.iload_n 1, 1) := by decide +kernel
theorem dX9_keepNow_92 : decode cX9_keepNow 92 = .ok (.iaload, 1) := by decide +kernel
theorem dX9_keepNow_93 : decode cX9_keepNow 93 = .ok (.iastore, 1) := by decide +kernel
theorem dX9_keepNow_94 : decode cX9_keepNow 94 = .ok (.aload_n 0, 1) := by decide +kernel
theorem dX9_keepNow_95 : decode cX9_keepNow 95 = .ok (.getfield 49, 3) := by decide +kernel
theorem dX9_keepNow_98 : decode cX9_keepNow 98 = .ok (.bipush 38, 2) := by decide +kernel
theorem dX9_keepNow_100 : decode cX9_keepNow 100 = .ok (.iload_n 1, 1) := by decide +kernel
theorem dX9_keepNow_101 : decode cX9_keepNow 101 = .ok (.iadd, 1) := by decide +kernel
theorem dX9_keepNow_102 : decode cX9_keepNow 102 = .ok (.aload_n 0, 1) := by decide +kernel
theorem dX9_keepNow_103 : decode cX9_keepNow 103 = .ok (.getfield 28, 3) := by decide +kernel
theorem dX9_keepNow_106 : decode cX9_keepNow 106 = .ok (.iload_n 1, 1) := by decide +kernel
theorem dX9_keepNow_107 : decode cX9_keepNow 107 = .ok (.iaload, 1) := by decide +kernel
theorem dX9_keepNow_108 : decode cX9_keepNow 108 = .ok (.iastore, 1) := by decide +kernel
theorem dX9_keepNow_109 : decode cX9_keepNow 109 = .ok (.iinc 1 1, 3) := by decide +kernel
theorem dX9_keepNow_112 : decode cX9_keepNow 112 = .ok (.goto (-39), 3) := by decide +kernel
theorem dX9_keepNow_115 : decode cX9_keepNow 115 = .ok (.return_, 1) := by decide +kernel
theorem dX9_back_0 : decode cX9_back 0 = .ok (.iconst 0, 1) := by decide +kernel
theorem dX9_back_1 : decode cX9_back 1 = .ok (.istore_n 2, 1) := by decide +kernel
theorem dX9_back_2 : decode cX9_back 2 = .ok (.iload_n 2, 1) := by decide +kernel
theorem dX9_back_3 : decode cX9_back 3 = .ok (.bipush 8, 2) := by decide +kernel
theorem dX9_back_5 : decode cX9_back 5 = .ok (.if_icmp .ge 66, 3) := by decide +kernel
theorem dX9_back_8 : decode cX9_back 8 = .ok (.aload_n 0, 1) := by decide +kernel
theorem dX9_back_9 : decode cX9_back 9 = .ok (.getfield 7, 3) := by decide +kernel
theorem dX9_back_12 : decode cX9_back 12 = .ok (.iload_n 2, 1) := by decide +kernel
theorem dX9_back_13 : decode cX9_back 13 = .ok (.aload_n 0, 1) := by decide +kernel
theorem dX9_back_14 : decode cX9_back 14 = .ok (.getfield 49, 3) := by decide +kernel
theorem dX9_back_17 : decode cX9_back 17 = .ok (.iload_n 2, 1) := by decide +kernel
theorem dX9_back_18 : decode cX9_back 18 = .ok (.iaload, 1) := by decide +kernel
theorem dX9_back_19 : decode cX9_back 19 = .ok (.iastore, 1) := by decide +kernel
theorem dX9_back_20 : decode cX9_back 20 = .ok (.aload_n 0, 1) := by decide +kernel
theorem dX9_back_21 : decode cX9_back 21 = .ok (.getfield 13, 3) := by decide +kernel
theorem dX9_back_24 : decode cX9_back 24 = .ok (.iload_n 2, 1) := by decide +kernel
theorem dX9_back_25 : decode cX9_back 25 = .ok (.aload_n 0, 1) := by decide +kernel
theorem dX9_back_26 : decode cX9_back 26 = .ok (.getfield 49, 3) := by decide +kernel
theorem dX9_back_29 : decode cX9_back 29 = .ok (.bipush 8, 2) := by decide +kernel
theorem dX9_back_31 : decode cX9_back 31 = .ok (.iload_n 2, 1) := by decide +kernel
theorem dX9_back_32 : decode cX9_back 32 = .ok (.iadd, 1) := by decide +kernel
theorem dX9_back_33 : decode cX9_back 33 = .ok (.iaload, 1) := by decide +kernel
theorem dX9_back_34 : decode cX9_back 34 = .ok (.iastore, 1) := by decide +kernel
theorem dX9_back_35 : decode cX9_back 35 = .ok (.aload_n 0, 1) := by decide +kernel
theorem dX9_back_36 : decode cX9_back 36 = .ok (.getfield 16, 3) := by decide +kernel
theorem dX9_back_39 : decode cX9_back 39 = .ok (.iload_n 2, 1) := by decide +kernel
theorem dX9_back_40 : decode cX9_back 40 = .ok (.aload_n 0, 1) := by decide +kernel
theorem dX9_back_41 : decode cX9_back 41 = .ok (.getfield 49, 3) := by decide +kernel
theorem dX9_back_44 : decode cX9_back 44 = .ok (.bipush 16, 2) := by decide +kernel
theorem dX9_back_46 : decode cX9_back 46 = .ok (.iload_n 2, 1) := by decide +kernel
theorem dX9_back_47 : decode cX9_back 47 = .ok (.iadd, 1) := by decide +kernel
theorem dX9_back_48 : decode cX9_back 48 = .ok (.iaload, 1) := by decide +kernel
theorem dX9_back_49 : decode cX9_back 49 = .ok (.iastore, 1) := by decide +kernel
theorem dX9_back_50 : decode cX9_back 50 = .ok (.aload_n 0, 1) := by decide +kernel
theorem dX9_back_51 : decode cX9_back 51 = .ok (.getfield 22, 3) := by decide +kernel
theorem dX9_back_54 : decode cX9_back 54 = .ok (.iload_n 2, 1) := by decide +kernel
theorem dX9_back_55 : decode cX9_back 55 = .ok (.aload_n 0, 1) := by decide +kernel
theorem dX9_back_56 : decode cX9_back 56 = .ok (.getfield 49, 3) := by decide +kernel
theorem dX9_back_59 : decode cX9_back 59 = .ok (.bipush 24, 2) := by decide +kernel
theorem dX9_back_61 : decode cX9_back 61 = .ok (.iload_n 2, 1) := by decide +kernel
theorem dX9_back_62 : decode cX9_back 62 = .ok (.iadd, 1) := by decide +kernel
theorem dX9_back_63 : decode cX9_back 63 = .ok (.iaload, 1) := by decide +kernel
theorem dX9_back_64 : decode cX9_back 64 = .ok (.iastore, 1) := by decide +kernel
theorem dX9_back_65 : decode cX9_back 65 = .ok (.iinc 2 1, 3) := by decide +kernel
theorem dX9_back_68 : decode cX9_back 68 = .ok (.goto (-66), 3) := by decide +kernel
theorem dX9_back_71 : decode cX9_back 71 = .ok (.iconst 0, 1) := by decide +kernel
theorem dX9_back_72 : decode cX9_back 72 = .ok (.istore_n 2, 1) := by decide +kernel
theorem dX9_back_73 : decode cX9_back 73 = .ok (.iload_n 2, 1) := by decide +kernel
theorem dX9_back_74 : decode cX9_back 74 = .ok (.bipush 6, 2) := by decide +kernel
theorem dX9_back_76 : decode cX9_back 76 = .ok (.if_icmp .ge 39, 3) := by decide +kernel
theorem dX9_back_79 : decode cX9_back 79 = .ok (.aload_n 0, 1) := by decide +kernel
theorem dX9_back_80 : decode cX9_back 80 = .ok (.getfield 25, 3) := by decide +kernel
theorem dX9_back_83 : decode cX9_back 83 = .ok (.iload_n 2, 1) := by decide +kernel
theorem dX9_back_84 : decode cX9_back 84 = .ok (.aload_n 0, 1) := by decide +kernel
theorem dX9_back_85 : decode cX9_back 85 = .ok (.getfield 49, 3) := by decide +kernel
theorem dX9_back_88 : decode cX9_back 88 = .ok (.bipush 32, 2) := by decide +kernel
theorem dX9_back_90 : decode cX9_back 90 = .ok (.iload_n 2, 1) := by decide +kernel
theorem dX9_back_91 : decode cX9_back 91 = .ok (.iadd, 1) := by decide +kernel
theorem dX9_back_92 : decode cX9_back 92 = .ok (.iaload, 1) := by decide +kernel
theorem dX9_back_93 : decode cX9_back 93 = .ok (.iastore, 1) := by decide +kernel
theorem dX9_back_94 : decode cX9_back 94 = .ok (.aload_n 0, 1) := by decide +kernel
theorem dX9_back_95 : decode cX9_back 95 = .ok (.getfield 28, 3) := by decide +kernel
theorem dX9_back_98 : decode cX9_back 98 = .ok (.iload_n 2, 1) := by decide +kernel
theorem dX9_back_99 : decode cX9_back 99 = .ok (.aload_n 0, 1) := by decide +kernel
theorem dX9_back_100 : decode cX9_back 100 = .ok (.getfield 49, 3) := by decide +kernel
theorem dX9_back_103 : decode cX9_back 103 = .ok (.bipush 38, 2) := by decide +kernel
theorem dX9_back_105 : decode cX9_back 105 = .ok (.iload_n 2, 1) := by decide +kernel
theorem dX9_back_106 : decode cX9_back 106 = .ok (.iadd, 1) := by decide +kernel
theorem dX9_back_107 : decode cX9_back 107 = .ok (.iaload, 1) := by decide +kernel
theorem dX9_back_108 : decode cX9_back 108 = .ok (.iastore, 1) := by decide +kernel
theorem dX9_back_109 : decode cX9_back 109 = .ok (.iinc 2 1, 3) := by decide +kernel
theorem dX9_back_112 : decode cX9_back 112 = .ok (.goto (-39), 3) := by decide +kernel
theorem dX9_back_115 : decode cX9_back 115 = .ok (.iload_n 1, 1) := by decide +kernel
theorem dX9_back_116 : decode cX9_back 116 = .ok (.ireturn, 1) := by decide +kernel
theorem dX9_goDays_0 : decode cX9_goDays 0 = .ok (.aload_n 0, 1) := by decide +kernel
theorem dX9_goDays_1 : decode cX9_goDays 1 = .ok (.iconst 0, 1) := by decide +kernel
theorem dX9_goDays_2 : decode cX9_goDays 2 = .ok (.putfield 151, 3) := by decide +kernel
theorem dX9_goDays_5 : decode cX9_goDays 5 = .ok (.aload_n 0, 1) := by decide +kernel
theorem dX9_goDays_6 : decode cX9_goDays 6 = .ok (.bipush (-6), 2) := by decide +kernel
theorem dX9_goDays_8 : decode cX9_goDays 8 = .ok (.putfield 154, 3) := by decide +kernel
theorem dX9_goDays_11 : decode cX9_goDays 11 = .ok (.aload_n 0, 1) := by decide +kernel
theorem dX9_goDays_12 : decode cX9_goDays 12 = .ok (.bipush (-6), 2) := by decide +kernel
theorem dX9_goDays_14 : decode cX9_goDays 14 = .ok (.putfield 173, 3) := by decide +kernel
theorem dX9_goDays_17 : decode cX9_goDays 17 = .ok (.aload_n 0, 1) := by decide +kernel
theorem dX9_goDays_18 : decode cX9_goDays 18 = .ok (.bipush (-6), 2) := by decide +kernel
theorem dX9_goDays_20 : decode cX9_goDays 20 = .ok (.putfield 176, 3) := by decide +kernel
theorem dX9_goDays_23 : decode cX9_goDays 23 = .ok (.iconst 0, 1) := by decide +kernel
theorem dX9_goDays_24 : decode cX9_goDays 24 = .ok (.istore_n 1, 1) := by decide +kernel
theorem dX9_goDays_25 : decode cX9_goDays 25 = .ok (.iload_n 1, 1) := by decide +kernel
theorem dX9_goDays_26 : decode cX9_goDays 26 = .ok (.aload_n 0, 1) := by decide +kernel
theorem dX9_goDays_27 : decode cX9_goDays 27 = .ok (.getfield 123, 3) := by decide +kernel
theorem dX9_goDays_30 : decode cX9_goDays 30 = .ok (.if_icmp .ge 86, 3) := by decide +kernel
theorem dX9_goDays_33 : decode cX9_goDays 33 = .ok (.aload_n 0, 1) := by decide +kernel
theorem dX9_goDays_34 : decode cX9_goDays 34 = .ok (.getfield 173, 3) := by decide +kernel
theorem dX9_goDays_37 : decode cX9_goDays 37 = .ok (.ifCond .ge 79, 3) := by decide +kernel
theorem dX9_goDays_40 : decode cX9_goDays 40 = .ok (.aload_n 0, 1) := by decide +kernel
theorem dX9_goDays_41 : decode cX9_goDays 41 = .ok (.iload_n 1, 1) := by decide +kernel
theorem dX9_goDays_42 : decode cX9_goDays 42 = .ok (.putfield 157, 3) := by decide +kernel
theorem dX9_goDays_45 : decode cX9_goDays 45 = .ok (.aload_n 0, 1) := by decide +kernel
theorem dX9_goDays_46 : decode cX9_goDays 46 = .ok (.aload_n 0, 1) := by decide +kernel
theorem dX9_goDays_47 : decode cX9_goDays 47 = .ok (.getfield 43, 3) := by decide +kernel
theorem dX9_goDays_50 : decode cX9_goDays 50 = .ok (.iload_n 1, 1) := by decide +kernel
theorem dX9_goDays_51 : decode cX9_goDays 51 = .ok (.iaload, 1) := by decide +kernel
theorem dX9_goDays_52 : decode cX9_goDays 52 = .ok (.aload_n 0, 1) := by decide +kernel
theorem dX9_goDays_53 : decode cX9_goDays 53 = .ok (.getfield 46, 3) := by decide +kernel
theorem dX9_goDays_56 : decode cX9_goDays 56 = .ok (.iload_n 1, 1) := by decide +kernel
theorem dX9_goDays_57 : decode cX9_goDays 57 = .ok (.iaload, 1) := by decide +kernel
theorem dX9_goDays_58 : decode cX9_goDays 58 = .ok (.invokevirtual 179, 3) := by decide +kernel
theorem dX9_goDays_61 : decode cX9_goDays 61 = .ok (.istore_n 2, 1) := by decide +kernel
theorem dX9_goDays_62 : decode cX9_goDays 62 = .ok (.aload_n 0, 1) := by decide +kernel
theorem dX9_goDays_63 : decode cX9_goDays 63 = .ok (.iload_n 2, 1) := by decide +kernel
theorem dX9_goDays_64 : decode cX9_goDays 64 = .ok (.ifCond .le 7, 3) := by decide +kernel
theorem dX9_goDays_67 : decode cX9_goDays 67 = .ok (.iload_n 1, 1) := by decide +kernel
theorem dX9_goDays_68 : decode cX9_goDays 68 = .ok (.goto 5, 3) := by decide +kernel
theorem dX9_goDays_71 : decode cX9_goDays 71 = .ok (.bipush (-6), 2) := by decide +kernel
theorem dX9_goDays_73 : decode cX9_goDays 73 = .ok (.putfield 173, 3) := by decide +kernel
theorem dX9_goDays_76 : decode cX9_goDays 76 = .ok (.aload_n 0, 1) := by decide +kernel
theorem dX9_goDays_77 : decode cX9_goDays 77 = .ok (.iload_n 2, 1) := by decide +kernel
theorem dX9_goDays_78 : decode cX9_goDays 78 = .ok (.ifCond .le 7, 3) := by decide +kernel
theorem dX9_goDays_81 : decode cX9_goDays 81 = .ok (.iload_n 2, 1) := by decide +kernel
theorem dX9_goDays_82 : decode cX9_goDays 82 = .ok (.goto 5, 3) := by decide +kernel
theorem dX9_goDays_85 : decode cX9_goDays 85 = .ok (.bipush (-6), 2) := by decide +kernel
theorem dX9_goDays_87 : decode cX9_goDays 87 = .ok (.putfield 176, 3) := by decide +kernel
theorem dX9_goDays_90 : decode cX9_goDays 90 = .ok (.iload_n 2, 1) := by decide +kernel
theorem dX9_goDays_91 : decode cX9_goDays 91 = .ok (.ifCond .ne 19, 3) := by decide +kernel
theorem dX9_goDays_94 : decode cX9_goDays 94 = .ok (.aload_n 0, 1) := by decide +kernel
theorem dX9_goDays_95 : decode cX9_goDays 95 = .ok (.aload_n 0, 1) := by decide +kernel
theorem dX9_goDays_96 : decode cX9_goDays 96 = .ok (.getfield 43, 3) := by decide +kernel
theorem dX9_goDays_99 : decode cX9_goDays 99 = .ok (.iload_n 1, 1) := by decide +kernel
theorem dX9_goDays_100 : decode cX9_goDays 100 = .ok (.iaload, 1) := by decide +kernel
theorem dX9_goDays_101 : decode cX9_goDays 101 = .ok (.aload_n 0, 1) := by decide +kernel
theorem dX9_goDays_102 : decode cX9_goDays 102 = .ok (.getfield 46, 3) := by decide +kernel
theorem dX9_goDays_105 : decode cX9_goDays 105 = .ok (.iload_n 1, 1) := by decide +kernel
theorem dX9_goDays_106 : decode cX9_goDays 106 = .ok (.iaload, 1) := by decide +kernel
theorem dX9_goDays_107 : decode cX9_goDays 107 = .ok (.invokevirtual 182, 3) := by decide +kernel
theorem dX9_goDays_110 : decode cX9_goDays 110 = .ok (.iinc 1 1, 3) := by decide +kernel
theorem dX9_goDays_113 : decode cX9_goDays 113 = .ok (.goto (-88), 3) := by decide +kernel
theorem dX9_goDays_116 : decode cX9_goDays 116 = .ok (.return_, 1) := by decide +kernel
theorem dX9_refusal_0 : decode cX9_refusal 0 = .ok (.aload_n 0, 1) := by decide +kernel
theorem dX9_refusal_1 : decode cX9_refusal 1 = .ok (.invokevirtual 185, 3) := by decide +kernel
theorem dX9_refusal_4 : decode cX9_refusal 4 = .ok (.aload_n 0, 1) := by decide +kernel
theorem dX9_refusal_5 : decode cX9_refusal 5 = .ok (.invokevirtual 188, 3) := by decide +kernel
theorem dX9_refusal_8 : decode cX9_refusal 8 = .ok (.ifCond .lt 6, 3) := by decide +kernel
theorem dX9_refusal_11 : decode cX9_refusal 11 = .ok (.bipush (-5), 2) := by decide +kernel
theorem dX9_refusal_13 : decode cX9_refusal 13 = .ok (.ireturn, 1) := by decide +kernel
theorem dX9_refusal_14 : decode cX9_refusal 14 = .ok (.aload_n 0, 1) := by decide +kernel
theorem dX9_refusal_15 : decode cX9_refusal 15 = .ok (.invokevirtual 191, 3) := by decide +kernel
theorem dX9_refusal_18 : decode cX9_refusal 18 = .ok (.aload_n 0, 1) := by decide +kernel
theorem dX9_refusal_19 : decode cX9_refusal 19 = .ok (.getfield 173, 3) := by decide +kernel
theorem dX9_refusal_22 : decode cX9_refusal 22 = .ok (.ifCond .lt 8, 3) := by decide +kernel
theorem dX9_refusal_25 : decode cX9_refusal 25 = .ok (.bipush (-3), 2) := by decide +kernel
theorem dX9_refusal_27 : decode cX9_refusal 27 = .ok (.goto 5, 3) := by decide +kernel
theorem dX9_refusal_30 : decode cX9_refusal 30 = .ok (.bipush (-6), 2) := by decide +kernel
theorem dX9_refusal_32 : decode cX9_refusal 32 = .ok (.ireturn, 1) := by decide +kernel
theorem dX9_judge_0 : decode cX9_judge 0 = .ok (.iload_n 1, 1) := by decide +kernel
theorem dX9_judge_1 : decode cX9_judge 1 = .ok (.i2l, 1) := by decide +kernel
theorem dX9_judge_2 : decode cX9_judge 2 = .ok (.lconst 0, 1) := by decide +kernel
theorem dX9_judge_3 : decode cX9_judge 3 = .ok (.ldc2_w 194, 3) := by decide +kernel
theorem dX9_judge_6 : decode cX9_judge 6 = .ok (.invokestatic 86, 3) := by decide +kernel
theorem dX9_judge_9 : decode cX9_judge 9 = .ok (.ifCond .ne 6, 3) := by decide +kernel
theorem dX9_judge_12 : decode cX9_judge 12 = .ok (.bipush (-2), 2) := by decide +kernel
theorem dX9_judge_14 : decode cX9_judge 14 = .ok (.ireturn, 1) := by decide +kernel
theorem dX9_judge_15 : decode cX9_judge 15 = .ok (.aload_n 0, 1) := by decide +kernel
theorem dX9_judge_16 : decode cX9_judge 16 = .ok (.aload_n 0, 1) := by decide +kernel
theorem dX9_judge_17 : decode cX9_judge 17 = .ok (.invokevirtual 196, 3) := by decide +kernel
theorem dX9_judge_20 : decode cX9_judge 20 = .ok (.invokevirtual 199, 3) := by decide +kernel
theorem dX9_judge_23 : decode cX9_judge 23 = .ok (.istore_n 2, 1) := by decide +kernel
theorem dX9_judge_24 : decode cX9_judge 24 = .ok (.iload_n 2, 1) := by decide +kernel
theorem dX9_judge_25 : decode cX9_judge 25 = .ok (.bipush (-5), 2) := by decide +kernel
theorem dX9_judge_27 : decode cX9_judge 27 = .ok (.if_icmp .eq 14, 3) := by decide +kernel
theorem dX9_judge_30 : decode cX9_judge 30 = .ok (.iload_n 1, 1) := by decide +kernel
theorem dX9_judge_31 : decode cX9_judge 31 = .ok (.iconst 1, 1) := by decide +kernel
theorem dX9_judge_32 : decode cX9_judge 32 = .ok (.if_icmp .le 11, 3) := by decide +kernel
theorem dX9_judge_35 : decode cX9_judge 35 = .ok (.iload_n 2, 1) := by decide +kernel
theorem dX9_judge_36 : decode cX9_judge 36 = .ok (.bipush (-3), 2) := by decide +kernel
theorem dX9_judge_38 : decode cX9_judge 38 = .ok (.if_icmp .ne 5, 3) := by decide +kernel
theorem dX9_judge_41 : decode cX9_judge 41 = .ok (.iload_n 2, 1) := by decide +kernel
theorem dX9_judge_42 : decode cX9_judge 42 = .ok (.ireturn, 1) := by decide +kernel
theorem dX9_judge_43 : decode cX9_judge 43 = .ok (.iload_n 1, 1) := by decide +kernel
theorem dX9_judge_44 : decode cX9_judge 44 = .ok (.ifCond .ne 10, 3) := by decide +kernel
theorem dX9_judge_47 : decode cX9_judge 47 = .ok (.aload_n 0, 1) := by decide +kernel
theorem dX9_judge_48 : decode cX9_judge 48 = .ok (.getfield 173, 3) := by decide +kernel
theorem dX9_judge_51 : decode cX9_judge 51 = .ok (.goto 19, 3) := by decide +kernel
theorem dX9_judge_54 : decode cX9_judge 54 = .ok (.iload_n 1, 1) := by decide +kernel
theorem dX9_judge_55 : decode cX9_judge 55 = .ok (.iconst 1, 1) := by decide +kernel
theorem dX9_judge_56 : decode cX9_judge 56 = .ok (.if_icmp .ne 10, 3) := by decide +kernel
theorem dX9_judge_59 : decode cX9_judge 59 = .ok (.aload_n 0, 1) := by decide +kernel
theorem dX9_judge_60 : decode cX9_judge 60 = .ok (.getfield 176, 3) := by decide +kernel
theorem dX9_judge_63 : decode cX9_judge 63 = .ok (.goto 7, 3) := by decide +kernel
theorem dX9_judge_66 : decode cX9_judge 66 = .ok (.aload_n 0, 1) := by decide +kernel
theorem dX9_judge_67 : decode cX9_judge 67 = .ok (.getfield 151, 3) := by decide +kernel
theorem dX9_judge_70 : decode cX9_judge 70 = .ok (.ireturn, 1) := by decide +kernel
theorem dX9_ofFlake_0 : decode cX9_ofFlake 0 = .ok (.iload_n 2, 1) := by decide +kernel
theorem dX9_ofFlake_1 : decode cX9_ofFlake 1 = .ok (.tableswitch 48 0 2 #[27, 34, 41], 27) := by decide +kernel
theorem dX9_ofFlake_28 : decode cX9_ofFlake 28 = .ok (.aload_n 0, 1) := by decide +kernel
theorem dX9_ofFlake_29 : decode cX9_ofFlake 29 = .ok (.getfield 7, 3) := by decide +kernel
theorem dX9_ofFlake_32 : decode cX9_ofFlake 32 = .ok (.iload_n 1, 1) := by decide +kernel
theorem dX9_ofFlake_33 : decode cX9_ofFlake 33 = .ok (.iaload, 1) := by decide +kernel
theorem dX9_ofFlake_34 : decode cX9_ofFlake 34 = .ok (.ireturn, 1) := by decide +kernel
theorem dX9_ofFlake_35 : decode cX9_ofFlake 35 = .ok (.aload_n 0, 1) := by decide +kernel
theorem dX9_ofFlake_36 : decode cX9_ofFlake 36 = .ok (.getfield 13, 3) := by decide +kernel
theorem dX9_ofFlake_39 : decode cX9_ofFlake 39 = .ok (.iload_n 1, 1) := by decide +kernel
theorem dX9_ofFlake_40 : decode cX9_ofFlake 40 = .ok (.iaload, 1) := by decide +kernel
theorem dX9_ofFlake_41 : decode cX9_ofFlake 41 = .ok (.ireturn, 1) := by decide +kernel
theorem dX9_ofFlake_42 : decode cX9_ofFlake 42 = .ok (.aload_n 0, 1) := by decide +kernel
theorem dX9_ofFlake_43 : decode cX9_ofFlake 43 = .ok (.getfield 16, 3) := by decide +kernel
theorem dX9_ofFlake_46 : decode cX9_ofFlake 46 = .ok (.iload_n 1, 1) := by decide +kernel
theorem dX9_ofFlake_47 : decode cX9_ofFlake 47 = .ok (.iaload, 1) := by decide +kernel
theorem dX9_ofFlake_48 : decode cX9_ofFlake 48 = .ok (.ireturn, 1) := by decide +kernel
theorem dX9_ofFlake_49 : decode cX9_ofFlake 49 = .ok (.aload_n 0, 1) := by decide +kernel
theorem dX9_ofFlake_50 : decode cX9_ofFlake 50 = .ok (.getfield 22, 3) := by decide +kernel
theorem dX9_ofFlake_53 : decode cX9_ofFlake 53 = .ok (.iload_n 1, 1) := by decide +kernel
theorem dX9_ofFlake_54 : decode cX9_ofFlake 54 = .ok (.iaload, 1) := by decide +kernel
theorem dX9_ofFlake_55 : decode cX9_ofFlake 55 = .ok (.ireturn, 1) := by decide +kernel
theorem dX9_behind_0 : decode cX9_behind 0 = .ok (.aload_n 0, 1) := by decide +kernel
theorem dX9_behind_1 : decode cX9_behind 1 = .ok (.iload_n 1, 1) := by decide +kernel
theorem dX9_behind_2 : decode cX9_behind 2 = .ok (.invokevirtual 113, 3) := by decide +kernel
theorem dX9_behind_5 : decode cX9_behind 5 = .ok (.ifCond .ne 5, 3) := by decide +kernel
theorem dX9_behind_8 : decode cX9_behind 8 = .ok (.iconst (-1), 1) := by decide +kernel
theorem dX9_behind_9 : decode cX9_behind 9 = .ok (.ireturn, 1) := by decide +kernel
theorem dX9_behind_10 : decode cX9_behind 10 = .ok (.iload_n 2, 1) := by decide +kernel
theorem dX9_behind_11 : decode cX9_behind 11 = .ok (.i2l, 1) := by decide +kernel
theorem dX9_behind_12 : decode cX9_behind 12 = .ok (.lconst 0, 1) := by decide +kernel
theorem dX9_behind_13 : decode cX9_behind 13 = .ok (.ldc2_w 202, 3) := by decide +kernel
theorem dX9_behind_16 : decode cX9_behind 16 = .ok (.invokestatic 86, 3) := by decide +kernel
theorem dX9_behind_19 : decode cX9_behind 19 = .ok (.ifCond .ne 6, 3) := by decide +kernel
theorem dX9_behind_22 : decode cX9_behind 22 = .ok (.bipush (-2), 2) := by decide +kernel
theorem dX9_behind_24 : decode cX9_behind 24 = .ok (.ireturn, 1) := by decide +kernel
theorem dX9_behind_25 : decode cX9_behind 25 = .ok (.aload_n 0, 1) := by decide +kernel
theorem dX9_behind_26 : decode cX9_behind 26 = .ok (.invokevirtual 196, 3) := by decide +kernel
theorem dX9_behind_29 : decode cX9_behind 29 = .ok (.istore_n 3, 1) := by decide +kernel
theorem dX9_behind_30 : decode cX9_behind 30 = .ok (.aload_n 0, 1) := by decide +kernel
theorem dX9_behind_31 : decode cX9_behind 31 = .ok (.iload_n 3, 1) := by decide +kernel
theorem dX9_behind_32 : decode cX9_behind 32 = .ok (.bipush (-6), 2) := by decide +kernel
theorem dX9_behind_34 : decode cX9_behind 34 = .ok (.if_icmp .eq 7, 3) := by decide +kernel
theorem dX9_behind_37 : decode cX9_behind 37 = .ok (.iload_n 3, 1) := by decide +kernel
theorem dX9_behind_38 : decode cX9_behind 38 = .ok (.goto 9, 3) := by decide +kernel
theorem dX9_behind_41 : decode cX9_behind 41 = .ok (.aload_n 0, 1) := by decide +kernel
theorem dX9_behind_42 : decode cX9_behind 42 = .ok (.iload_n 1, 1) := by decide +kernel
theorem dX9_behind_43 : decode cX9_behind 43 = .ok (.iload_n 2, 1) := by decide +kernel
theorem dX9_behind_44 : decode cX9_behind 44 = .ok (.invokevirtual 204, 3) := by decide +kernel
theorem dX9_behind_47 : decode cX9_behind 47 = .ok (.invokevirtual 199, 3) := by decide +kernel
theorem dX9_behind_50 : decode cX9_behind 50 = .ok (.ireturn, 1) := by decide +kernel
theorem dX9_flakesOf_0 : decode cX9_flakesOf 0 = .ok (.iconst 0, 1) := by decide +kernel
theorem dX9_flakesOf_1 : decode cX9_flakesOf 1 = .ok (.istore_n 2, 1) := by decide +kernel
theorem dX9_flakesOf_2 : decode cX9_flakesOf 2 = .ok (.iconst 0, 1) := by decide +kernel
theorem dX9_flakesOf_3 : decode cX9_flakesOf 3 = .ok (.istore_n 3, 1) := by decide +kernel
theorem dX9_flakesOf_4 : decode cX9_flakesOf 4 = .ok (.iload_n 3, 1) := by decide +kernel
theorem dX9_flakesOf_5 : decode cX9_flakesOf 5 = .ok (.bipush 8, 2) := by decide +kernel
theorem dX9_flakesOf_7 : decode cX9_flakesOf 7 = .ok (.if_icmp .ge 37, 3) := by decide +kernel
theorem dX9_flakesOf_10 : decode cX9_flakesOf 10 = .ok (.iload_n 2, 1) := by decide +kernel
theorem dX9_flakesOf_11 : decode cX9_flakesOf 11 = .ok (.aload_n 0, 1) := by decide +kernel
theorem dX9_flakesOf_12 : decode cX9_flakesOf 12 = .ok (.iload_n 3, 1) := by decide +kernel
theorem dX9_flakesOf_13 : decode cX9_flakesOf 13 = .ok (.invokevirtual 113, 3) := by decide +kernel
theorem dX9_flakesOf_16 : decode cX9_flakesOf 16 = .ok (.ifCond .eq 19, 3) := by decide +kernel
theorem dX9_flakesOf_19 : decode cX9_flakesOf 19 = .ok (.aload_n 0, 1) := by decide +kernel
theorem dX9_flakesOf_20 : decode cX9_flakesOf 20 = .ok (.getfield 22, 3) := by decide +kernel
theorem dX9_flakesOf_23 : decode cX9_flakesOf 23 = .ok (.iload_n 3, 1) := by decide +kernel
theorem dX9_flakesOf_24 : decode cX9_flakesOf 24 = .ok (.iaload, 1) := by decide +kernel
theorem dX9_flakesOf_25 : decode cX9_flakesOf 25 = .ok (.iload_n 1, 1) := by decide +kernel
theorem dX9_flakesOf_26 : decode cX9_flakesOf 26 = .ok (.if_icmp .ne 9, 3) := by decide +kernel
theorem dX9_flakesOf_29 : decode cX9_flakesOf 29 = .ok (.iconst 1, 1) := by decide +kernel
theorem dX9_flakesOf_30 : decode cX9_flakesOf 30 = .ok (.iload_n 3, 1) := by decide +kernel
theorem dX9_flakesOf_31 : decode cX9_flakesOf 31 = .ok (.ishl, 1) := by decide +kernel
theorem dX9_flakesOf_32 : decode cX9_flakesOf 32 = .ok (.goto 4, 3) := by decide +kernel
theorem dX9_flakesOf_35 : decode cX9_flakesOf 35 = .ok (.iconst 0, 1) := by decide +kernel
theorem dX9_flakesOf_36 : decode cX9_flakesOf 36 = .ok (.ior, 1) := by decide +kernel
theorem dX9_flakesOf_37 : decode cX9_flakesOf 37 = .ok (.istore_n 2, 1) := by decide +kernel
theorem dX9_flakesOf_38 : decode cX9_flakesOf 38 = .ok (.iinc 3 1, 3) := by decide +kernel
theorem dX9_flakesOf_41 : decode cX9_flakesOf 41 = .ok (.goto (-37), 3) := by decide +kernel
theorem dX9_flakesOf_44 : decode cX9_flakesOf 44 = .ok (.iload_n 2, 1) := by decide +kernel
theorem dX9_flakesOf_45 : decode cX9_flakesOf 45 = .ok (.ireturn, 1) := by decide +kernel
theorem dX9_stands_0 : decode cX9_stands 0 = .ok (.iload_n 1, 1) := by decide +kernel
theorem dX9_stands_1 : decode cX9_stands 1 = .ok (.invokestatic 98, 3) := by decide +kernel
theorem dX9_stands_4 : decode cX9_stands 4 = .ok (.ifCond .ne 5, 3) := by decide +kernel
theorem dX9_stands_7 : decode cX9_stands 7 = .ok (.iconst (-1), 1) := by decide +kernel
theorem dX9_stands_8 : decode cX9_stands 8 = .ok (.ireturn, 1) := by decide +kernel
theorem dX9_stands_9 : decode cX9_stands 9 = .ok (.iload_n 2, 1) := by decide +kernel
theorem dX9_stands_10 : decode cX9_stands 10 = .ok (.i2l, 1) := by decide +kernel
theorem dX9_stands_11 : decode cX9_stands 11 = .ok (.lconst 0, 1) := by decide +kernel
theorem dX9_stands_12 : decode cX9_stands 12 = .ok (.ldc2_w 194, 3) := by decide +kernel
theorem dX9_stands_15 : decode cX9_stands 15 = .ok (.invokestatic 86, 3) := by decide +kernel
theorem dX9_stands_18 : decode cX9_stands 18 = .ok (.ifCond .ne 6, 3) := by decide +kernel
theorem dX9_stands_21 : decode cX9_stands 21 = .ok (.bipush (-2), 2) := by decide +kernel
theorem dX9_stands_23 : decode cX9_stands 23 = .ok (.ireturn, 1) := by decide +kernel
theorem dX9_stands_24 : decode cX9_stands 24 = .ok (.aload_n 0, 1) := by decide +kernel
theorem dX9_stands_25 : decode cX9_stands 25 = .ok (.invokevirtual 196, 3) := by decide +kernel
theorem dX9_stands_28 : decode cX9_stands 28 = .ok (.istore_n 3, 1) := by decide +kernel
theorem dX9_stands_29 : decode cX9_stands 29 = .ok (.iload_n 2, 1) := by decide +kernel
theorem dX9_stands_30 : decode cX9_stands 30 = .ok (.ifCond .ne 12, 3) := by decide +kernel
theorem dX9_stands_33 : decode cX9_stands 33 = .ok (.aload_n 0, 1) := by decide +kernel
theorem dX9_stands_34 : decode cX9_stands 34 = .ok (.getfield 25, 3) := by decide +kernel
theorem dX9_stands_37 : decode cX9_stands 37 = .ok (.iload_n 1, 1) := by decide +kernel
theorem dX9_stands_38 : decode cX9_stands 38 = .ok (.iaload, 1) := by decide +kernel
theorem dX9_stands_39 : decode cX9_stands 39 = .ok (.goto 22, 3) := by decide +kernel
theorem dX9_stands_42 : decode cX9_stands 42 = .ok (.iload_n 2, 1) := by decide +kernel
theorem dX9_stands_43 : decode cX9_stands 43 = .ok (.iconst 1, 1) := by decide +kernel
theorem dX9_stands_44 : decode cX9_stands 44 = .ok (.if_icmp .ne 12, 3) := by decide +kernel
theorem dX9_stands_47 : decode cX9_stands 47 = .ok (.aload_n 0, 1) := by decide +kernel
theorem dX9_stands_48 : decode cX9_stands 48 = .ok (.getfield 28, 3) := by decide +kernel
theorem dX9_stands_51 : decode cX9_stands 51 = .ok (.iload_n 1, 1) := by decide +kernel
theorem dX9_stands_52 : decode cX9_stands 52 = .ok (.iaload, 1) := by decide +kernel
theorem dX9_stands_53 : decode cX9_stands 53 = .ok (.goto 8, 3) := by decide +kernel
theorem dX9_stands_56 : decode cX9_stands 56 = .ok (.aload_n 0, 1) := by decide +kernel
theorem dX9_stands_57 : decode cX9_stands 57 = .ok (.iload_n 1, 1) := by decide +kernel
theorem dX9_stands_58 : decode cX9_stands 58 = .ok (.invokevirtual 207, 3) := by decide +kernel
theorem dX9_stands_61 : decode cX9_stands 61 = .ok (.istore 4, 2) := by decide +kernel
theorem dX9_stands_63 : decode cX9_stands 63 = .ok (.aload_n 0, 1) := by decide +kernel
theorem dX9_stands_64 : decode cX9_stands 64 = .ok (.iload_n 3, 1) := by decide +kernel
theorem dX9_stands_65 : decode cX9_stands 65 = .ok (.bipush (-6), 2) := by decide +kernel
theorem dX9_stands_67 : decode cX9_stands 67 = .ok (.if_icmp .eq 7, 3) := by decide +kernel
theorem dX9_stands_70 : decode cX9_stands 70 = .ok (.iload_n 3, 1) := by decide +kernel
theorem dX9_stands_71 : decode cX9_stands 71 = .ok (.goto 5, 3) := by decide +kernel
theorem dX9_stands_74 : decode cX9_stands 74 = .ok (.iload 4, 2) := by decide +kernel
theorem dX9_stands_76 : decode cX9_stands 76 = .ok (.invokevirtual 199, 3) := by decide +kernel
theorem dX9_stands_79 : decode cX9_stands 79 = .ok (.ireturn, 1) := by decide +kernel
theorem dX9_postedNow_0 : decode cX9_postedNow 0 = .ok (.iconst 0, 1) := by decide +kernel
theorem dX9_postedNow_1 : decode cX9_postedNow 1 = .ok (.istore_n 1, 1) := by decide +kernel
theorem dX9_postedNow_2 : decode cX9_postedNow 2 = .ok (.iconst 0, 1) := by decide +kernel
theorem dX9_postedNow_3 : decode cX9_postedNow 3 = .ok (.istore_n 2, 1) := by decide +kernel
theorem dX9_postedNow_4 : decode cX9_postedNow 4 = .ok (.iload_n 2, 1) := by decide +kernel
theorem dX9_postedNow_5 : decode cX9_postedNow 5 = .ok (.bipush 8, 2) := by decide +kernel
theorem dX9_postedNow_7 : decode cX9_postedNow 7 = .ok (.if_icmp .ge 42, 3) := by decide +kernel
theorem dX9_postedNow_10 : decode cX9_postedNow 10 = .ok (.iload_n 1, 1) := by decide +kernel
theorem dX9_postedNow_11 : decode cX9_postedNow 11 = .ok (.aload_n 0, 1) := by decide +kernel
theorem dX9_postedNow_12 : decode cX9_postedNow 12 = .ok (.iload_n 2, 1) := by decide +kernel
theorem dX9_postedNow_13 : decode cX9_postedNow 13 = .ok (.invokevirtual 113, 3) := by decide +kernel
theorem dX9_postedNow_16 : decode cX9_postedNow 16 = .ok (.ifCond .eq 24, 3) := by decide +kernel
theorem dX9_postedNow_19 : decode cX9_postedNow 19 = .ok (.aload_n 0, 1) := by decide +kernel
theorem dX9_postedNow_20 : decode cX9_postedNow 20 = .ok (.getfield 22, 3) := by decide +kernel
theorem dX9_postedNow_23 : decode cX9_postedNow 23 = .ok (.iload_n 2, 1) := by decide +kernel
theorem dX9_postedNow_24 : decode cX9_postedNow 24 = .ok (.iaload, 1) := by decide +kernel
theorem dX9_postedNow_25 : decode cX9_postedNow 25 = .ok (.aload_n 0, 1) := by decide +kernel
theorem dX9_postedNow_26 : decode cX9_postedNow 26 = .ok (.getfield 19, 3) := by decide +kernel
theorem dX9_postedNow_29 : decode cX9_postedNow 29 = .ok (.iload_n 2, 1) := by decide +kernel
theorem dX9_postedNow_30 : decode cX9_postedNow 30 = .ok (.iaload, 1) := by decide +kernel
theorem dX9_postedNow_31 : decode cX9_postedNow 31 = .ok (.if_icmp .ne 9, 3) := by decide +kernel
theorem dX9_postedNow_34 : decode cX9_postedNow 34 = .ok (.iconst 1, 1) := by decide +kernel
theorem dX9_postedNow_35 : decode cX9_postedNow 35 = .ok (.iload_n 2, 1) := by decide +kernel
theorem dX9_postedNow_36 : decode cX9_postedNow 36 = .ok (.ishl, 1) := by decide +kernel
theorem dX9_postedNow_37 : decode cX9_postedNow 37 = .ok (.goto 4, 3) := by decide +kernel
theorem dX9_postedNow_40 : decode cX9_postedNow 40 = .ok (.iconst 0, 1) := by decide +kernel
theorem dX9_postedNow_41 : decode cX9_postedNow 41 = .ok (.ior, 1) := by decide +kernel
theorem dX9_postedNow_42 : decode cX9_postedNow 42 = .ok (.istore_n 1, 1) := by decide +kernel
theorem dX9_postedNow_43 : decode cX9_postedNow 43 = .ok (.iinc 2 1, 3) := by decide +kernel
theorem dX9_postedNow_46 : decode cX9_postedNow 46 = .ok (.goto (-42), 3) := by decide +kernel
theorem dX9_postedNow_49 : decode cX9_postedNow 49 = .ok (.iload_n 1, 1) := by decide +kernel
theorem dX9_postedNow_50 : decode cX9_postedNow 50 = .ok (.ireturn, 1) := by decide +kernel
theorem dX9_riverNow_0 : decode cX9_riverNow 0 = .ok (.iconst 0, 1) := by decide +kernel
theorem dX9_riverNow_1 : decode cX9_riverNow 1 = .ok (.istore_n 1, 1) := by decide +kernel
theorem dX9_riverNow_2 : decode cX9_riverNow 2 = .ok (.iconst 0, 1) := by decide +kernel
theorem dX9_riverNow_3 : decode cX9_riverNow 3 = .ok (.istore_n 2, 1) := by decide +kernel
theorem dX9_riverNow_4 : decode cX9_riverNow 4 = .ok (.iload_n 2, 1) := by decide +kernel
theorem dX9_riverNow_5 : decode cX9_riverNow 5 = .ok (.bipush 8, 2) := by decide +kernel
theorem dX9_riverNow_7 : decode cX9_riverNow 7 = .ok (.if_icmp .ge 36, 3) := by decide +kernel
theorem dX9_riverNow_10 : decode cX9_riverNow 10 = .ok (.iload_n 1, 1) := by decide +kernel
theorem dX9_riverNow_11 : decode cX9_riverNow 11 = .ok (.aload_n 0, 1) := by decide +kernel
theorem dX9_riverNow_12 : decode cX9_riverNow 12 = .ok (.iload_n 2, 1) := by decide +kernel
theorem dX9_riverNow_13 : decode cX9_riverNow 13 = .ok (.invokevirtual 113, 3) := by decide +kernel
theorem dX9_riverNow_16 : decode cX9_riverNow 16 = .ok (.ifCond .eq 18, 3) := by decide +kernel
theorem dX9_riverNow_19 : decode cX9_riverNow 19 = .ok (.aload_n 0, 1) := by decide +kernel
theorem dX9_riverNow_20 : decode cX9_riverNow 20 = .ok (.getfield 13, 3) := by decide +kernel
theorem dX9_riverNow_23 : decode cX9_riverNow 23 = .ok (.iload_n 2, 1) := by decide +kernel
theorem dX9_riverNow_24 : decode cX9_riverNow 24 = .ok (.iaload, 1) := by decide +kernel
theorem dX9_riverNow_25 : decode cX9_riverNow 25 = .ok (.ifCond .ge 9, 3) := by decide +kernel
theorem dX9_riverNow_28 : decode cX9_riverNow 28 = .ok (.iconst 1, 1) := by decide +kernel
theorem dX9_riverNow_29 : decode cX9_riverNow 29 = .ok (.iload_n 2, 1) := by decide +kernel
theorem dX9_riverNow_30 : decode cX9_riverNow 30 = .ok (.ishl, 1) := by decide +kernel
theorem dX9_riverNow_31 : decode cX9_riverNow 31 = .ok (.goto 4, 3) := by decide +kernel
theorem dX9_riverNow_34 : decode cX9_riverNow 34 = .ok (.iconst 0, 1) := by decide +kernel
theorem dX9_riverNow_35 : decode cX9_riverNow 35 = .ok (.ior, 1) := by decide +kernel
theorem dX9_riverNow_36 : decode cX9_riverNow 36 = .ok (.istore_n 1, 1) := by decide +kernel
theorem dX9_riverNow_37 : decode cX9_riverNow 37 = .ok (.iinc 2 1, 3) := by decide +kernel
theorem dX9_riverNow_40 : decode cX9_riverNow 40 = .ok (.goto (-36), 3) := by decide +kernel
theorem dX9_riverNow_43 : decode cX9_riverNow 43 = .ok (.iload_n 1, 1) := by decide +kernel
theorem dX9_riverNow_44 : decode cX9_riverNow 44 = .ok (.ireturn, 1) := by decide +kernel
theorem dX9_posted_0 : decode cX9_posted 0 = .ok (.iload_n 1, 1) := by decide +kernel
theorem dX9_posted_1 : decode cX9_posted 1 = .ok (.i2l, 1) := by decide +kernel
theorem dX9_posted_2 : decode cX9_posted 2 = .ok (.lconst 0, 1) := by decide +kernel
theorem dX9_posted_3 : decode cX9_posted 3 = .ok (.ldc2_w 194, 3) := by decide +kernel
theorem dX9_posted_6 : decode cX9_posted 6 = .ok (.invokestatic 86, 3) := by decide +kernel
theorem dX9_posted_9 : decode cX9_posted 9 = .ok (.ifCond .ne 6, 3) := by decide +kernel
theorem dX9_posted_12 : decode cX9_posted 12 = .ok (.bipush (-2), 2) := by decide +kernel
theorem dX9_posted_14 : decode cX9_posted 14 = .ok (.ireturn, 1) := by decide +kernel
theorem dX9_posted_15 : decode cX9_posted 15 = .ok (.aload_n 0, 1) := by decide +kernel
theorem dX9_posted_16 : decode cX9_posted 16 = .ok (.invokevirtual 196, 3) := by decide +kernel
theorem dX9_posted_19 : decode cX9_posted 19 = .ok (.istore_n 2, 1) := by decide +kernel
theorem dX9_posted_20 : decode cX9_posted 20 = .ok (.iload_n 1, 1) := by decide +kernel
theorem dX9_posted_21 : decode cX9_posted 21 = .ok (.ifCond .ne 10, 3) := by decide +kernel
theorem dX9_posted_24 : decode cX9_posted 24 = .ok (.aload_n 0, 1) := by decide +kernel
theorem dX9_posted_25 : decode cX9_posted 25 = .ok (.invokevirtual 210, 3) := by decide +kernel
theorem dX9_posted_28 : decode cX9_posted 28 = .ok (.goto 22, 3) := by decide +kernel
theorem dX9_posted_31 : decode cX9_posted 31 = .ok (.iload_n 1, 1) := by decide +kernel
theorem dX9_posted_32 : decode cX9_posted 32 = .ok (.iconst 1, 1) := by decide +kernel
theorem dX9_posted_33 : decode cX9_posted 33 = .ok (.if_icmp .ne 10, 3) := by decide +kernel
theorem dX9_posted_36 : decode cX9_posted 36 = .ok (.aload_n 0, 1) := by decide +kernel
theorem dX9_posted_37 : decode cX9_posted 37 = .ok (.getfield 154, 3) := by decide +kernel
theorem dX9_posted_40 : decode cX9_posted 40 = .ok (.goto 10, 3) := by decide +kernel
theorem dX9_posted_43 : decode cX9_posted 43 = .ok (.aload_n 0, 1) := by decide +kernel
theorem dX9_posted_44 : decode cX9_posted 44 = .ok (.invokevirtual 213, 3) := by decide +kernel
theorem dX9_posted_47 : decode cX9_posted 47 = .ok (.invokestatic 109, 3) := by decide +kernel
theorem dX9_posted_50 : decode cX9_posted 50 = .ok (.istore_n 3, 1) := by decide +kernel
theorem dX9_posted_51 : decode cX9_posted 51 = .ok (.aload_n 0, 1) := by decide +kernel
theorem dX9_posted_52 : decode cX9_posted 52 = .ok (.iload_n 2, 1) := by decide +kernel
theorem dX9_posted_53 : decode cX9_posted 53 = .ok (.bipush (-6), 2) := by decide +kernel
theorem dX9_posted_55 : decode cX9_posted 55 = .ok (.if_icmp .eq 7, 3) := by decide +kernel
theorem dX9_posted_58 : decode cX9_posted 58 = .ok (.iload_n 2, 1) := by decide +kernel
theorem dX9_posted_59 : decode cX9_posted 59 = .ok (.goto 4, 3) := by decide +kernel
theorem dX9_posted_62 : decode cX9_posted 62 = .ok (.iload_n 3, 1) := by decide +kernel
theorem dX9_posted_63 : decode cX9_posted 63 = .ok (.invokevirtual 199, 3) := by decide +kernel
theorem dX9_posted_66 : decode cX9_posted 66 = .ok (.ireturn, 1) := by decide +kernel
theorem dX9_done_0 : decode cX9_done 0 = .ok (.aload_n 0, 1) := by decide +kernel
theorem dX9_done_1 : decode cX9_done 1 = .ok (.invokevirtual 196, 3) := by decide +kernel
theorem dX9_done_4 : decode cX9_done 4 = .ok (.istore_n 1, 1) := by decide +kernel
theorem dX9_done_5 : decode cX9_done 5 = .ok (.iload_n 1, 1) := by decide +kernel
theorem dX9_done_6 : decode cX9_done 6 = .ok (.bipush (-6), 2) := by decide +kernel
theorem dX9_done_8 : decode cX9_done 8 = .ok (.if_icmp .eq 9, 3) := by decide +kernel
theorem dX9_done_11 : decode cX9_done 11 = .ok (.aload_n 0, 1) := by decide +kernel
theorem dX9_done_12 : decode cX9_done 12 = .ok (.iload_n 1, 1) := by decide +kernel
theorem dX9_done_13 : decode cX9_done 13 = .ok (.invokevirtual 199, 3) := by decide +kernel
theorem dX9_done_16 : decode cX9_done 16 = .ok (.ireturn, 1) := by decide +kernel
theorem dX9_done_17 : decode cX9_done 17 = .ok (.aload_n 0, 1) := by decide +kernel
theorem dX9_done_18 : decode cX9_done 18 = .ok (.iconst 0, 1) := by decide +kernel
theorem dX9_done_19 : decode cX9_done 19 = .ok (.putfield 120, 3) := by decide +kernel
theorem dX9_done_22 : decode cX9_done 22 = .ok (.aload_n 0, 1) := by decide +kernel
theorem dX9_done_23 : decode cX9_done 23 = .ok (.getfield 123, 3) := by decide +kernel
theorem dX9_done_26 : decode cX9_done 26 = .ok (.ireturn, 1) := by decide +kernel
theorem dX9_says_0 : decode cX9_says 0 = .ok (.iload_n 1, 1) := by decide +kernel
theorem dX9_says_1 : decode cX9_says 1 = .ok (.invokestatic 102, 3) := by decide +kernel
theorem dX9_says_4 : decode cX9_says 4 = .ok (.ifCond .ne 6, 3) := by decide +kernel
theorem dX9_says_7 : decode cX9_says 7 = .ok (.bipush (-2), 2) := by decide +kernel
theorem dX9_says_9 : decode cX9_says 9 = .ok (.ireturn, 1) := by decide +kernel
theorem dX9_says_10 : decode cX9_says 10 = .ok (.iconst 0, 1) := by decide +kernel
theorem dX9_says_11 : decode cX9_says 11 = .ok (.istore_n 2, 1) := by decide +kernel
theorem dX9_says_12 : decode cX9_says 12 = .ok (.iconst 0, 1) := by decide +kernel
theorem dX9_says_13 : decode cX9_says 13 = .ok (.istore_n 3, 1) := by decide +kernel
theorem dX9_says_14 : decode cX9_says 14 = .ok (.iconst 0, 1) := by decide +kernel
theorem dX9_says_15 : decode cX9_says 15 = .ok (.istore 4, 2) := by decide +kernel
theorem dX9_says_17 : decode cX9_says 17 = .ok (.iload 4, 2) := by decide +kernel
theorem dX9_says_19 : decode cX9_says 19 = .ok (.bipush 8, 2) := by decide +kernel
theorem dX9_says_21 : decode cX9_says 21 = .ok (.if_icmp .ge 70, 3) := by decide +kernel
theorem dX9_says_24 : decode cX9_says 24 = .ok (.iinc 3 1, 3) := by decide +kernel
theorem dX9_says_27 : decode cX9_says 27 = .ok (.iload 4, 2) := by decide +kernel
theorem dX9_says_29 : decode cX9_says 29 = .ok (.bipush 7, 2) := by decide +kernel
theorem dX9_says_31 : decode cX9_says 31 = .ok (.if_icmp .eq 20, 3) := by decide +kernel
theorem dX9_says_34 : decode cX9_says 34 = .ok (.iload_n 1, 1) := by decide +kernel
theorem dX9_says_35 : decode cX9_says 35 = .ok (.iload 4, 2) := by decide +kernel
theorem dX9_says_37 : decode cX9_says 37 = .ok (.ishr, 1) := by decide +kernel
theorem dX9_says_38 : decode cX9_says 38 = .ok (.iconst 1, 1) := by decide +kernel
theorem dX9_says_39 : decode cX9_says 39 = .ok (.iand, 1) := by decide +kernel
theorem dX9_says_40 : decode cX9_says 40 = .ok (.iload_n 1, 1) := by decide +kernel
theorem dX9_says_41 : decode cX9_says 41 = .ok (.iload 4, 2) := by decide +kernel
theorem dX9_says_43 : decode cX9_says 43 = .ok (.iconst 1, 1) := by decide +kernel
theorem dX9_says_44 : decode cX9_says 44 = .ok (.iadd, 1) := by decide +kernel
theorem dX9_says_45 : decode cX9_says 45 = .ok (.ishr, 1) := by decide +kernel
theorem dX9_says_46 : decode cX9_says 46 = .ok (.iconst 1, 1) := by decide +kernel
theorem dX9_says_47 : decode cX9_says 47 = .ok (.iand, 1) := by decide +kernel
theorem dX9_says_48 : decode cX9_says 48 = .ok (.if_icmp .eq 7, 3) := by decide +kernel
theorem dX9_says_51 : decode cX9_says 51 = .ok (.iconst 1, 1) := by decide +kernel
theorem dX9_says_52 : decode cX9_says 52 = .ok (.goto 4, 3) := by decide +kernel
theorem dX9_says_55 : decode cX9_says 55 = .ok (.iconst 0, 1) := by decide +kernel
theorem dX9_says_56 : decode cX9_says 56 = .ok (.istore 5, 2) := by decide +kernel
theorem dX9_says_58 : decode cX9_says 58 = .ok (.iload 5, 2) := by decide +kernel
theorem dX9_says_60 : decode cX9_says 60 = .ok (.ifCond .eq 12, 3) := by decide +kernel
theorem dX9_says_63 : decode cX9_says 63 = .ok (.bipush 10, 2) := by decide +kernel
theorem dX9_says_65 : decode cX9_says 65 = .ok (.iload_n 2, 1) := by decide +kernel
theorem dX9_says_66 : decode cX9_says 66 = .ok (.imul, 1) := by decide +kernel
theorem dX9_says_67 : decode cX9_says 67 = .ok (.iload_n 3, 1) := by decide +kernel
theorem dX9_says_68 : decode cX9_says 68 = .ok (.iadd, 1) := by decide +kernel
theorem dX9_says_69 : decode cX9_says 69 = .ok (.goto 4, 3) := by decide +kernel
theorem dX9_says_72 : decode cX9_says 72 = .ok (.iload_n 2, 1) := by decide +kernel
theorem dX9_says_73 : decode cX9_says 73 = .ok (.istore_n 2, 1) := by decide +kernel
theorem dX9_says_74 : decode cX9_says 74 = .ok (.iload 5, 2) := by decide +kernel
theorem dX9_says_76 : decode cX9_says 76 = .ok (.ifCond .eq 7, 3) := by decide +kernel
theorem dX9_says_79 : decode cX9_says 79 = .ok (.iconst 0, 1) := by decide +kernel
theorem dX9_says_80 : decode cX9_says 80 = .ok (.goto 4, 3) := by decide +kernel
theorem dX9_says_83 : decode cX9_says 83 = .ok (.iload_n 3, 1) := by decide +kernel
theorem dX9_says_84 : decode cX9_says 84 = .ok (.istore_n 3, 1) := by decide +kernel
theorem dX9_says_85 : decode cX9_says 85 = .ok (.iinc 4 1, 3) := by decide +kernel
theorem dX9_says_88 : decode cX9_says 88 = .ok (.goto (-71), 3) := by decide +kernel
theorem dX9_says_91 : decode cX9_says 91 = .ok (.iload_n 2, 1) := by decide +kernel
theorem dX9_says_92 : decode cX9_says 92 = .ok (.ireturn, 1) := by decide +kernel
theorem dX9_findWays_0 : decode cX9_findWays 0 = .ok (.iconst 0, 1) := by decide +kernel
theorem dX9_findWays_1 : decode cX9_findWays 1 = .ok (.istore_n 3, 1) := by decide +kernel
theorem dX9_findWays_2 : decode cX9_findWays 2 = .ok (.iload_n 3, 1) := by decide +kernel
theorem dX9_findWays_3 : decode cX9_findWays 3 = .ok (.sipush 256, 3) := by decide +kernel
theorem dX9_findWays_6 : decode cX9_findWays 6 = .ok (.if_icmp .ge 25, 3) := by decide +kernel
theorem dX9_findWays_9 : decode cX9_findWays 9 = .ok (.aload_n 0, 1) := by decide +kernel
theorem dX9_findWays_10 : decode cX9_findWays 10 = .ok (.getfield 52, 3) := by decide +kernel
theorem dX9_findWays_13 : decode cX9_findWays 13 = .ok (.iload_n 3, 1) := by decide +kernel
theorem dX9_findWays_14 : decode cX9_findWays 14 = .ok (.iload_n 3, 1) := by decide +kernel
theorem dX9_findWays_15 : decode cX9_findWays 15 = .ok (.iload_n 1, 1) := by decide +kernel
theorem dX9_findWays_16 : decode cX9_findWays 16 = .ok (.if_icmp .ne 7, 3) := by decide +kernel
theorem dX9_findWays_19 : decode cX9_findWays 19 = .ok (.lconst 1, 1) := by decide +kernel
theorem dX9_findWays_20 : decode cX9_findWays 20 = .ok (.goto 4, 3) := by decide +kernel
theorem dX9_findWays_23 : decode cX9_findWays 23 = .ok (.lconst 0, 1) := by decide +kernel
theorem dX9_findWays_24 : decode cX9_findWays 24 = .ok (.lastore, 1) := by decide +kernel
theorem dX9_findWays_25 : decode cX9_findWays 25 = .ok (.iinc 3 1, 3) := by decide +kernel
theorem dX9_findWays_28 : decode cX9_findWays 28 = .ok (.goto (-26), 3) := by decide +kernel
theorem dX9_findWays_31 : decode cX9_findWays 31 = .ok (.iconst 1, 1) := by decide +kernel
theorem dX9_findWays_32 : decode cX9_findWays 32 = .ok (.istore_n 3, 1) := by decide +kernel
theorem dX9_findWays_33 : decode cX9_findWays 33 = .ok (.iload_n 3, 1) := by decide +kernel
theorem dX9_findWays_34 : decode cX9_findWays 34 = .ok (.iload_n 2, 1) := by decide +kernel
theorem dX9_findWays_35 : decode cX9_findWays 35 = .ok (.if_icmp .gt 87, 3) := by decide +kernel
theorem dX9_findWays_38 : decode cX9_findWays 38 = .ok (.iconst 0, 1) := by decide +kernel
theorem dX9_findWays_39 : decode cX9_findWays 39 = .ok (.istore 4, 2) := by decide +kernel
theorem dX9_findWays_41 : decode cX9_findWays 41 = .ok (.iload 4, 2) := by decide +kernel
theorem dX9_findWays_43 : decode cX9_findWays 43 = .ok (.sipush 256, 3) := by decide +kernel
theorem dX9_findWays_46 : decode cX9_findWays 46 = .ok (.if_icmp .ge 70, 3) := by decide +kernel
theorem dX9_findWays_49 : decode cX9_findWays 49 = .ok (.sipush 256, 3) := by decide +kernel
theorem dX9_findWays_52 : decode cX9_findWays 52 = .ok (.iload_n 3, 1) := by decide +kernel
theorem dX9_findWays_53 : decode cX9_findWays 53 = .ok (.iconst 1, 1) := by decide +kernel
theorem dX9_findWays_54 : decode cX9_findWays 54 = .ok (.isub, 1) := by decide +kernel
theorem dX9_findWays_55 : decode cX9_findWays 55 = .ok (.imul, 1) := by decide +kernel
theorem dX9_findWays_56 : decode cX9_findWays 56 = .ok (.istore 5, 2) := by decide +kernel
theorem dX9_findWays_58 : decode cX9_findWays 58 = .ok (.aload_n 0, 1) := by decide +kernel
theorem dX9_findWays_59 : decode cX9_findWays 59 = .ok (.getfield 52, 3) := by decide +kernel
theorem dX9_findWays_62 : decode cX9_findWays 62 = .ok (.sipush 256, 3) := by decide +kernel
theorem dX9_findWays_65 : decode cX9_findWays 65 = .ok (.iload_n 3, 1) := by decide +kernel
theorem dX9_findWays_66 : decode cX9_findWays 66 = .ok (.imul, 1) := by decide +kernel
theorem dX9_findWays_67 : decode cX9_findWays 67 = .ok (.iload 4, 2) := by decide +kernel
theorem dX9_findWays_69 : decode cX9_findWays 69 = .ok (.iadd, 1) := by decide +kernel
theorem dX9_findWays_70 : decode cX9_findWays 70 = .ok (.aload_n 0, 1) := by decide +kernel
theorem dX9_findWays_71 : decode cX9_findWays 71 = .ok (.getfield 52, 3) := by decide +kernel
theorem dX9_findWays_74 : decode cX9_findWays 74 = .ok (.iload 5, 2) := by decide +kernel
theorem dX9_findWays_76 : decode cX9_findWays 76 = .ok (.iload 4, 2) := by decide +kernel
theorem dX9_findWays_78 : decode cX9_findWays 78 = .ok (.aload_n 0, 1) := by decide +kernel
theorem dX9_findWays_79 : decode cX9_findWays 79 = .ok (.getfield 31, 3) := by decide +kernel
theorem dX9_findWays_82 : decode cX9_findWays 82 = .ok (.iconst 0, 1) := by decide +kernel
theorem dX9_findWays_83 : decode cX9_findWays 83 = .ok (.iaload, 1) := by decide +kernel
theorem dX9_findWays_84 : decode cX9_findWays 84 = .ok (.invokestatic 144, 3) := by decide +kernel
theorem dX9_findWays_87 : decode cX9_findWays 87 = .ok (.iadd, 1) := by decide +kernel
theorem dX9_findWays_88 : decode cX9_findWays 88 = .ok (.laload, 1) := by decide +kernel
theorem dX9_findWays_89 : decode cX9_findWays 89 = .ok (.aload_n 0, 1) := by decide +kernel
theorem dX9_findWays_90 : decode cX9_findWays 90 = .ok (.getfield 52, 3) := by decide +kernel
theorem dX9_findWays_93 : decode cX9_findWays 93 = .ok (.iload 5, 2) := by decide +kernel
theorem dX9_findWays_95 : decode cX9_findWays 95 = .ok (.iload 4, 2) := by decide +kernel
theorem dX9_findWays_97 : decode cX9_findWays 97 = .ok (.aload_n 0, 1) := by decide +kernel
theorem dX9_findWays_98 : decode cX9_findWays 98 = .ok (.getfield 31, 3) := by decide +kernel
theorem dX9_findWays_101 : decode cX9_findWays 101 = .ok (.iconst 1, 1) := by decide +kernel
theorem dX9_findWays_102 : decode cX9_findWays 102 = .ok (.iaload, 1) := by decide +kernel
theorem dX9_findWays_103 : decode cX9_findWays 103 = .ok (.invokestatic 144, 3) := by decide +kernel
theorem dX9_findWays_106 : decode cX9_findWays 106 = .ok (.iadd, 1) := by decide +kernel
theorem dX9_findWays_107 : decode cX9_findWays 107 = .ok (.laload, 1) := by decide +kernel
theorem dX9_findWays_108 : decode cX9_findWays 108 = .ok (.ladd, 1) := by decide +kernel
theorem dX9_findWays_109 : decode cX9_findWays 109 = .ok (.lastore, 1) := by decide +kernel
theorem dX9_findWays_110 : decode cX9_findWays 110 = .ok (.iinc 4 1, 3) := by decide +kernel
theorem dX9_findWays_113 : decode cX9_findWays 113 = .ok (.goto (-72), 3) := by decide +kernel
theorem dX9_findWays_116 : decode cX9_findWays 116 = .ok (.iinc 3 1, 3) := by decide +kernel
theorem dX9_findWays_119 : decode cX9_findWays 119 = .ok (.goto (-86), 3) := by decide +kernel
theorem dX9_findWays_122 : decode cX9_findWays 122 = .ok (.return_, 1) := by decide +kernel
theorem dX9_firstAirs_0 : decode cX9_firstAirs 0 = .ok (.lconst 0, 1) := by decide +kernel
theorem dX9_firstAirs_1 : decode cX9_firstAirs 1 = .ok (.lstore_n 3, 1) := by decide +kernel
theorem dX9_firstAirs_2 : decode cX9_firstAirs 2 = .ok (.iload_n 1, 1) := by decide +kernel
theorem dX9_firstAirs_3 : decode cX9_firstAirs 3 = .ok (.istore 5, 2) := by decide +kernel
theorem dX9_firstAirs_5 : decode cX9_firstAirs 5 = .ok (.iload_n 2, 1) := by decide +kernel
theorem dX9_firstAirs_6 : decode cX9_firstAirs 6 = .ok (.istore 6, 2) := by decide +kernel
theorem dX9_firstAirs_8 : decode cX9_firstAirs 8 = .ok (.iload 6, 2) := by decide +kernel
theorem dX9_firstAirs_10 : decode cX9_firstAirs 10 = .ok (.ifCond .le 91, 3) := by decide +kernel
theorem dX9_firstAirs_13 : decode cX9_firstAirs 13 = .ok (.iload 5, 2) := by decide +kernel
theorem dX9_firstAirs_15 : decode cX9_firstAirs 15 = .ok (.aload_n 0, 1) := by decide +kernel
theorem dX9_firstAirs_16 : decode cX9_firstAirs 16 = .ok (.getfield 31, 3) := by decide +kernel
theorem dX9_firstAirs_19 : decode cX9_firstAirs 19 = .ok (.iconst 0, 1) := by decide +kernel
theorem dX9_firstAirs_20 : decode cX9_firstAirs 20 = .ok (.iaload, 1) := by decide +kernel
theorem dX9_firstAirs_21 : decode cX9_firstAirs 21 = .ok (.invokestatic 144, 3) := by decide +kernel
theorem dX9_firstAirs_24 : decode cX9_firstAirs 24 = .ok (.istore 7, 2) := by decide +kernel
theorem dX9_firstAirs_26 : decode cX9_firstAirs 26 = .ok (.aload_n 0, 1) := by decide +kernel
theorem dX9_firstAirs_27 : decode cX9_firstAirs 27 = .ok (.getfield 52, 3) := by decide +kernel
theorem dX9_firstAirs_30 : decode cX9_firstAirs 30 = .ok (.sipush 256, 3) := by decide +kernel
theorem dX9_firstAirs_33 : decode cX9_firstAirs 33 = .ok (.iload 6, 2) := by decide +kernel
theorem dX9_firstAirs_35 : decode cX9_firstAirs 35 = .ok (.iconst 1, 1) := by decide +kernel
theorem dX9_firstAirs_36 : decode cX9_firstAirs 36 = .ok (.isub, 1) := by decide +kernel
theorem dX9_firstAirs_37 : decode cX9_firstAirs 37 = .ok (.imul, 1) := by decide +kernel
theorem dX9_firstAirs_38 : decode cX9_firstAirs 38 = .ok (.iload 7, 2) := by decide +kernel
theorem dX9_firstAirs_40 : decode cX9_firstAirs 40 = .ok (.iadd, 1) := by decide +kernel
theorem dX9_firstAirs_41 : decode cX9_firstAirs 41 = .ok (.laload, 1) := by decide +kernel
theorem dX9_firstAirs_42 : decode cX9_firstAirs 42 = .ok (.lconst 0, 1) := by decide +kernel
theorem dX9_firstAirs_43 : decode cX9_firstAirs 43 = .ok (.lcmp, 1) := by decide +kernel
theorem dX9_firstAirs_44 : decode cX9_firstAirs 44 = .ok (.ifCond .le 7, 3) := by decide +kernel
theorem dX9_firstAirs_47 : decode cX9_firstAirs 47 = .ok (.iconst 1, 1) := by decide +kernel
theorem dX9_firstAirs_48 : decode cX9_firstAirs 48 = .ok (.goto 4, 3) := by decide +kernel
theorem dX9_firstAirs_51 : decode cX9_firstAirs 51 = .ok (.iconst 0, 1) := by decide +kernel
theorem dX9_firstAirs_52 : decode cX9_firstAirs 52 = .ok (.istore 8, 2) := by decide +kernel
theorem dX9_firstAirs_54 : decode cX9_firstAirs 54 = .ok (.ldc2_w 216, 3) := by decide +kernel
theorem dX9_firstAirs_57 : decode cX9_firstAirs 57 = .ok (.lload_n 3, 1) := by decide +kernel
theorem dX9_firstAirs_58 : decode cX9_firstAirs 58 = .ok (.lmul, 1) := by decide +kernel
theorem dX9_firstAirs_59 : decode cX9_firstAirs 59 = .ok (.iload 8, 2) := by decide +kernel
theorem dX9_firstAirs_61 : decode cX9_firstAirs 61 = .ok (.ifCond .eq 7, 3) := by decide +kernel
theorem dX9_firstAirs_64 : decode cX9_firstAirs 64 = .ok (.iconst 1, 1) := by decide +kernel
theorem dX9_firstAirs_65 : decode cX9_firstAirs 65 = .ok (.goto 4, 3) := by decide +kernel
theorem dX9_firstAirs_68 : decode cX9_firstAirs 68 = .ok (.iconst 2, 1) := by decide +kernel
theorem dX9_firstAirs_69 : decode cX9_firstAirs 69 = .ok (.i2l, 1) := by decide +kernel
theorem dX9_firstAirs_70 : decode cX9_firstAirs 70 = .ok (.ladd, 1) := by decide +kernel
theorem dX9_firstAirs_71 : decode cX9_firstAirs 71 = .ok (.lstore_n 3, 1) := by decide +kernel
theorem dX9_firstAirs_72 : decode cX9_firstAirs 72 = .ok (.iload 8, 2) := by decide +kernel
theorem dX9_firstAirs_74 : decode cX9_firstAirs 74 = .ok (.ifCond .eq 8, 3) := by decide +kernel
theorem dX9_firstAirs_77 : decode cX9_firstAirs 77 = .ok (.iload 7, 2) := by decide +kernel
theorem dX9_firstAirs_79 : decode cX9_firstAirs 79 = .ok (.goto 14, 3) := by decide +kernel
theorem dX9_firstAirs_82 : decode cX9_firstAirs 82 = .ok (.iload 5, 2) := by decide +kernel
theorem dX9_firstAirs_84 : decode cX9_firstAirs 84 = .ok (.aload_n 0, 1) := by decide +kernel
theorem dX9_firstAirs_85 : decode cX9_firstAirs 85 = .ok (.getfield 31, 3) := by decide +kernel
theorem dX9_firstAirs_88 : decode cX9_firstAirs 88 = .ok (.iconst 1, 1) := by decide +kernel
theorem dX9_firstAirs_89 : decode cX9_firstAirs 89 = .ok (.iaload, 1) := by decide +kernel
theorem dX9_firstAirs_90 : decode cX9_firstAirs 90 = .ok (.invokestatic 144, 3) := by decide +kernel
theorem dX9_firstAirs_93 : decode cX9_firstAirs 93 = .ok (.istore 5, 2) := by decide +kernel
theorem dX9_firstAirs_95 : decode cX9_firstAirs 95 = .ok (.iinc 6 (-1), 3) := by decide +kernel
theorem dX9_firstAirs_98 : decode cX9_firstAirs 98 = .ok (.goto (-90), 3) := by decide +kernel
theorem dX9_firstAirs_101 : decode cX9_firstAirs 101 = .ok (.lload_n 3, 1) := by decide +kernel
theorem dX9_firstAirs_102 : decode cX9_firstAirs 102 = .ok (.lreturn, 1) := by decide +kernel
theorem dX9_grew_0 : decode cX9_grew 0 = .ok (.iload_n 1, 1) := by decide +kernel
theorem dX9_grew_1 : decode cX9_grew 1 = .ok (.invokestatic 102, 3) := by decide +kernel
theorem dX9_grew_4 : decode cX9_grew 4 = .ok (.ifCond .eq 33, 3) := by decide +kernel
theorem dX9_grew_7 : decode cX9_grew 7 = .ok (.iload_n 2, 1) := by decide +kernel
theorem dX9_grew_8 : decode cX9_grew 8 = .ok (.invokestatic 102, 3) := by decide +kernel
theorem dX9_grew_11 : decode cX9_grew 11 = .ok (.ifCond .eq 26, 3) := by decide +kernel
theorem dX9_grew_14 : decode cX9_grew 14 = .ok (.iload_n 3, 1) := by decide +kernel
theorem dX9_grew_15 : decode cX9_grew 15 = .ok (.i2l, 1) := by decide +kernel
theorem dX9_grew_16 : decode cX9_grew 16 = .ok (.lconst 0, 1) := by decide +kernel
theorem dX9_grew_17 : decode cX9_grew 17 = .ok (.ldc2_w 216, 3) := by decide +kernel
theorem dX9_grew_20 : decode cX9_grew 20 = .ok (.invokestatic 86, 3) := by decide +kernel
theorem dX9_grew_23 : decode cX9_grew 23 = .ok (.ifCond .eq 14, 3) := by decide +kernel
theorem dX9_grew_26 : decode cX9_grew 26 = .ok (.iload 4, 2) := by decide +kernel
theorem dX9_grew_28 : decode cX9_grew 28 = .ok (.i2l, 1) := by decide +kernel
theorem dX9_grew_29 : decode cX9_grew 29 = .ok (.lconst 0, 1) := by decide +kernel
theorem dX9_grew_30 : decode cX9_grew 30 = .ok (.lconst 1, 1) := by decide +kernel
theorem dX9_grew_31 : decode cX9_grew 31 = .ok (.invokestatic 86, 3) := by decide +kernel
theorem dX9_grew_34 : decode cX9_grew 34 = .ok (.ifCond .ne 7, 3) := by decide +kernel
theorem dX9_grew_37 : decode cX9_grew 37 = .ok (.ldc2_w 218, 3) := by decide +kernel
theorem dX9_grew_40 : decode cX9_grew 40 = .ok (.lreturn, 1) := by decide +kernel
theorem dX9_grew_41 : decode cX9_grew 41 = .ok (.aload_n 0, 1) := by decide +kernel
theorem dX9_grew_42 : decode cX9_grew 42 = .ok (.iload_n 2, 1) := by decide +kernel
theorem dX9_grew_43 : decode cX9_grew 43 = .ok (.iload_n 3, 1) := by decide +kernel
theorem dX9_grew_44 : decode cX9_grew 44 = .ok (.invokevirtual 220, 3) := by decide +kernel
theorem dX9_grew_47 : decode cX9_grew 47 = .ok (.aload_n 0, 1) := by decide +kernel
theorem dX9_grew_48 : decode cX9_grew 48 = .ok (.getfield 52, 3) := by decide +kernel
theorem dX9_grew_51 : decode cX9_grew 51 = .ok (.sipush 256, 3) := by decide +kernel
theorem dX9_grew_54 : decode cX9_grew 54 = .ok (.iload_n 3, 1) := by decide +kernel
theorem dX9_grew_55 : decode cX9_grew 55 = .ok (.imul, 1) := by decide +kernel
theorem dX9_grew_56 : decode cX9_grew 56 = .ok (.iload_n 1, 1) := by decide +kernel
theorem dX9_grew_57 : decode cX9_grew 57 = .ok (.iadd, 1) := by decide +kernel
theorem dX9_grew_58 : decode cX9_grew 58 = .ok (.laload, 1) := by decide +kernel
theorem dX9_grew_59 : decode cX9_grew 59 = .ok (.lstore 5, 2) := by decide +kernel
theorem dX9_grew_61 : decode cX9_grew 61 = .ok (.iload 4, 2) := by decide +kernel
theorem dX9_grew_63 : decode cX9_grew 63 = .ok (.ifCond .ne 8, 3) := by decide +kernel
theorem dX9_grew_66 : decode cX9_grew 66 = .ok (.lload 5, 2) := by decide +kernel
theorem dX9_grew_68 : decode cX9_grew 68 = .ok (.goto 22, 3) := by decide +kernel
theorem dX9_grew_71 : decode cX9_grew 71 = .ok (.lload 5, 2) := by decide +kernel
theorem dX9_grew_73 : decode cX9_grew 73 = .ok (.lconst 0, 1) := by decide +kernel
theorem dX9_grew_74 : decode cX9_grew 74 = .ok (.lcmp, 1) := by decide +kernel
theorem dX9_grew_75 : decode cX9_grew 75 = .ok (.ifCond .ne 9, 3) := by decide +kernel
theorem dX9_grew_78 : decode cX9_grew 78 = .ok (.ldc2_w 223, 3) := by decide +kernel
theorem dX9_grew_81 : decode cX9_grew 81 = .ok (.goto 9, 3) := by decide +kernel
theorem dX9_grew_84 : decode cX9_grew 84 = .ok (.aload_n 0, 1) := by decide +kernel
theorem dX9_grew_85 : decode cX9_grew 85 = .ok (.iload_n 1, 1) := by decide +kernel
theorem dX9_grew_86 : decode cX9_grew 86 = .ok (.iload_n 3, 1) := by decide +kernel
theorem dX9_grew_87 : decode cX9_grew 87 = .ok (.invokevirtual 225, 3) := by decide +kernel
theorem dX9_grew_90 : decode cX9_grew 90 = .ok (.lreturn, 1) := by decide +kernel
theorem dX9_findOff_0 : decode cX9_findOff 0 = .ok (.iconst 0, 1) := by decide +kernel
theorem dX9_findOff_1 : decode cX9_findOff 1 = .ok (.istore_n 2, 1) := by decide +kernel
theorem dX9_findOff_2 : decode cX9_findOff 2 = .ok (.iconst 0, 1) := by decide +kernel
theorem dX9_findOff_3 : decode cX9_findOff 3 = .ok (.istore_n 3, 1) := by decide +kernel
theorem dX9_findOff_4 : decode cX9_findOff 4 = .ok (.iload_n 3, 1) := by decide +kernel
theorem dX9_findOff_5 : decode cX9_findOff 5 = .ok (.sipush 256, 3) := by decide +kernel
theorem dX9_findOff_8 : decode cX9_findOff 8 = .ok (.if_icmp .ge 101, 3) := by decide +kernel
theorem dX9_findOff_11 : decode cX9_findOff 11 = .ok (.aload_n 0, 1) := by decide +kernel
theorem dX9_findOff_12 : decode cX9_findOff 12 = .ok (.getfield 56, 3) := by decide +kernel
theorem dX9_findOff_15 : decode cX9_findOff 15 = .ok (.iload_n 3, 1) := by decide +kernel
theorem dX9_findOff_16 : decode cX9_findOff 16 = .ok (.iaload, 1) := by decide +kernel
theorem dX9_findOff_17 : decode cX9_findOff 17 = .ok (.ifCond .ge 45, 3) := by decide +kernel
theorem dX9_findOff_20 : decode cX9_findOff 20 = .ok (.aload_n 0, 1) := by decide +kernel
theorem dX9_findOff_21 : decode cX9_findOff 21 = .ok (.getfield 56, 3) := by decide +kernel
theorem dX9_findOff_24 : decode cX9_findOff 24 = .ok (.iload_n 3, 1) := by decide +kernel
theorem dX9_findOff_25 : decode cX9_findOff 25 = .ok (.aload_n 0, 1) := by decide +kernel
theorem dX9_findOff_26 : decode cX9_findOff 26 = .ok (.getfield 31, 3) := by decide +kernel
theorem dX9_findOff_29 : decode cX9_findOff 29 = .ok (.iconst 0, 1) := by decide +kernel
theorem dX9_findOff_30 : decode cX9_findOff 30 = .ok (.iaload, 1) := by decide +kernel
theorem dX9_findOff_31 : decode cX9_findOff 31 = .ok (.invokestatic 144, 3) := by decide +kernel
theorem dX9_findOff_34 : decode cX9_findOff 34 = .ok (.iaload, 1) := by decide +kernel
theorem dX9_findOff_35 : decode cX9_findOff 35 = .ok (.iload_n 1, 1) := by decide +kernel
theorem dX9_findOff_36 : decode cX9_findOff 36 = .ok (.if_icmp .eq 22, 3) := by decide +kernel
theorem dX9_findOff_39 : decode cX9_findOff 39 = .ok (.aload_n 0, 1) := by decide +kernel
theorem dX9_findOff_40 : decode cX9_findOff 40 = .ok (.getfield 56, 3) := by decide +kernel
theorem dX9_findOff_43 : decode cX9_findOff 43 = .ok (.iload_n 3, 1) := by decide +kernel
theorem dX9_findOff_44 : decode cX9_findOff 44 = .ok (.aload_n 0, 1) := by decide +kernel
theorem dX9_findOff_45 : decode cX9_findOff 45 = .ok (.getfield 31, 3) := by decide +kernel
theorem dX9_findOff_48 : decode cX9_findOff 48 = .ok (.iconst 1, 1) := by decide +kernel
theorem dX9_findOff_49 : decode cX9_findOff 49 = .ok (.iaload, 1) := by decide +kernel
theorem dX9_findOff_50 : decode cX9_findOff 50 = .ok (.invokestatic 144, 3) := by decide +kernel
theorem dX9_findOff_53 : decode cX9_findOff 53 = .ok (.iaload, 1) := by decide +kernel
theorem dX9_findOff_54 : decode cX9_findOff 54 = .ok (.iload_n 1, 1) := by decide +kernel
theorem dX9_findOff_55 : decode cX9_findOff 55 = .ok (.if_icmp .ne 7, 3) := by decide +kernel
theorem dX9_findOff_58 : decode cX9_findOff 58 = .ok (.iconst 1, 1) := by decide +kernel
theorem dX9_findOff_59 : decode cX9_findOff 59 = .ok (.goto 4, 3) := by decide +kernel
theorem dX9_findOff_62 : decode cX9_findOff 62 = .ok (.iconst 0, 1) := by decide +kernel
theorem dX9_findOff_63 : decode cX9_findOff 63 = .ok (.istore 4, 2) := by decide +kernel
theorem dX9_findOff_65 : decode cX9_findOff 65 = .ok (.aload_n 0, 1) := by decide +kernel
theorem dX9_findOff_66 : decode cX9_findOff 66 = .ok (.getfield 56, 3) := by decide +kernel
theorem dX9_findOff_69 : decode cX9_findOff 69 = .ok (.iload_n 3, 1) := by decide +kernel
theorem dX9_findOff_70 : decode cX9_findOff 70 = .ok (.iload 4, 2) := by decide +kernel
theorem dX9_findOff_72 : decode cX9_findOff 72 = .ok (.ifCond .eq 9, 3) := by decide +kernel
theorem dX9_findOff_75 : decode cX9_findOff 75 = .ok (.iload_n 1, 1) := by decide +kernel
theorem dX9_findOff_76 : decode cX9_findOff 76 = .ok (.iconst 1, 1) := by decide +kernel
theorem dX9_findOff_77 : decode cX9_findOff 77 = .ok (.iadd, 1) := by decide +kernel
theorem dX9_findOff_78 : decode cX9_findOff 78 = .ok (.goto 9, 3) := by decide +kernel
theorem dX9_findOff_81 : decode cX9_findOff 81 = .ok (.aload_n 0, 1) := by decide +kernel
theorem dX9_findOff_82 : decode cX9_findOff 82 = .ok (.getfield 56, 3) := by decide +kernel
theorem dX9_findOff_85 : decode cX9_findOff 85 = .ok (.iload_n 3, 1) := by decide +kernel
theorem dX9_findOff_86 : decode cX9_findOff 86 = .ok (.iaload, 1) := by decide +kernel
theorem dX9_findOff_87 : decode cX9_findOff 87 = .ok (.iastore, 1) := by decide +kernel
theorem dX9_findOff_88 : decode cX9_findOff 88 = .ok (.iload_n 2, 1) := by decide +kernel
theorem dX9_findOff_89 : decode cX9_findOff 89 = .ok (.ifCond .ne 8, 3) := by decide +kernel
theorem dX9_findOff_92 : decode cX9_findOff 92 = .ok (.iload 4, 2) := by decide +kernel
theorem dX9_findOff_94 : decode cX9_findOff 94 = .ok (.ifCond .eq 7, 3) := by decide +kernel
theorem dX9_findOff_97 : decode cX9_findOff 97 = .ok (.iconst 1, 1) := by decide +kernel
theorem dX9_findOff_98 : decode cX9_findOff 98 = .ok (.goto 4, 3) := by decide +kernel
theorem dX9_findOff_101 : decode cX9_findOff 101 = .ok (.iconst 0, 1) := by decide +kernel
theorem dX9_findOff_102 : decode cX9_findOff 102 = .ok (.istore_n 2, 1) := by decide +kernel
theorem dX9_findOff_103 : decode cX9_findOff 103 = .ok (.iinc 3 1, 3) := by decide +kernel
theorem dX9_findOff_106 : decode cX9_findOff 106 = .ok (.goto (-102), 3) := by decide +kernel
theorem dX9_findOff_109 : decode cX9_findOff 109 = .ok (.iload_n 2, 1) := by decide +kernel
theorem dX9_findOff_110 : decode cX9_findOff 110 = .ok (.ireturn, 1) := by decide +kernel
theorem dX9_soon_0 : decode cX9_soon 0 = .ok (.iload_n 1, 1) := by decide +kernel
theorem dX9_soon_1 : decode cX9_soon 1 = .ok (.invokestatic 102, 3) := by decide +kernel
theorem dX9_soon_4 : decode cX9_soon 4 = .ok (.ifCond .eq 10, 3) := by decide +kernel
theorem dX9_soon_7 : decode cX9_soon 7 = .ok (.iload_n 2, 1) := by decide +kernel
theorem dX9_soon_8 : decode cX9_soon 8 = .ok (.invokestatic 102, 3) := by decide +kernel
theorem dX9_soon_11 : decode cX9_soon 11 = .ok (.ifCond .ne 6, 3) := by decide +kernel
theorem dX9_soon_14 : decode cX9_soon 14 = .ok (.bipush (-2), 2) := by decide +kernel
theorem dX9_soon_16 : decode cX9_soon 16 = .ok (.ireturn, 1) := by decide +kernel
theorem dX9_soon_17 : decode cX9_soon 17 = .ok (.iconst 0, 1) := by decide +kernel
theorem dX9_soon_18 : decode cX9_soon 18 = .ok (.istore_n 3, 1) := by decide +kernel
theorem dX9_soon_19 : decode cX9_soon 19 = .ok (.iload_n 3, 1) := by decide +kernel
theorem dX9_soon_20 : decode cX9_soon 20 = .ok (.sipush 256, 3) := by decide +kernel
theorem dX9_soon_23 : decode cX9_soon 23 = .ok (.if_icmp .ge 26, 3) := by decide +kernel
theorem dX9_soon_26 : decode cX9_soon 26 = .ok (.aload_n 0, 1) := by decide +kernel
theorem dX9_soon_27 : decode cX9_soon 27 = .ok (.getfield 56, 3) := by decide +kernel
theorem dX9_soon_30 : decode cX9_soon 30 = .ok (.iload_n 3, 1) := by decide +kernel
theorem dX9_soon_31 : decode cX9_soon 31 = .ok (.iload_n 3, 1) := by decide +kernel
theorem dX9_soon_32 : decode cX9_soon 32 = .ok (.iload_n 2, 1) := by decide +kernel
theorem dX9_soon_33 : decode cX9_soon 33 = .ok (.if_icmp .ne 7, 3) := by decide +kernel
theorem dX9_soon_36 : decode cX9_soon 36 = .ok (.iconst 0, 1) := by decide +kernel
theorem dX9_soon_37 : decode cX9_soon 37 = .ok (.goto 5, 3) := by decide +kernel
theorem dX9_soon_40 : decode cX9_soon 40 = .ok (.bipush (-6), 2) := by decide +kernel
theorem dX9_soon_42 : decode cX9_soon 42 = .ok (.iastore, 1) := by decide +kernel
theorem dX9_soon_43 : decode cX9_soon 43 = .ok (.iinc 3 1, 3) := by decide +kernel
theorem dX9_soon_46 : decode cX9_soon 46 = .ok (.goto (-27), 3) := by decide +kernel
theorem dX9_soon_49 : decode cX9_soon 49 = .ok (.iconst 0, 1) := by decide +kernel
theorem dX9_soon_50 : decode cX9_soon 50 = .ok (.istore_n 3, 1) := by decide +kernel
theorem dX9_soon_51 : decode cX9_soon 51 = .ok (.aload_n 0, 1) := by decide +kernel
theorem dX9_soon_52 : decode cX9_soon 52 = .ok (.iload_n 3, 1) := by decide +kernel
theorem dX9_soon_53 : decode cX9_soon 53 = .ok (.invokevirtual 229, 3) := by decide +kernel
theorem dX9_soon_56 : decode cX9_soon 56 = .ok (.ifCond .eq 9, 3) := by decide +kernel
theorem dX9_soon_59 : decode cX9_soon 59 = .ok (.iinc 3 1, 3) := by decide +kernel
theorem dX9_soon_62 : decode cX9_soon 62 = .ok (.goto (-11), 3) := by decide +kernel
theorem dX9_soon_65 : decode cX9_soon 65 = .ok (.aload_n 0, 1) := by decide +kernel
theorem dX9_soon_66 : decode cX9_soon 66 = .ok (.getfield 56, 3) := by decide +kernel
theorem dX9_soon_69 : decode cX9_soon 69 = .ok (.iload_n 1, 1) := by decide +kernel
theorem dX9_soon_70 : decode cX9_soon 70 = .ok (.iaload, 1) := by decide +kernel
theorem dX9_soon_71 : decode cX9_soon 71 = .ok (.ireturn, 1) := by decide +kernel
theorem dX9_canGet_0 : decode cX9_canGet 0 = .ok (.aload_n 0, 1) := by decide +kernel
theorem dX9_canGet_1 : decode cX9_canGet 1 = .ok (.getfield 25, 3) := by decide +kernel
theorem dX9_canGet_4 : decode cX9_canGet 4 = .ok (.iload_n 1, 1) := by decide +kernel
theorem dX9_canGet_5 : decode cX9_canGet 5 = .ok (.iaload, 1) := by decide +kernel
theorem dX9_canGet_6 : decode cX9_canGet 6 = .ok (.aload_n 0, 1) := by decide +kernel
theorem dX9_canGet_7 : decode cX9_canGet 7 = .ok (.getfield 13, 3) := by decide +kernel
theorem dX9_canGet_10 : decode cX9_canGet 10 = .ok (.iload_n 2, 1) := by decide +kernel
theorem dX9_canGet_11 : decode cX9_canGet 11 = .ok (.iaload, 1) := by decide +kernel
theorem dX9_canGet_12 : decode cX9_canGet 12 = .ok (.isub, 1) := by decide +kernel
theorem dX9_canGet_13 : decode cX9_canGet 13 = .ok (.istore_n 3, 1) := by decide +kernel
theorem dX9_canGet_14 : decode cX9_canGet 14 = .ok (.aload_n 0, 1) := by decide +kernel
theorem dX9_canGet_15 : decode cX9_canGet 15 = .ok (.iload_n 2, 1) := by decide +kernel
theorem dX9_canGet_16 : decode cX9_canGet 16 = .ok (.invokevirtual 137, 3) := by decide +kernel
theorem dX9_canGet_19 : decode cX9_canGet 19 = .ok (.ifCond .eq 28, 3) := by decide +kernel
theorem dX9_canGet_22 : decode cX9_canGet 22 = .ok (.iload_n 3, 1) := by decide +kernel
theorem dX9_canGet_23 : decode cX9_canGet 23 = .ok (.aload_n 0, 1) := by decide +kernel
theorem dX9_canGet_24 : decode cX9_canGet 24 = .ok (.getfield 16, 3) := by decide +kernel
theorem dX9_canGet_27 : decode cX9_canGet 27 = .ok (.iload_n 2, 1) := by decide +kernel
theorem dX9_canGet_28 : decode cX9_canGet 28 = .ok (.iaload, 1) := by decide +kernel
theorem dX9_canGet_29 : decode cX9_canGet 29 = .ok (.if_icmp .gt 18, 3) := by decide +kernel
theorem dX9_canGet_32 : decode cX9_canGet 32 = .ok (.iload_n 3, 1) := by decide +kernel
theorem dX9_canGet_33 : decode cX9_canGet 33 = .ok (.ineg, 1) := by decide +kernel
theorem dX9_canGet_34 : decode cX9_canGet 34 = .ok (.aload_n 0, 1) := by decide +kernel
theorem dX9_canGet_35 : decode cX9_canGet 35 = .ok (.getfield 16, 3) := by decide +kernel
theorem dX9_canGet_38 : decode cX9_canGet 38 = .ok (.iload_n 2, 1) := by decide +kernel
theorem dX9_canGet_39 : decode cX9_canGet 39 = .ok (.iaload, 1) := by decide +kernel
theorem dX9_canGet_40 : decode cX9_canGet 40 = .ok (.if_icmp .gt 7, 3) := by decide +kernel
theorem dX9_canGet_43 : decode cX9_canGet 43 = .ok (.iconst 1, 1) := by decide +kernel
theorem dX9_canGet_44 : decode cX9_canGet 44 = .ok (.goto 4, 3) := by decide +kernel
theorem dX9_canGet_47 : decode cX9_canGet 47 = .ok (.iconst 0, 1) := by decide +kernel
theorem dX9_canGet_48 : decode cX9_canGet 48 = .ok (.ireturn, 1) := by decide +kernel
theorem dX9_canGetOwn_0 : decode cX9_canGetOwn 0 = .ok (.iconst 0, 1) := by decide +kernel
theorem dX9_canGetOwn_1 : decode cX9_canGetOwn 1 = .ok (.istore_n 2, 1) := by decide +kernel
theorem dX9_canGetOwn_2 : decode cX9_canGetOwn 2 = .ok (.iconst 0, 1) := by decide +kernel
theorem dX9_canGetOwn_3 : decode cX9_canGetOwn 3 = .ok (.istore_n 3, 1) := by decide +kernel
theorem dX9_canGetOwn_4 : decode cX9_canGetOwn 4 = .ok (.iload_n 3, 1) := by decide +kernel
theorem dX9_canGetOwn_5 : decode cX9_canGetOwn 5 = .ok (.bipush 8, 2) := by decide +kernel
theorem dX9_canGetOwn_7 : decode cX9_canGetOwn 7 = .ok (.if_icmp .ge 46, 3) := by decide +kernel
theorem dX9_canGetOwn_10 : decode cX9_canGetOwn 10 = .ok (.iload_n 2, 1) := by decide +kernel
theorem dX9_canGetOwn_11 : decode cX9_canGetOwn 11 = .ok (.ifCond .ne 30, 3) := by decide +kernel
theorem dX9_canGetOwn_14 : decode cX9_canGetOwn 14 = .ok (.aload_n 0, 1) := by decide +kernel
theorem dX9_canGetOwn_15 : decode cX9_canGetOwn 15 = .ok (.iload_n 3, 1) := by decide +kernel
theorem dX9_canGetOwn_16 : decode cX9_canGetOwn 16 = .ok (.invokevirtual 137, 3) := by decide +kernel
theorem dX9_canGetOwn_19 : decode cX9_canGetOwn 19 = .ok (.ifCond .eq 26, 3) := by decide +kernel
theorem dX9_canGetOwn_22 : decode cX9_canGetOwn 22 = .ok (.aload_n 0, 1) := by decide +kernel
theorem dX9_canGetOwn_23 : decode cX9_canGetOwn 23 = .ok (.getfield 19, 3) := by decide +kernel
theorem dX9_canGetOwn_26 : decode cX9_canGetOwn 26 = .ok (.iload_n 3, 1) := by decide +kernel
theorem dX9_canGetOwn_27 : decode cX9_canGetOwn 27 = .ok (.iaload, 1) := by decide +kernel
theorem dX9_canGetOwn_28 : decode cX9_canGetOwn 28 = .ok (.iload_n 1, 1) := by decide +kernel
theorem dX9_canGetOwn_29 : decode cX9_canGetOwn 29 = .ok (.if_icmp .ne 16, 3) := by decide +kernel
theorem dX9_canGetOwn_32 : decode cX9_canGetOwn 32 = .ok (.aload_n 0, 1) := by decide +kernel
theorem dX9_canGetOwn_33 : decode cX9_canGetOwn 33 = .ok (.iload_n 1, 1) := by decide +kernel
theorem dX9_canGetOwn_34 : decode cX9_canGetOwn 34 = .ok (.iload_n 3, 1) := by decide +kernel
theorem dX9_canGetOwn_35 : decode cX9_canGetOwn 35 = .ok (.invokevirtual 232, 3) := by decide +kernel
theorem dX9_canGetOwn_38 : decode cX9_canGetOwn 38 = .ok (.ifCond .eq 7, 3) := by decide +kernel
theorem dX9_canGetOwn_41 : decode cX9_canGetOwn 41 = .ok (.iconst 1, 1) := by decide +kernel
theorem dX9_canGetOwn_42 : decode cX9_canGetOwn 42 = .ok (.goto 4, 3) := by decide +kernel
theorem dX9_canGetOwn_45 : decode cX9_canGetOwn 45 = .ok (.iconst 0, 1) := by decide +kernel
theorem dX9_canGetOwn_46 : decode cX9_canGetOwn 46 = .ok (.istore_n 2, 1) := by decide +kernel
theorem dX9_canGetOwn_47 : decode cX9_canGetOwn 47 = .ok (.iinc 3 1, 3) := by decide +kernel
theorem dX9_canGetOwn_50 : decode cX9_canGetOwn 50 = .ok (.goto (-46), 3) := by decide +kernel
theorem dX9_canGetOwn_53 : decode cX9_canGetOwn 53 = .ok (.iload_n 2, 1) := by decide +kernel
theorem dX9_canGetOwn_54 : decode cX9_canGetOwn 54 = .ok (.ireturn, 1) := by decide +kernel
theorem dX9_addFlake_0 : decode cX9_addFlake 0 = .ok (.bipush 63, 2) := by decide +kernel
theorem dX9_addFlake_2 : decode cX9_addFlake 2 = .ok (.istore_n 2, 1) := by decide +kernel
theorem dX9_addFlake_3 : decode cX9_addFlake 3 = .ok (.iload_n 2, 1) := by decide +kernel
theorem dX9_addFlake_4 : decode cX9_addFlake 4 = .ok (.ifCond .le 105, 3) := by decide +kernel
theorem dX9_addFlake_7 : decode cX9_addFlake 7 = .ok (.aload_n 0, 1) := by decide +kernel
theorem dX9_addFlake_8 : decode cX9_addFlake 8 = .ok (.getfield 59, 3) := by decide +kernel
theorem dX9_addFlake_11 : decode cX9_addFlake 11 = .ok (.iload_n 2, 1) := by decide +kernel
theorem dX9_addFlake_12 : decode cX9_addFlake 12 = .ok (.iaload, 1) := by decide +kernel
theorem dX9_addFlake_13 : decode cX9_addFlake 13 = .ok (.istore_n 3, 1) := by decide +kernel
theorem dX9_addFlake_14 : decode cX9_addFlake 14 = .ok (.iconst 0, 1) := by decide +kernel
theorem dX9_addFlake_15 : decode cX9_addFlake 15 = .ok (.istore 4, 2) := by decide +kernel
theorem dX9_addFlake_17 : decode cX9_addFlake 17 = .ok (.iload 4, 2) := by decide +kernel
theorem dX9_addFlake_19 : decode cX9_addFlake 19 = .ok (.bipush 6, 2) := by decide +kernel
theorem dX9_addFlake_21 : decode cX9_addFlake 21 = .ok (.if_icmp .ge 75, 3) := by decide +kernel
theorem dX9_addFlake_24 : decode cX9_addFlake 24 = .ok (.iload_n 2, 1) := by decide +kernel
theorem dX9_addFlake_25 : decode cX9_addFlake 25 = .ok (.iload 4, 2) := by decide +kernel
theorem dX9_addFlake_27 : decode cX9_addFlake 27 = .ok (.ishr, 1) := by decide +kernel
theorem dX9_addFlake_28 : decode cX9_addFlake 28 = .ok (.iconst 1, 1) := by decide +kernel
theorem dX9_addFlake_29 : decode cX9_addFlake 29 = .ok (.iand, 1) := by decide +kernel
theorem dX9_addFlake_30 : decode cX9_addFlake 30 = .ok (.iconst 1, 1) := by decide +kernel
theorem dX9_addFlake_31 : decode cX9_addFlake 31 = .ok (.if_icmp .ne 17, 3) := by decide +kernel
theorem dX9_addFlake_34 : decode cX9_addFlake 34 = .ok (.aload_n 0, 1) := by decide +kernel
theorem dX9_addFlake_35 : decode cX9_addFlake 35 = .ok (.iload 4, 2) := by decide +kernel
theorem dX9_addFlake_37 : decode cX9_addFlake 37 = .ok (.iload_n 1, 1) := by decide +kernel
theorem dX9_addFlake_38 : decode cX9_addFlake 38 = .ok (.invokevirtual 232, 3) := by decide +kernel
theorem dX9_addFlake_41 : decode cX9_addFlake 41 = .ok (.ifCond .eq 7, 3) := by decide +kernel
theorem dX9_addFlake_44 : decode cX9_addFlake 44 = .ok (.iconst 1, 1) := by decide +kernel
theorem dX9_addFlake_45 : decode cX9_addFlake 45 = .ok (.goto 4, 3) := by decide +kernel
theorem dX9_addFlake_48 : decode cX9_addFlake 48 = .ok (.iconst 0, 1) := by decide +kernel
theorem dX9_addFlake_49 : decode cX9_addFlake 49 = .ok (.istore 5, 2) := by decide +kernel
theorem dX9_addFlake_51 : decode cX9_addFlake 51 = .ok (.iload 5, 2) := by decide +kernel
theorem dX9_addFlake_53 : decode cX9_addFlake 53 = .ok (.ifCond .eq 21, 3) := by decide +kernel
theorem dX9_addFlake_56 : decode cX9_addFlake 56 = .ok (.aload_n 0, 1) := by decide +kernel
theorem dX9_addFlake_57 : decode cX9_addFlake 57 = .ok (.getfield 59, 3) := by decide +kernel
theorem dX9_addFlake_60 : decode cX9_addFlake 60 = .ok (.iload_n 2, 1) := by decide +kernel
theorem dX9_addFlake_61 : decode cX9_addFlake 61 = .ok (.iconst 1, 1) := by decide +kernel
theorem dX9_addFlake_62 : decode cX9_addFlake 62 = .ok (.iload 4, 2) := by decide +kernel
theorem dX9_addFlake_64 : decode cX9_addFlake 64 = .ok (.ishl, 1) := by decide +kernel
theorem dX9_addFlake_65 : decode cX9_addFlake 65 = .ok (.iconst (-1), 1) := by decide +kernel
theorem dX9_addFlake_66 : decode cX9_addFlake 66 = .ok (.ixor, 1) := by decide +kernel
theorem dX9_addFlake_67 : decode cX9_addFlake 67 = .ok (.iand, 1) := by decide +kernel
theorem dX9_addFlake_68 : decode cX9_addFlake 68 = .ok (.iaload, 1) := by decide +kernel
theorem dX9_addFlake_69 : decode cX9_addFlake 69 = .ok (.iconst 1, 1) := by decide +kernel
theorem dX9_addFlake_70 : decode cX9_addFlake 70 = .ok (.iadd, 1) := by decide +kernel
theorem dX9_addFlake_71 : decode cX9_addFlake 71 = .ok (.goto 4, 3) := by decide +kernel
theorem dX9_addFlake_74 : decode cX9_addFlake 74 = .ok (.iconst 0, 1) := by decide +kernel
theorem dX9_addFlake_75 : decode cX9_addFlake 75 = .ok (.istore 6, 2) := by decide +kernel
theorem dX9_addFlake_77 : decode cX9_addFlake 77 = .ok (.iload 6, 2) := by decide +kernel
theorem dX9_addFlake_79 : decode cX9_addFlake 79 = .ok (.iload_n 3, 1) := by decide +kernel
theorem dX9_addFlake_80 : decode cX9_addFlake 80 = .ok (.if_icmp .le 8, 3) := by decide +kernel
theorem dX9_addFlake_83 : decode cX9_addFlake 83 = .ok (.iload 6, 2) := by decide +kernel
theorem dX9_addFlake_85 : decode cX9_addFlake 85 = .ok (.goto 4, 3) := by decide +kernel
theorem dX9_addFlake_88 : decode cX9_addFlake 88 = .ok (.iload_n 3, 1) := by decide +kernel
theorem dX9_addFlake_89 : decode cX9_addFlake 89 = .ok (.istore_n 3, 1) := by decide +kernel
theorem dX9_addFlake_90 : decode cX9_addFlake 90 = .ok (.iinc 4 1, 3) := by decide +kernel
theorem dX9_addFlake_93 : decode cX9_addFlake 93 = .ok (.goto (-76), 3) := by decide +kernel
theorem dX9_addFlake_96 : decode cX9_addFlake 96 = .ok (.aload_n 0, 1) := by decide +kernel
theorem dX9_addFlake_97 : decode cX9_addFlake 97 = .ok (.getfield 59, 3) := by decide +kernel
theorem dX9_addFlake_100 : decode cX9_addFlake 100 = .ok (.iload_n 2, 1) := by decide +kernel
theorem dX9_addFlake_101 : decode cX9_addFlake 101 = .ok (.iload_n 3, 1) := by decide +kernel
theorem dX9_addFlake_102 : decode cX9_addFlake 102 = .ok (.iastore, 1) := by decide +kernel
theorem dX9_addFlake_103 : decode cX9_addFlake 103 = .ok (.iinc 2 (-1), 3) := by decide +kernel
theorem dX9_addFlake_106 : decode cX9_addFlake 106 = .ok (.goto (-103), 3) := by decide +kernel
theorem dX9_addFlake_109 : decode cX9_addFlake 109 = .ok (.return_, 1) := by decide +kernel
theorem dX9_most_0 : decode cX9_most 0 = .ok (.iload_n 1, 1) := by decide +kernel
theorem dX9_most_1 : decode cX9_most 1 = .ok (.i2l, 1) := by decide +kernel
theorem dX9_most_2 : decode cX9_most 2 = .ok (.lconst 0, 1) := by decide +kernel
theorem dX9_most_3 : decode cX9_most 3 = .ok (.lconst 1, 1) := by decide +kernel
theorem dX9_most_4 : decode cX9_most 4 = .ok (.invokestatic 86, 3) := by decide +kernel
theorem dX9_most_7 : decode cX9_most 7 = .ok (.ifCond .ne 6, 3) := by decide +kernel
theorem dX9_most_10 : decode cX9_most 10 = .ok (.bipush (-2), 2) := by decide +kernel
theorem dX9_most_12 : decode cX9_most 12 = .ok (.ireturn, 1) := by decide +kernel
theorem dX9_most_13 : decode cX9_most 13 = .ok (.iload_n 1, 1) := by decide +kernel
theorem dX9_most_14 : decode cX9_most 14 = .ok (.ifCond .ne 37, 3) := by decide +kernel
theorem dX9_most_17 : decode cX9_most 17 = .ok (.iconst 0, 1) := by decide +kernel
theorem dX9_most_18 : decode cX9_most 18 = .ok (.istore_n 2, 1) := by decide +kernel
theorem dX9_most_19 : decode cX9_most 19 = .ok (.iconst 0, 1) := by decide +kernel
theorem dX9_most_20 : decode cX9_most 20 = .ok (.istore_n 3, 1) := by decide +kernel
theorem dX9_most_21 : decode cX9_most 21 = .ok (.iload_n 3, 1) := by decide +kernel
theorem dX9_most_22 : decode cX9_most 22 = .ok (.bipush 6, 2) := by decide +kernel
theorem dX9_most_24 : decode cX9_most 24 = .ok (.if_icmp .ge 25, 3) := by decide +kernel
theorem dX9_most_27 : decode cX9_most 27 = .ok (.iload_n 2, 1) := by decide +kernel
theorem dX9_most_28 : decode cX9_most 28 = .ok (.aload_n 0, 1) := by decide +kernel
theorem dX9_most_29 : decode cX9_most 29 = .ok (.iload_n 3, 1) := by decide +kernel
theorem dX9_most_30 : decode cX9_most 30 = .ok (.invokevirtual 236, 3) := by decide +kernel
theorem dX9_most_33 : decode cX9_most 33 = .ok (.ifCond .eq 7, 3) := by decide +kernel
theorem dX9_most_36 : decode cX9_most 36 = .ok (.iconst 1, 1) := by decide +kernel
theorem dX9_most_37 : decode cX9_most 37 = .ok (.goto 4, 3) := by decide +kernel
theorem dX9_most_40 : decode cX9_most 40 = .ok (.iconst 0, 1) := by decide +kernel
theorem dX9_most_41 : decode cX9_most 41 = .ok (.iadd, 1) := by decide +kernel
theorem dX9_most_42 : decode cX9_most 42 = .ok (.istore_n 2, 1) := by decide +kernel
theorem dX9_most_43 : decode cX9_most 43 = .ok (.iinc 3 1, 3) := by decide +kernel
theorem dX9_most_46 : decode cX9_most 46 = .ok (.goto (-25), 3) := by decide +kernel
theorem dX9_most_49 : decode cX9_most 49 = .ok (.iload_n 2, 1) := by decide +kernel
theorem dX9_most_50 : decode cX9_most 50 = .ok (.ireturn, 1) := by decide +kernel
theorem dX9_most_51 : decode cX9_most 51 = .ok (.iconst 0, 1) := by decide +kernel
theorem dX9_most_52 : decode cX9_most 52 = .ok (.istore_n 2, 1) := by decide +kernel
theorem dX9_most_53 : decode cX9_most 53 = .ok (.iload_n 2, 1) := by decide +kernel
theorem dX9_most_54 : decode cX9_most 54 = .ok (.bipush 64, 2) := by decide +kernel
theorem dX9_most_56 : decode cX9_most 56 = .ok (.if_icmp .ge 16, 3) := by decide +kernel
theorem dX9_most_59 : decode cX9_most 59 = .ok (.aload_n 0, 1) := by decide +kernel
theorem dX9_most_60 : decode cX9_most 60 = .ok (.getfield 59, 3) := by decide +kernel
theorem dX9_most_63 : decode cX9_most 63 = .ok (.iload_n 2, 1) := by decide +kernel
theorem dX9_most_64 : decode cX9_most 64 = .ok (.iconst 0, 1) := by decide +kernel
theorem dX9_most_65 : decode cX9_most 65 = .ok (.iastore, 1) := by decide +kernel
theorem dX9_most_66 : decode cX9_most 66 = .ok (.iinc 2 1, 3) := by decide +kernel
theorem dX9_most_69 : decode cX9_most 69 = .ok (.goto (-16), 3) := by decide +kernel
theorem dX9_most_72 : decode cX9_most 72 = .ok (.iconst 0, 1) := by decide +kernel
theorem dX9_most_73 : decode cX9_most 73 = .ok (.istore_n 2, 1) := by decide +kernel
theorem dX9_most_74 : decode cX9_most 74 = .ok (.iload_n 2, 1) := by decide +kernel
theorem dX9_most_75 : decode cX9_most 75 = .ok (.bipush 8, 2) := by decide +kernel
theorem dX9_most_77 : decode cX9_most 77 = .ok (.if_icmp .ge 22, 3) := by decide +kernel
theorem dX9_most_80 : decode cX9_most 80 = .ok (.aload_n 0, 1) := by decide +kernel
theorem dX9_most_81 : decode cX9_most 81 = .ok (.iload_n 2, 1) := by decide +kernel
theorem dX9_most_82 : decode cX9_most 82 = .ok (.invokevirtual 137, 3) := by decide +kernel
theorem dX9_most_85 : decode cX9_most 85 = .ok (.ifCond .eq 8, 3) := by decide +kernel
theorem dX9_most_88 : decode cX9_most 88 = .ok (.aload_n 0, 1) := by decide +kernel
theorem dX9_most_89 : decode cX9_most 89 = .ok (.iload_n 2, 1) := by decide +kernel
theorem dX9_most_90 : decode cX9_most 90 = .ok (.invokevirtual 239, 3) := by decide +kernel
theorem dX9_most_93 : decode cX9_most 93 = .ok (.iinc 2 1, 3) := by decide +kernel
theorem dX9_most_96 : decode cX9_most 96 = .ok (.goto (-22), 3) := by decide +kernel
theorem dX9_most_99 : decode cX9_most 99 = .ok (.aload_n 0, 1) := by decide +kernel
theorem dX9_most_100 : decode cX9_most 100 = .ok (.getfield 59, 3) := by decide +kernel
theorem dX9_most_103 : decode cX9_most 103 = .ok (.bipush 63, 2) := by decide +kernel
theorem dX9_most_105 : decode cX9_most 105 = .ok (.iaload, 1) := by decide +kernel
theorem dX9_most_106 : decode cX9_most 106 = .ok (.ireturn, 1) := by decide +kernel
theorem dX9_isFree_0 : decode cX9_isFree 0 = .ok (.iconst 1, 1) := by decide +kernel
theorem dX9_isFree_1 : decode cX9_isFree 1 = .ok (.istore_n 2, 1) := by decide +kernel
theorem dX9_isFree_2 : decode cX9_isFree 2 = .ok (.iconst 0, 1) := by decide +kernel
theorem dX9_isFree_3 : decode cX9_isFree 3 = .ok (.istore_n 3, 1) := by decide +kernel
theorem dX9_isFree_4 : decode cX9_isFree 4 = .ok (.iload_n 3, 1) := by decide +kernel
theorem dX9_isFree_5 : decode cX9_isFree 5 = .ok (.bipush 6, 2) := by decide +kernel
theorem dX9_isFree_7 : decode cX9_isFree 7 = .ok (.if_icmp .ge 29, 3) := by decide +kernel
theorem dX9_isFree_10 : decode cX9_isFree 10 = .ok (.iload_n 2, 1) := by decide +kernel
theorem dX9_isFree_11 : decode cX9_isFree 11 = .ok (.ifCond .eq 17, 3) := by decide +kernel
theorem dX9_isFree_14 : decode cX9_isFree 14 = .ok (.aload_n 0, 1) := by decide +kernel
theorem dX9_isFree_15 : decode cX9_isFree 15 = .ok (.getfield 25, 3) := by decide +kernel
theorem dX9_isFree_18 : decode cX9_isFree 18 = .ok (.iload_n 3, 1) := by decide +kernel
theorem dX9_isFree_19 : decode cX9_isFree 19 = .ok (.iaload, 1) := by decide +kernel
theorem dX9_isFree_20 : decode cX9_isFree 20 = .ok (.iload_n 1, 1) := by decide +kernel
theorem dX9_isFree_21 : decode cX9_isFree 21 = .ok (.if_icmp .eq 7, 3) := by decide +kernel
theorem dX9_isFree_24 : decode cX9_isFree 24 = .ok (.iconst 1, 1) := by decide +kernel
theorem dX9_isFree_25 : decode cX9_isFree 25 = .ok (.goto 4, 3) := by decide +kernel
theorem dX9_isFree_28 : decode cX9_isFree 28 = .ok (.iconst 0, 1) := by decide +kernel
theorem dX9_isFree_29 : decode cX9_isFree 29 = .ok (.istore_n 2, 1) := by decide +kernel
theorem dX9_isFree_30 : decode cX9_isFree 30 = .ok (.iinc 3 1, 3) := by decide +kernel
theorem dX9_isFree_33 : decode cX9_isFree 33 = .ok (.goto (-29), 3) := by decide +kernel
theorem dX9_isFree_36 : decode cX9_isFree 36 = .ok (.iconst 0, 1) := by decide +kernel
theorem dX9_isFree_37 : decode cX9_isFree 37 = .ok (.istore_n 3, 1) := by decide +kernel
theorem dX9_isFree_38 : decode cX9_isFree 38 = .ok (.iload_n 3, 1) := by decide +kernel
theorem dX9_isFree_39 : decode cX9_isFree 39 = .ok (.bipush 8, 2) := by decide +kernel
theorem dX9_isFree_41 : decode cX9_isFree 41 = .ok (.if_icmp .ge 67, 3) := by decide +kernel
theorem dX9_isFree_44 : decode cX9_isFree 44 = .ok (.aload_n 0, 1) := by decide +kernel
theorem dX9_isFree_45 : decode cX9_isFree 45 = .ok (.iload_n 3, 1) := by decide +kernel
theorem dX9_isFree_46 : decode cX9_isFree 46 = .ok (.invokevirtual 113, 3) := by decide +kernel
theorem dX9_isFree_49 : decode cX9_isFree 49 = .ok (.ifCond .eq 25, 3) := by decide +kernel
theorem dX9_isFree_52 : decode cX9_isFree 52 = .ok (.aload_n 0, 1) := by decide +kernel
theorem dX9_isFree_53 : decode cX9_isFree 53 = .ok (.getfield 16, 3) := by decide +kernel
theorem dX9_isFree_56 : decode cX9_isFree 56 = .ok (.iload_n 3, 1) := by decide +kernel
theorem dX9_isFree_57 : decode cX9_isFree 57 = .ok (.iaload, 1) := by decide +kernel
theorem dX9_isFree_58 : decode cX9_isFree 58 = .ok (.ifCond .ne 16, 3) := by decide +kernel
theorem dX9_isFree_61 : decode cX9_isFree 61 = .ok (.aload_n 0, 1) := by decide +kernel
theorem dX9_isFree_62 : decode cX9_isFree 62 = .ok (.getfield 22, 3) := by decide +kernel
theorem dX9_isFree_65 : decode cX9_isFree 65 = .ok (.iload_n 3, 1) := by decide +kernel
theorem dX9_isFree_66 : decode cX9_isFree 66 = .ok (.iaload, 1) := by decide +kernel
theorem dX9_isFree_67 : decode cX9_isFree 67 = .ok (.ifCond .ge 7, 3) := by decide +kernel
theorem dX9_isFree_70 : decode cX9_isFree 70 = .ok (.iconst 1, 1) := by decide +kernel
theorem dX9_isFree_71 : decode cX9_isFree 71 = .ok (.goto 4, 3) := by decide +kernel
theorem dX9_isFree_74 : decode cX9_isFree 74 = .ok (.iconst 0, 1) := by decide +kernel
theorem dX9_isFree_75 : decode cX9_isFree 75 = .ok (.istore 4, 2) := by decide +kernel
theorem dX9_isFree_77 : decode cX9_isFree 77 = .ok (.iload_n 2, 1) := by decide +kernel
theorem dX9_isFree_78 : decode cX9_isFree 78 = .ok (.ifCond .eq 22, 3) := by decide +kernel
theorem dX9_isFree_81 : decode cX9_isFree 81 = .ok (.iload 4, 2) := by decide +kernel
theorem dX9_isFree_83 : decode cX9_isFree 83 = .ok (.ifCond .eq 13, 3) := by decide +kernel
theorem dX9_isFree_86 : decode cX9_isFree 86 = .ok (.aload_n 0, 1) := by decide +kernel
theorem dX9_isFree_87 : decode cX9_isFree 87 = .ok (.getfield 13, 3) := by decide +kernel
theorem dX9_isFree_90 : decode cX9_isFree 90 = .ok (.iload_n 3, 1) := by decide +kernel
theorem dX9_isFree_91 : decode cX9_isFree 91 = .ok (.iaload, 1) := by decide +kernel
theorem dX9_isFree_92 : decode cX9_isFree 92 = .ok (.iload_n 1, 1) := by decide +kernel
theorem dX9_isFree_93 : decode cX9_isFree 93 = .ok (.if_icmp .eq 7, 3) := by decide +kernel
theorem dX9_isFree_96 : decode cX9_isFree 96 = .ok (.iconst 1, 1) := by decide +kernel
theorem dX9_isFree_97 : decode cX9_isFree 97 = .ok (.goto 4, 3) := by decide +kernel
theorem dX9_isFree_100 : decode cX9_isFree 100 = .ok (.iconst 0, 1) := by decide +kernel
theorem dX9_isFree_101 : decode cX9_isFree 101 = .ok (.istore_n 2, 1) := by decide +kernel
theorem dX9_isFree_102 : decode cX9_isFree 102 = .ok (.iinc 3 1, 3) := by decide +kernel
theorem dX9_isFree_105 : decode cX9_isFree 105 = .ok (.goto (-67), 3) := by decide +kernel
theorem dX9_isFree_108 : decode cX9_isFree 108 = .ok (.iload_n 2, 1) := by decide +kernel
theorem dX9_isFree_109 : decode cX9_isFree 109 = .ok (.ireturn, 1) := by decide +kernel
theorem dX9_patch_0 : decode cX9_patch 0 = .ok (.iload_n 1, 1) := by decide +kernel
theorem dX9_patch_1 : decode cX9_patch 1 = .ok (.i2l, 1) := by decide +kernel
theorem dX9_patch_2 : decode cX9_patch 2 = .ok (.lconst 0, 1) := by decide +kernel
theorem dX9_patch_3 : decode cX9_patch 3 = .ok (.lconst 1, 1) := by decide +kernel
theorem dX9_patch_4 : decode cX9_patch 4 = .ok (.invokestatic 86, 3) := by decide +kernel
theorem dX9_patch_7 : decode cX9_patch 7 = .ok (.ifCond .ne 6, 3) := by decide +kernel
theorem dX9_patch_10 : decode cX9_patch 10 = .ok (.bipush (-2), 2) := by decide +kernel
theorem dX9_patch_12 : decode cX9_patch 12 = .ok (.ireturn, 1) := by decide +kernel
theorem dX9_patch_13 : decode cX9_patch 13 = .ok (.iconst 0, 1) := by decide +kernel
theorem dX9_patch_14 : decode cX9_patch 14 = .ok (.istore_n 2, 1) := by decide +kernel
theorem dX9_patch_15 : decode cX9_patch 15 = .ok (.bipush (-6), 2) := by decide +kernel
theorem dX9_patch_17 : decode cX9_patch 17 = .ok (.istore_n 3, 1) := by decide +kernel
theorem dX9_patch_18 : decode cX9_patch 18 = .ok (.iconst 0, 1) := by decide +kernel
theorem dX9_patch_19 : decode cX9_patch 19 = .ok (.istore 4, 2) := by decide +kernel
theorem dX9_patch_21 : decode cX9_patch 21 = .ok (.iconst 0, 1) := by decide +kernel
theorem dX9_patch_22 : decode cX9_patch 22 = .ok (.istore 5, 2) := by decide +kernel
theorem dX9_patch_24 : decode cX9_patch 24 = .ok (.iload 5, 2) := by decide +kernel
theorem dX9_patch_26 : decode cX9_patch 26 = .ok (.bipush 16, 2) := by decide +kernel
theorem dX9_patch_28 : decode cX9_patch 28 = .ok (.if_icmp .ge 59, 3) := by decide +kernel
theorem dX9_patch_31 : decode cX9_patch 31 = .ok (.aload_n 0, 1) := by decide +kernel
theorem dX9_patch_32 : decode cX9_patch 32 = .ok (.iload 5, 2) := by decide +kernel
theorem dX9_patch_34 : decode cX9_patch 34 = .ok (.invokevirtual 242, 3) := by decide +kernel
theorem dX9_patch_37 : decode cX9_patch 37 = .ok (.ifCond .eq 10, 3) := by decide +kernel
theorem dX9_patch_40 : decode cX9_patch 40 = .ok (.iload 4, 2) := by decide +kernel
theorem dX9_patch_42 : decode cX9_patch 42 = .ok (.iconst 1, 1) := by decide +kernel
theorem dX9_patch_43 : decode cX9_patch 43 = .ok (.iadd, 1) := by decide +kernel
theorem dX9_patch_44 : decode cX9_patch 44 = .ok (.goto 4, 3) := by decide +kernel
theorem dX9_patch_47 : decode cX9_patch 47 = .ok (.iconst 0, 1) := by decide +kernel
theorem dX9_patch_48 : decode cX9_patch 48 = .ok (.istore 4, 2) := by decide +kernel
theorem dX9_patch_50 : decode cX9_patch 50 = .ok (.iload 4, 2) := by decide +kernel
theorem dX9_patch_52 : decode cX9_patch 52 = .ok (.iload_n 2, 1) := by decide +kernel
theorem dX9_patch_53 : decode cX9_patch 53 = .ok (.if_icmp .le 13, 3) := by decide +kernel
theorem dX9_patch_56 : decode cX9_patch 56 = .ok (.iload 5, 2) := by decide +kernel
theorem dX9_patch_58 : decode cX9_patch 58 = .ok (.iload 4, 2) := by decide +kernel
theorem dX9_patch_60 : decode cX9_patch 60 = .ok (.isub, 1) := by decide +kernel
theorem dX9_patch_61 : decode cX9_patch 61 = .ok (.iconst 1, 1) := by decide +kernel
theorem dX9_patch_62 : decode cX9_patch 62 = .ok (.iadd, 1) := by decide +kernel
theorem dX9_patch_63 : decode cX9_patch 63 = .ok (.goto 4, 3) := by decide +kernel
theorem dX9_patch_66 : decode cX9_patch 66 = .ok (.iload_n 3, 1) := by decide +kernel
theorem dX9_patch_67 : decode cX9_patch 67 = .ok (.istore_n 3, 1) := by decide +kernel
theorem dX9_patch_68 : decode cX9_patch 68 = .ok (.iload 4, 2) := by decide +kernel
theorem dX9_patch_70 : decode cX9_patch 70 = .ok (.iload_n 2, 1) := by decide +kernel
theorem dX9_patch_71 : decode cX9_patch 71 = .ok (.if_icmp .le 8, 3) := by decide +kernel
theorem dX9_patch_74 : decode cX9_patch 74 = .ok (.iload 4, 2) := by decide +kernel
theorem dX9_patch_76 : decode cX9_patch 76 = .ok (.goto 4, 3) := by decide +kernel
theorem dX9_patch_79 : decode cX9_patch 79 = .ok (.iload_n 2, 1) := by decide +kernel
theorem dX9_patch_80 : decode cX9_patch 80 = .ok (.istore_n 2, 1) := by decide +kernel
theorem dX9_patch_81 : decode cX9_patch 81 = .ok (.iinc 5 1, 3) := by decide +kernel
theorem dX9_patch_84 : decode cX9_patch 84 = .ok (.goto (-60), 3) := by decide +kernel
theorem dX9_patch_87 : decode cX9_patch 87 = .ok (.iload_n 1, 1) := by decide +kernel
theorem dX9_patch_88 : decode cX9_patch 88 = .ok (.ifCond .ne 7, 3) := by decide +kernel
theorem dX9_patch_91 : decode cX9_patch 91 = .ok (.iload_n 2, 1) := by decide +kernel
theorem dX9_patch_92 : decode cX9_patch 92 = .ok (.goto 4, 3) := by decide +kernel
theorem dX9_patch_95 : decode cX9_patch 95 = .ok (.iload_n 3, 1) := by decide +kernel
theorem dX9_patch_96 : decode cX9_patch 96 = .ok (.ireturn, 1) := by decide +kernel
theorem dX9_seen_0 : decode cX9_seen 0 = .ok (.iload_n 1, 1) := by decide +kernel
theorem dX9_seen_1 : decode cX9_seen 1 = .ok (.invokestatic 102, 3) := by decide +kernel
theorem dX9_seen_4 : decode cX9_seen 4 = .ok (.ifCond .eq 10, 3) := by decide +kernel
theorem dX9_seen_7 : decode cX9_seen 7 = .ok (.iload_n 2, 1) := by decide +kernel
theorem dX9_seen_8 : decode cX9_seen 8 = .ok (.invokestatic 102, 3) := by decide +kernel
theorem dX9_seen_11 : decode cX9_seen 11 = .ok (.ifCond .ne 6, 3) := by decide +kernel
theorem dX9_seen_14 : decode cX9_seen 14 = .ok (.bipush (-2), 2) := by decide +kernel
theorem dX9_seen_16 : decode cX9_seen 16 = .ok (.ireturn, 1) := by decide +kernel
theorem dX9_seen_17 : decode cX9_seen 17 = .ok (.aload_n 0, 1) := by decide +kernel
theorem dX9_seen_18 : decode cX9_seen 18 = .ok (.getfield 245, 3) := by decide +kernel
theorem dX9_seen_21 : decode cX9_seen 21 = .ok (.bipush 8, 2) := by decide +kernel
theorem dX9_seen_23 : decode cX9_seen 23 = .ok (.if_icmp .ne 6, 3) := by decide +kernel
theorem dX9_seen_26 : decode cX9_seen 26 = .ok (.bipush (-4), 2) := by decide +kernel
theorem dX9_seen_28 : decode cX9_seen 28 = .ok (.ireturn, 1) := by decide +kernel
theorem dX9_seen_29 : decode cX9_seen 29 = .ok (.aload_n 0, 1) := by decide +kernel
theorem dX9_seen_30 : decode cX9_seen 30 = .ok (.getfield 34, 3) := by decide +kernel
theorem dX9_seen_33 : decode cX9_seen 33 = .ok (.aload_n 0, 1) := by decide +kernel
theorem dX9_seen_34 : decode cX9_seen 34 = .ok (.getfield 245, 3) := by decide +kernel
theorem dX9_seen_37 : decode cX9_seen 37 = .ok (.iload_n 1, 1) := by decide +kernel
theorem dX9_seen_38 : decode cX9_seen 38 = .ok (.iastore, 1) := by decide +kernel
theorem dX9_seen_39 : decode cX9_seen 39 = .ok (.aload_n 0, 1) := by decide +kernel
theorem dX9_seen_40 : decode cX9_seen 40 = .ok (.getfield 37, 3) := by decide +kernel
theorem dX9_seen_43 : decode cX9_seen 43 = .ok (.aload_n 0, 1) := by decide +kernel
theorem dX9_seen_44 : decode cX9_seen 44 = .ok (.getfield 245, 3) := by decide +kernel
theorem dX9_seen_47 : decode cX9_seen 47 = .ok (.iload_n 2, 1) := by decide +kernel
theorem dX9_seen_48 : decode cX9_seen 48 = .ok (.iastore, 1) := by decide +kernel
theorem dX9_seen_49 : decode cX9_seen 49 = .ok (.aload_n 0, 1) := by decide +kernel
theorem dX9_seen_50 : decode cX9_seen 50 = .ok (.dup, 1) := by decide +kernel
theorem dX9_seen_51 : decode cX9_seen 51 = .ok (.getfield 245, 3) := by decide +kernel
theorem dX9_seen_54 : decode cX9_seen 54 = .ok (.iconst 1, 1) := by decide +kernel
theorem dX9_seen_55 : decode cX9_seen 55 = .ok (.iadd, 1) := by decide +kernel
theorem dX9_seen_56 : decode cX9_seen 56 = .ok (.putfield 245, 3) := by decide +kernel
theorem dX9_seen_59 : decode cX9_seen 59 = .ok (.aload_n 0, 1) := by decide +kernel
theorem dX9_seen_60 : decode cX9_seen 60 = .ok (.getfield 245, 3) := by decide +kernel
theorem dX9_seen_63 : decode cX9_seen 63 = .ok (.ireturn, 1) := by decide +kernel
theorem dX9_forget_0 : decode cX9_forget 0 = .ok (.aload_n 0, 1) := by decide +kernel
theorem dX9_forget_1 : decode cX9_forget 1 = .ok (.getfield 245, 3) := by decide +kernel
theorem dX9_forget_4 : decode cX9_forget 4 = .ok (.istore_n 1, 1) := by decide +kernel
theorem dX9_forget_5 : decode cX9_forget 5 = .ok (.aload_n 0, 1) := by decide +kernel
theorem dX9_forget_6 : decode cX9_forget 6 = .ok (.iconst 0, 1) := by decide +kernel
theorem dX9_forget_7 : decode cX9_forget 7 = .ok (.putfield 245, 3) := by decide +kernel
theorem dX9_forget_10 : decode cX9_forget 10 = .ok (.iload_n 1, 1) := by decide +kernel
theorem dX9_forget_11 : decode cX9_forget 11 = .ok (.ireturn, 1) := by decide +kernel
theorem dX9_fits_0 : decode cX9_fits 0 = .ok (.iconst 1, 1) := by decide +kernel
theorem dX9_fits_1 : decode cX9_fits 1 = .ok (.istore_n 2, 1) := by decide +kernel
theorem dX9_fits_2 : decode cX9_fits 2 = .ok (.iconst 0, 1) := by decide +kernel
theorem dX9_fits_3 : decode cX9_fits 3 = .ok (.istore_n 3, 1) := by decide +kernel
theorem dX9_fits_4 : decode cX9_fits 4 = .ok (.iload_n 3, 1) := by decide +kernel
theorem dX9_fits_5 : decode cX9_fits 5 = .ok (.aload_n 0, 1) := by decide +kernel
theorem dX9_fits_6 : decode cX9_fits 6 = .ok (.getfield 245, 3) := by decide +kernel
theorem dX9_fits_9 : decode cX9_fits 9 = .ok (.if_icmp .ge 38, 3) := by decide +kernel
theorem dX9_fits_12 : decode cX9_fits 12 = .ok (.iload_n 2, 1) := by decide +kernel
theorem dX9_fits_13 : decode cX9_fits 13 = .ok (.ifCond .eq 26, 3) := by decide +kernel
theorem dX9_fits_16 : decode cX9_fits 16 = .ok (.aload_n 0, 1) := by decide +kernel
theorem dX9_fits_17 : decode cX9_fits 17 = .ok (.getfield 34, 3) := by decide +kernel
theorem dX9_fits_20 : decode cX9_fits 20 = .ok (.iload_n 3, 1) := by decide +kernel
theorem dX9_fits_21 : decode cX9_fits 21 = .ok (.iaload, 1) := by decide +kernel
theorem dX9_fits_22 : decode cX9_fits 22 = .ok (.iload_n 1, 1) := by decide +kernel
theorem dX9_fits_23 : decode cX9_fits 23 = .ok (.invokestatic 144, 3) := by decide +kernel
theorem dX9_fits_26 : decode cX9_fits 26 = .ok (.aload_n 0, 1) := by decide +kernel
theorem dX9_fits_27 : decode cX9_fits 27 = .ok (.getfield 37, 3) := by decide +kernel
theorem dX9_fits_30 : decode cX9_fits 30 = .ok (.iload_n 3, 1) := by decide +kernel
theorem dX9_fits_31 : decode cX9_fits 31 = .ok (.iaload, 1) := by decide +kernel
theorem dX9_fits_32 : decode cX9_fits 32 = .ok (.if_icmp .ne 7, 3) := by decide +kernel
theorem dX9_fits_35 : decode cX9_fits 35 = .ok (.iconst 1, 1) := by decide +kernel
theorem dX9_fits_36 : decode cX9_fits 36 = .ok (.goto 4, 3) := by decide +kernel
theorem dX9_fits_39 : decode cX9_fits 39 = .ok (.iconst 0, 1) := by decide +kernel
theorem dX9_fits_40 : decode cX9_fits 40 = .ok (.istore_n 2, 1) := by decide +kernel
theorem dX9_fits_41 : decode cX9_fits 41 = .ok (.iinc 3 1, 3) := by decide +kernel
theorem dX9_fits_44 : decode cX9_fits 44 = .ok (.goto (-40), 3) := by decide +kernel
theorem dX9_fits_47 : decode cX9_fits 47 = .ok (.iload_n 2, 1) := by decide +kernel
theorem dX9_fits_48 : decode cX9_fits 48 = .ok (.ireturn, 1) := by decide +kernel
theorem dX9_laws_0 : decode cX9_laws 0 = .ok (.iconst 0, 1) := by decide +kernel
theorem dX9_laws_1 : decode cX9_laws 1 = .ok (.istore_n 2, 1) := by decide +kernel
theorem dX9_laws_2 : decode cX9_laws 2 = .ok (.iconst 0, 1) := by decide +kernel
theorem dX9_laws_3 : decode cX9_laws 3 = .ok (.istore_n 3, 1) := by decide +kernel
theorem dX9_laws_4 : decode cX9_laws 4 = .ok (.iload_n 3, 1) := by decide +kernel
theorem dX9_laws_5 : decode cX9_laws 5 = .ok (.sipush 256, 3) := by decide +kernel
theorem dX9_laws_8 : decode cX9_laws 8 = .ok (.if_icmp .ge 27, 3) := by decide +kernel
theorem dX9_laws_11 : decode cX9_laws 11 = .ok (.aload_n 0, 1) := by decide +kernel
theorem dX9_laws_12 : decode cX9_laws 12 = .ok (.iload_n 3, 1) := by decide +kernel
theorem dX9_laws_13 : decode cX9_laws 13 = .ok (.invokevirtual 248, 3) := by decide +kernel
theorem dX9_laws_16 : decode cX9_laws 16 = .ok (.ifCond .eq 13, 3) := by decide +kernel
theorem dX9_laws_19 : decode cX9_laws 19 = .ok (.iload_n 2, 1) := by decide +kernel
theorem dX9_laws_20 : decode cX9_laws 20 = .ok (.iload_n 1, 1) := by decide +kernel
theorem dX9_laws_21 : decode cX9_laws 21 = .ok (.if_icmp .ne 5, 3) := by decide +kernel
theorem dX9_laws_24 : decode cX9_laws 24 = .ok (.iload_n 3, 1) := by decide +kernel
theorem dX9_laws_25 : decode cX9_laws 25 = .ok (.ireturn, 1) := by decide +kernel
theorem dX9_laws_26 : decode cX9_laws 26 = .ok (.iinc 2 1, 3) := by decide +kernel
theorem dX9_laws_29 : decode cX9_laws 29 = .ok (.iinc 3 1, 3) := by decide +kernel
theorem dX9_laws_32 : decode cX9_laws 32 = .ok (.goto (-28), 3) := by decide +kernel
theorem dX9_laws_35 : decode cX9_laws 35 = .ok (.iload_n 1, 1) := by decide +kernel
theorem dX9_laws_36 : decode cX9_laws 36 = .ok (.iconst (-1), 1) := by decide +kernel
theorem dX9_laws_37 : decode cX9_laws 37 = .ok (.if_icmp .ne 7, 3) := by decide +kernel
theorem dX9_laws_40 : decode cX9_laws 40 = .ok (.iload_n 2, 1) := by decide +kernel
theorem dX9_laws_41 : decode cX9_laws 41 = .ok (.goto 5, 3) := by decide +kernel
theorem dX9_laws_44 : decode cX9_laws 44 = .ok (.bipush (-6), 2) := by decide +kernel
theorem dX9_laws_46 : decode cX9_laws 46 = .ok (.ireturn, 1) := by decide +kernel
theorem dX9_mostLeft_0 : decode cX9_mostLeft 0 = .ok (.iconst 0, 1) := by decide +kernel
theorem dX9_mostLeft_1 : decode cX9_mostLeft 1 = .ok (.istore_n 2, 1) := by decide +kernel
theorem dX9_mostLeft_2 : decode cX9_mostLeft 2 = .ok (.iconst 0, 1) := by decide +kernel
theorem dX9_mostLeft_3 : decode cX9_mostLeft 3 = .ok (.istore_n 3, 1) := by decide +kernel
theorem dX9_mostLeft_4 : decode cX9_mostLeft 4 = .ok (.iload_n 3, 1) := by decide +kernel
theorem dX9_mostLeft_5 : decode cX9_mostLeft 5 = .ok (.sipush 256, 3) := by decide +kernel
theorem dX9_mostLeft_8 : decode cX9_mostLeft 8 = .ok (.if_icmp .ge 16, 3) := by decide +kernel
theorem dX9_mostLeft_11 : decode cX9_mostLeft 11 = .ok (.aload_n 0, 1) := by decide +kernel
theorem dX9_mostLeft_12 : decode cX9_mostLeft 12 = .ok (.getfield 62, 3) := by decide +kernel
theorem dX9_mostLeft_15 : decode cX9_mostLeft 15 = .ok (.iload_n 3, 1) := by decide +kernel
theorem dX9_mostLeft_16 : decode cX9_mostLeft 16 = .ok (.iconst 0, 1) := by decide +kernel
theorem dX9_mostLeft_17 : decode cX9_mostLeft 17 = .ok (.iastore, 1) := by decide +kernel
theorem dX9_mostLeft_18 : decode cX9_mostLeft 18 = .ok (.iinc 3 1, 3) := by decide +kernel
theorem dX9_mostLeft_21 : decode cX9_mostLeft 21 = .ok (.goto (-17), 3) := by decide +kernel
theorem dX9_mostLeft_24 : decode cX9_mostLeft 24 = .ok (.iconst 0, 1) := by decide +kernel
theorem dX9_mostLeft_25 : decode cX9_mostLeft 25 = .ok (.istore_n 3, 1) := by decide +kernel
theorem dX9_mostLeft_26 : decode cX9_mostLeft 26 = .ok (.iload_n 3, 1) := by decide +kernel
theorem dX9_mostLeft_27 : decode cX9_mostLeft 27 = .ok (.sipush 256, 3) := by decide +kernel
theorem dX9_mostLeft_30 : decode cX9_mostLeft 30 = .ok (.if_icmp .ge 59, 3) := by decide +kernel
theorem dX9_mostLeft_33 : decode cX9_mostLeft 33 = .ok (.aload_n 0, 1) := by decide +kernel
theorem dX9_mostLeft_34 : decode cX9_mostLeft 34 = .ok (.getfield 65, 3) := by decide +kernel
theorem dX9_mostLeft_37 : decode cX9_mostLeft 37 = .ok (.iload_n 3, 1) := by decide +kernel
theorem dX9_mostLeft_38 : decode cX9_mostLeft 38 = .ok (.baload, 1) := by decide +kernel
theorem dX9_mostLeft_39 : decode cX9_mostLeft 39 = .ok (.ifCond .eq 44, 3) := by decide +kernel
theorem dX9_mostLeft_42 : decode cX9_mostLeft 42 = .ok (.iload_n 1, 1) := by decide +kernel
theorem dX9_mostLeft_43 : decode cX9_mostLeft 43 = .ok (.iload_n 3, 1) := by decide +kernel
theorem dX9_mostLeft_44 : decode cX9_mostLeft 44 = .ok (.invokestatic 144, 3) := by decide +kernel
theorem dX9_mostLeft_47 : decode cX9_mostLeft 47 = .ok (.istore 4, 2) := by decide +kernel
theorem dX9_mostLeft_49 : decode cX9_mostLeft 49 = .ok (.aload_n 0, 1) := by decide +kernel
theorem dX9_mostLeft_50 : decode cX9_mostLeft 50 = .ok (.getfield 62, 3) := by decide +kernel
theorem dX9_mostLeft_53 : decode cX9_mostLeft 53 = .ok (.iload 4, 2) := by decide +kernel
theorem dX9_mostLeft_55 : decode cX9_mostLeft 55 = .ok (.dup2, 1) := by decide +kernel
theorem dX9_mostLeft_56 : decode cX9_mostLeft 56 = .ok (.iaload, 1) := by decide +kernel
theorem dX9_mostLeft_57 : decode cX9_mostLeft 57 = .ok (.iconst 1, 1) := by decide +kernel
theorem dX9_mostLeft_58 : decode cX9_mostLeft 58 = .ok (.iadd, 1) := by decide +kernel
theorem dX9_mostLeft_59 : decode cX9_mostLeft 59 = .ok (.iastore, 1) := by decide +kernel
theorem dX9_mostLeft_60 : decode cX9_mostLeft 60 = .ok (.aload_n 0, 1) := by decide +kernel
theorem dX9_mostLeft_61 : decode cX9_mostLeft 61 = .ok (.getfield 62, 3) := by decide +kernel
theorem dX9_mostLeft_64 : decode cX9_mostLeft 64 = .ok (.iload 4, 2) := by decide +kernel
theorem dX9_mostLeft_66 : decode cX9_mostLeft 66 = .ok (.iaload, 1) := by decide +kernel
theorem dX9_mostLeft_67 : decode cX9_mostLeft 67 = .ok (.iload_n 2, 1) := by decide +kernel
theorem dX9_mostLeft_68 : decode cX9_mostLeft 68 = .ok (.if_icmp .le 13, 3) := by decide +kernel
theorem dX9_mostLeft_71 : decode cX9_mostLeft 71 = .ok (.aload_n 0, 1) := by decide +kernel
theorem dX9_mostLeft_72 : decode cX9_mostLeft 72 = .ok (.getfield 62, 3) := by decide +kernel
theorem dX9_mostLeft_75 : decode cX9_mostLeft 75 = .ok (.iload 4, 2) := by decide +kernel
theorem dX9_mostLeft_77 : decode cX9_mostLeft 77 = .ok (.iaload, 1) := by decide +kernel
theorem dX9_mostLeft_78 : decode cX9_mostLeft 78 = .ok (.goto 4, 3) := by decide +kernel
theorem dX9_mostLeft_81 : decode cX9_mostLeft 81 = .ok (.iload_n 2, 1) := by decide +kernel
theorem dX9_mostLeft_82 : decode cX9_mostLeft 82 = .ok (.istore_n 2, 1) := by decide +kernel
theorem dX9_mostLeft_83 : decode cX9_mostLeft 83 = .ok (.iinc 3 1, 3) := by decide +kernel
theorem dX9_mostLeft_86 : decode cX9_mostLeft 86 = .ok (.goto (-60), 3) := by decide +kernel
theorem dX9_mostLeft_89 : decode cX9_mostLeft 89 = .ok (.iload_n 2, 1) := by decide +kernel
theorem dX9_mostLeft_90 : decode cX9_mostLeft 90 = .ok (.ireturn, 1) := by decide +kernel
theorem dX9_look_0 : decode cX9_look 0 = .ok (.iload_n 1, 1) := by decide +kernel
theorem dX9_look_1 : decode cX9_look 1 = .ok (.i2l, 1) := by decide +kernel
theorem dX9_look_2 : decode cX9_look 2 = .ok (.lconst 0, 1) := by decide +kernel
theorem dX9_look_3 : decode cX9_look 3 = .ok (.lconst 1, 1) := by decide +kernel
theorem dX9_look_4 : decode cX9_look 4 = .ok (.invokestatic 86, 3) := by decide +kernel
theorem dX9_look_7 : decode cX9_look 7 = .ok (.ifCond .ne 6, 3) := by decide +kernel
theorem dX9_look_10 : decode cX9_look 10 = .ok (.bipush (-2), 2) := by decide +kernel
theorem dX9_look_12 : decode cX9_look 12 = .ok (.ireturn, 1) := by decide +kernel
theorem dX9_look_13 : decode cX9_look 13 = .ok (.iconst 0, 1) := by decide +kernel
theorem dX9_look_14 : decode cX9_look 14 = .ok (.istore_n 2, 1) := by decide +kernel
theorem dX9_look_15 : decode cX9_look 15 = .ok (.iload_n 2, 1) := by decide +kernel
theorem dX9_look_16 : decode cX9_look 16 = .ok (.sipush 256, 3) := by decide +kernel
theorem dX9_look_19 : decode cX9_look 19 = .ok (.if_icmp .ge 20, 3) := by decide +kernel
theorem dX9_look_22 : decode cX9_look 22 = .ok (.aload_n 0, 1) := by decide +kernel
theorem dX9_look_23 : decode cX9_look 23 = .ok (.getfield 65, 3) := by decide +kernel
theorem dX9_look_26 : decode cX9_look 26 = .ok (.iload_n 2, 1) := by decide +kernel
theorem dX9_look_27 : decode cX9_look 27 = .ok (.aload_n 0, 1) := by decide +kernel
theorem dX9_look_28 : decode cX9_look 28 = .ok (.iload_n 2, 1) := by decide +kernel
theorem dX9_look_29 : decode cX9_look 29 = .ok (.invokevirtual 248, 3) := by decide +kernel
theorem dX9_look_32 : decode cX9_look 32 = .ok (.bastore, 1) := by decide +kernel
theorem dX9_look_33 : decode cX9_look 33 = .ok (.iinc 2 1, 3) := by decide +kernel
theorem dX9_look_36 : decode cX9_look 36 = .ok (.goto (-21), 3) := by decide +kernel
theorem dX9_look_39 : decode cX9_look 39 = .ok (.iconst 0, 1) := by decide +kernel
theorem dX9_look_40 : decode cX9_look 40 = .ok (.istore_n 2, 1) := by decide +kernel
theorem dX9_look_41 : decode cX9_look 41 = .ok (.aload_n 0, 1) := by decide +kernel
theorem dX9_look_42 : decode cX9_look 42 = .ok (.iconst 0, 1) := by decide +kernel
theorem dX9_look_43 : decode cX9_look 43 = .ok (.invokevirtual 251, 3) := by decide +kernel
theorem dX9_look_46 : decode cX9_look 46 = .ok (.istore_n 3, 1) := by decide +kernel
theorem dX9_look_47 : decode cX9_look 47 = .ok (.iconst 1, 1) := by decide +kernel
theorem dX9_look_48 : decode cX9_look 48 = .ok (.istore 4, 2) := by decide +kernel
theorem dX9_look_50 : decode cX9_look 50 = .ok (.iload 4, 2) := by decide +kernel
theorem dX9_look_52 : decode cX9_look 52 = .ok (.sipush 256, 3) := by decide +kernel
theorem dX9_look_55 : decode cX9_look 55 = .ok (.if_icmp .ge 43, 3) := by decide +kernel
theorem dX9_look_58 : decode cX9_look 58 = .ok (.aload_n 0, 1) := by decide +kernel
theorem dX9_look_59 : decode cX9_look 59 = .ok (.iload 4, 2) := by decide +kernel
theorem dX9_look_61 : decode cX9_look 61 = .ok (.invokevirtual 251, 3) := by decide +kernel
theorem dX9_look_64 : decode cX9_look 64 = .ok (.istore 5, 2) := by decide +kernel
theorem dX9_look_66 : decode cX9_look 66 = .ok (.iload 5, 2) := by decide +kernel
theorem dX9_look_68 : decode cX9_look 68 = .ok (.iload_n 3, 1) := by decide +kernel
theorem dX9_look_69 : decode cX9_look 69 = .ok (.if_icmp .ge 8, 3) := by decide +kernel
theorem dX9_look_72 : decode cX9_look 72 = .ok (.iload 4, 2) := by decide +kernel
theorem dX9_look_74 : decode cX9_look 74 = .ok (.goto 4, 3) := by decide +kernel
theorem dX9_look_77 : decode cX9_look 77 = .ok (.iload_n 2, 1) := by decide +kernel
theorem dX9_look_78 : decode cX9_look 78 = .ok (.istore_n 2, 1) := by decide +kernel
theorem dX9_look_79 : decode cX9_look 79 = .ok (.iload 5, 2) := by decide +kernel
theorem dX9_look_81 : decode cX9_look 81 = .ok (.iload_n 3, 1) := by decide +kernel
theorem dX9_look_82 : decode cX9_look 82 = .ok (.if_icmp .ge 8, 3) := by decide +kernel
theorem dX9_look_85 : decode cX9_look 85 = .ok (.iload 5, 2) := by decide +kernel
theorem dX9_look_87 : decode cX9_look 87 = .ok (.goto 4, 3) := by decide +kernel
theorem dX9_look_90 : decode cX9_look 90 = .ok (.iload_n 3, 1) := by decide +kernel
theorem dX9_look_91 : decode cX9_look 91 = .ok (.istore_n 3, 1) := by decide +kernel
theorem dX9_look_92 : decode cX9_look 92 = .ok (.iinc 4 1, 3) := by decide +kernel
theorem dX9_look_95 : decode cX9_look 95 = .ok (.goto (-45), 3) := by decide +kernel
theorem dX9_look_98 : decode cX9_look 98 = .ok (.iload_n 3, 1) := by decide +kernel
theorem dX9_look_99 : decode cX9_look 99 = .ok (.ifCond .ne 8, 3) := by decide +kernel
theorem dX9_look_102 : decode cX9_look 102 = .ok (.bipush (-6), 2) := by decide +kernel
theorem dX9_look_104 : decode cX9_look 104 = .ok (.goto 12, 3) := by decide +kernel
theorem dX9_look_107 : decode cX9_look 107 = .ok (.iload_n 1, 1) := by decide +kernel
theorem dX9_look_108 : decode cX9_look 108 = .ok (.ifCond .ne 7, 3) := by decide +kernel
theorem dX9_look_111 : decode cX9_look 111 = .ok (.iload_n 2, 1) := by decide +kernel
theorem dX9_look_112 : decode cX9_look 112 = .ok (.goto 4, 3) := by decide +kernel
theorem dX9_look_115 : decode cX9_look 115 = .ok (.iload_n 3, 1) := by decide +kernel
theorem dX9_look_116 : decode cX9_look 116 = .ok (.ireturn, 1) := by decide +kernel
theorem dX9_gust_0 : decode cX9_gust 0 = .ok (.iconst 0, 1) := by decide +kernel
theorem dX9_gust_1 : decode cX9_gust 1 = .ok (.istore_n 3, 1) := by decide +kernel
theorem dX9_gust_2 : decode cX9_gust 2 = .ok (.iload_n 3, 1) := by decide +kernel
theorem dX9_gust_3 : decode cX9_gust 3 = .ok (.bipush 16, 2) := by decide +kernel
theorem dX9_gust_5 : decode cX9_gust 5 = .ok (.if_icmp .gt 35, 3) := by decide +kernel
theorem dX9_gust_8 : decode cX9_gust 8 = .ok (.aload_n 0, 1) := by decide +kernel
theorem dX9_gust_9 : decode cX9_gust 9 = .ok (.getfield 72, 3) := by decide +kernel
theorem dX9_gust_12 : decode cX9_gust 12 = .ok (.iload_n 3, 1) := by decide +kernel
theorem dX9_gust_13 : decode cX9_gust 13 = .ok (.iload_n 3, 1) := by decide +kernel
theorem dX9_gust_14 : decode cX9_gust 14 = .ok (.bipush 16, 2) := by decide +kernel
theorem dX9_gust_16 : decode cX9_gust 16 = .ok (.if_icmp .ne 16, 3) := by decide +kernel
theorem dX9_gust_19 : decode cX9_gust 19 = .ok (.ldc2_w 216, 3) := by decide +kernel
theorem dX9_gust_22 : decode cX9_gust 22 = .ok (.aload_n 0, 1) := by decide +kernel
theorem dX9_gust_23 : decode cX9_gust 23 = .ok (.getfield 69, 3) := by decide +kernel
theorem dX9_gust_26 : decode cX9_gust 26 = .ok (.iload_n 3, 1) := by decide +kernel
theorem dX9_gust_27 : decode cX9_gust 27 = .ok (.laload, 1) := by decide +kernel
theorem dX9_gust_28 : decode cX9_gust 28 = .ok (.lmul, 1) := by decide +kernel
theorem dX9_gust_29 : decode cX9_gust 29 = .ok (.goto 4, 3) := by decide +kernel
theorem dX9_gust_32 : decode cX9_gust 32 = .ok (.lconst 0, 1) := by decide +kernel
theorem dX9_gust_33 : decode cX9_gust 33 = .ok (.lastore, 1) := by decide +kernel
theorem dX9_gust_34 : decode cX9_gust 34 = .ok (.iinc 3 1, 3) := by decide +kernel
theorem dX9_gust_37 : decode cX9_gust 37 = .ok (.goto (-35), 3) := by decide +kernel
theorem dX9_gust_40 : decode cX9_gust 40 = .ok (.iconst 0, 1) := by decide +kernel
theorem dX9_gust_41 : decode cX9_gust 41 = .ok (.istore_n 3, 1) := by decide +kernel
theorem dX9_gust_42 : decode cX9_gust 42 = .ok (.iload_n 3, 1) := by decide +kernel
theorem dX9_gust_43 : decode cX9_gust 43 = .ok (.bipush 16, 2) := by decide +kernel
theorem dX9_gust_45 : decode cX9_gust 45 = .ok (.if_icmp .ge 83, 3) := by decide +kernel
theorem dX9_gust_48 : decode cX9_gust 48 = .ok (.aload_n 0, 1) := by decide +kernel
theorem dX9_gust_49 : decode cX9_gust 49 = .ok (.getfield 72, 3) := by decide +kernel
theorem dX9_gust_52 : decode cX9_gust 52 = .ok (.iload_n 3, 1) := by decide +kernel
theorem dX9_gust_53 : decode cX9_gust 53 = .ok (.ifCond .ne 8, 3) := by decide +kernel
theorem dX9_gust_56 : decode cX9_gust 56 = .ok (.bipush 16, 2) := by decide +kernel
theorem dX9_gust_58 : decode cX9_gust 58 = .ok (.goto 6, 3) := by decide +kernel
theorem dX9_gust_61 : decode cX9_gust 61 = .ok (.iload_n 3, 1) := by decide +kernel
theorem dX9_gust_62 : decode cX9_gust 62 = .ok (.iconst 1, 1) := by decide +kernel
theorem dX9_gust_63 : decode cX9_gust 63 = .ok (.isub, 1) := by decide +kernel
theorem dX9_gust_64 : decode cX9_gust 64 = .ok (.dup2, 1) := by decide +kernel
theorem dX9_gust_65 : decode cX9_gust 65 = .ok (.laload, 1) := by decide +kernel
theorem dX9_gust_66 : decode cX9_gust 66 = .ok (.iload_n 1, 1) := by decide +kernel
theorem dX9_gust_67 : decode cX9_gust 67 = .ok (.i2l, 1) := by decide +kernel
theorem dX9_gust_68 : decode cX9_gust 68 = .ok (.aload_n 0, 1) := by decide +kernel
theorem dX9_gust_69 : decode cX9_gust 69 = .ok (.getfield 69, 3) := by decide +kernel
theorem dX9_gust_72 : decode cX9_gust 72 = .ok (.iload_n 3, 1) := by decide +kernel
theorem dX9_gust_73 : decode cX9_gust 73 = .ok (.laload, 1) := by decide +kernel
theorem dX9_gust_74 : decode cX9_gust 74 = .ok (.lmul, 1) := by decide +kernel
theorem dX9_gust_75 : decode cX9_gust 75 = .ok (.ladd, 1) := by decide +kernel
theorem dX9_gust_76 : decode cX9_gust 76 = .ok (.lastore, 1) := by decide +kernel
theorem dX9_gust_77 : decode cX9_gust 77 = .ok (.aload_n 0, 1) := by decide +kernel
theorem dX9_gust_78 : decode cX9_gust 78 = .ok (.getfield 72, 3) := by decide +kernel
theorem dX9_gust_81 : decode cX9_gust 81 = .ok (.iload_n 3, 1) := by decide +kernel
theorem dX9_gust_82 : decode cX9_gust 82 = .ok (.iconst 1, 1) := by decide +kernel
theorem dX9_gust_83 : decode cX9_gust 83 = .ok (.iadd, 1) := by decide +kernel
theorem dX9_gust_84 : decode cX9_gust 84 = .ok (.dup2, 1) := by decide +kernel
theorem dX9_gust_85 : decode cX9_gust 85 = .ok (.laload, 1) := by decide +kernel
theorem dX9_gust_86 : decode cX9_gust 86 = .ok (.iload_n 2, 1) := by decide +kernel
theorem dX9_gust_87 : decode cX9_gust 87 = .ok (.i2l, 1) := by decide +kernel
theorem dX9_gust_88 : decode cX9_gust 88 = .ok (.aload_n 0, 1) := by decide +kernel
theorem dX9_gust_89 : decode cX9_gust 89 = .ok (.getfield 69, 3) := by decide +kernel
theorem dX9_gust_92 : decode cX9_gust 92 = .ok (.iload_n 3, 1) := by decide +kernel
theorem dX9_gust_93 : decode cX9_gust 93 = .ok (.laload, 1) := by decide +kernel
theorem dX9_gust_94 : decode cX9_gust 94 = .ok (.lmul, 1) := by decide +kernel
theorem dX9_gust_95 : decode cX9_gust 95 = .ok (.ladd, 1) := by decide +kernel
theorem dX9_gust_96 : decode cX9_gust 96 = .ok (.lastore, 1) := by decide +kernel
theorem dX9_gust_97 : decode cX9_gust 97 = .ok (.aload_n 0, 1) := by decide +kernel
theorem dX9_gust_98 : decode cX9_gust 98 = .ok (.getfield 72, 3) := by decide +kernel
theorem dX9_gust_101 : decode cX9_gust 101 = .ok (.iload_n 3, 1) := by decide +kernel
theorem dX9_gust_102 : decode cX9_gust 102 = .ok (.dup2, 1) := by decide +kernel
theorem dX9_gust_103 : decode cX9_gust 103 = .ok (.laload, 1) := by decide +kernel
theorem dX9_gust_104 : decode cX9_gust 104 = .ok (.ldc2_w 216, 3) := by decide +kernel
theorem dX9_gust_107 : decode cX9_gust 107 = .ok (.iload_n 1, 1) := by decide +kernel
theorem dX9_gust_108 : decode cX9_gust 108 = .ok (.i2l, 1) := by decide +kernel
theorem dX9_gust_109 : decode cX9_gust 109 = .ok (.lsub, 1) := by decide +kernel
theorem dX9_gust_110 : decode cX9_gust 110 = .ok (.iload_n 2, 1) := by decide +kernel
theorem dX9_gust_111 : decode cX9_gust 111 = .ok (.i2l, 1) := by decide +kernel
theorem dX9_gust_112 : decode cX9_gust 112 = .ok (.lsub, 1) := by decide +kernel
theorem dX9_gust_113 : decode cX9_gust 113 = .ok (.aload_n 0, 1) := by decide +kernel
theorem dX9_gust_114 : decode cX9_gust 114 = .ok (.getfield 69, 3) := by decide +kernel
theorem dX9_gust_117 : decode cX9_gust 117 = .ok (.iload_n 3, 1) := by decide +kernel
theorem dX9_gust_118 : decode cX9_gust 118 = .ok (.laload, 1) := by decide +kernel
theorem dX9_gust_119 : decode cX9_gust 119 = .ok (.lmul, 1) := by decide +kernel
theorem dX9_gust_120 : decode cX9_gust 120 = .ok (.ladd, 1) := by decide +kernel
theorem dX9_gust_121 : decode cX9_gust 121 = .ok (.lastore, 1) := by decide +kernel
theorem dX9_gust_122 : decode cX9_gust 122 = .ok (.iinc 3 1, 3) := by decide +kernel
theorem dX9_gust_125 : decode cX9_gust 125 = .ok (.goto (-83), 3) := by decide +kernel
theorem dX9_gust_128 : decode cX9_gust 128 = .ok (.iconst 0, 1) := by decide +kernel
theorem dX9_gust_129 : decode cX9_gust 129 = .ok (.istore_n 3, 1) := by decide +kernel
theorem dX9_gust_130 : decode cX9_gust 130 = .ok (.iload_n 3, 1) := by decide +kernel
theorem dX9_gust_131 : decode cX9_gust 131 = .ok (.bipush 16, 2) := by decide +kernel
theorem dX9_gust_133 : decode cX9_gust 133 = .ok (.if_icmp .gt 21, 3) := by decide +kernel
theorem dX9_gust_136 : decode cX9_gust 136 = .ok (.aload_n 0, 1) := by decide +kernel
theorem dX9_gust_137 : decode cX9_gust 137 = .ok (.getfield 69, 3) := by decide +kernel
theorem dX9_gust_140 : decode cX9_gust 140 = .ok (.iload_n 3, 1) := by decide +kernel
theorem dX9_gust_141 : decode cX9_gust 141 = .ok (.aload_n 0, 1) := by decide +kernel
theorem dX9_gust_142 : decode cX9_gust 142 = .ok (.getfield 72, 3) := by decide +kernel
theorem dX9_gust_145 : decode cX9_gust 145 = .ok (.iload_n 3, 1) := by decide +kernel
theorem dX9_gust_146 : decode cX9_gust 146 = .ok (.laload, 1) := by decide +kernel
theorem dX9_gust_147 : decode cX9_gust 147 = .ok (.lastore, 1) := by decide +kernel
theorem dX9_gust_148 : decode cX9_gust 148 = .ok (.iinc 3 1, 3) := by decide +kernel
theorem dX9_gust_151 : decode cX9_gust 151 = .ok (.goto (-21), 3) := by decide +kernel
theorem dX9_gust_154 : decode cX9_gust 154 = .ok (.return_, 1) := by decide +kernel
theorem dX9_lowest_0 : decode cX9_lowest 0 = .ok (.lload_n 2, 1) := by decide +kernel
theorem dX9_lowest_1 : decode cX9_lowest 1 = .ok (.lstore 5, 2) := by decide +kernel
theorem dX9_lowest_3 : decode cX9_lowest 3 = .ok (.lload_n 0, 1) := by decide +kernel
theorem dX9_lowest_4 : decode cX9_lowest 4 = .ok (.lstore 7, 2) := by decide +kernel
theorem dX9_lowest_6 : decode cX9_lowest 6 = .ok (.lload 7, 2) := by decide +kernel
theorem dX9_lowest_8 : decode cX9_lowest 8 = .ok (.lconst 0, 1) := by decide +kernel
theorem dX9_lowest_9 : decode cX9_lowest 9 = .ok (.lcmp, 1) := by decide +kernel
theorem dX9_lowest_10 : decode cX9_lowest 10 = .ok (.ifCond .eq 21, 3) := by decide +kernel
theorem dX9_lowest_13 : decode cX9_lowest 13 = .ok (.lload 5, 2) := by decide +kernel
theorem dX9_lowest_15 : decode cX9_lowest 15 = .ok (.lload 7, 2) := by decide +kernel
theorem dX9_lowest_17 : decode cX9_lowest 17 = .ok (.lrem, 1) := by decide +kernel
theorem dX9_lowest_18 : decode cX9_lowest 18 = .ok (.lstore 9, 2) := by decide +kernel
theorem dX9_lowest_20 : decode cX9_lowest 20 = .ok (.lload 7, 2) := by decide +kernel
theorem dX9_lowest_22 : decode cX9_lowest 22 = .ok (.lstore 5, 2) := by decide +kernel
theorem dX9_lowest_24 : decode cX9_lowest 24 = .ok (.lload 9, 2) := by decide +kernel
theorem dX9_lowest_26 : decode cX9_lowest 26 = .ok (.lstore 7, 2) := by decide +kernel
theorem dX9_lowest_28 : decode cX9_lowest 28 = .ok (.goto (-22), 3) := by decide +kernel
theorem dX9_lowest_31 : decode cX9_lowest 31 = .ok (.iload 4, 2) := by decide +kernel
theorem dX9_lowest_33 : decode cX9_lowest 33 = .ok (.ifCond .ne 10, 3) := by decide +kernel
theorem dX9_lowest_36 : decode cX9_lowest 36 = .ok (.lload_n 0, 1) := by decide +kernel
theorem dX9_lowest_37 : decode cX9_lowest 37 = .ok (.lload 5, 2) := by decide +kernel
theorem dX9_lowest_39 : decode cX9_lowest 39 = .ok (.ldiv, 1) := by decide +kernel
theorem dX9_lowest_40 : decode cX9_lowest 40 = .ok (.goto 7, 3) := by decide +kernel
theorem dX9_lowest_43 : decode cX9_lowest 43 = .ok (.lload_n 2, 1) := by decide +kernel
theorem dX9_lowest_44 : decode cX9_lowest 44 = .ok (.lload 5, 2) := by decide +kernel
theorem dX9_lowest_46 : decode cX9_lowest 46 = .ok (.ldiv, 1) := by decide +kernel
theorem dX9_lowest_47 : decode cX9_lowest 47 = .ok (.lreturn, 1) := by decide +kernel
theorem dX9_areGusts_0 : decode cX9_areGusts 0 = .ok (.iload_n 0, 1) := by decide +kernel
theorem dX9_areGusts_1 : decode cX9_areGusts 1 = .ok (.i2l, 1) := by decide +kernel
theorem dX9_areGusts_2 : decode cX9_areGusts 2 = .ok (.lconst 0, 1) := by decide +kernel
theorem dX9_areGusts_3 : decode cX9_areGusts 3 = .ok (.ldc2_w 105, 3) := by decide +kernel
theorem dX9_areGusts_6 : decode cX9_areGusts 6 = .ok (.invokestatic 86, 3) := by decide +kernel
theorem dX9_areGusts_9 : decode cX9_areGusts 9 = .ok (.ifCond .eq 73, 3) := by decide +kernel
theorem dX9_areGusts_12 : decode cX9_areGusts 12 = .ok (.iload_n 1, 1) := by decide +kernel
theorem dX9_areGusts_13 : decode cX9_areGusts 13 = .ok (.i2l, 1) := by decide +kernel
theorem dX9_areGusts_14 : decode cX9_areGusts 14 = .ok (.lconst 0, 1) := by decide +kernel
theorem dX9_areGusts_15 : decode cX9_areGusts 15 = .ok (.ldc2_w 254, 3) := by decide +kernel
theorem dX9_areGusts_18 : decode cX9_areGusts 18 = .ok (.invokestatic 86, 3) := by decide +kernel
theorem dX9_areGusts_21 : decode cX9_areGusts 21 = .ok (.ifCond .eq 61, 3) := by decide +kernel
theorem dX9_areGusts_24 : decode cX9_areGusts 24 = .ok (.iload_n 2, 1) := by decide +kernel
theorem dX9_areGusts_25 : decode cX9_areGusts 25 = .ok (.i2l, 1) := by decide +kernel
theorem dX9_areGusts_26 : decode cX9_areGusts 26 = .ok (.lconst 0, 1) := by decide +kernel
theorem dX9_areGusts_27 : decode cX9_areGusts 27 = .ok (.ldc2_w 216, 3) := by decide +kernel
theorem dX9_areGusts_30 : decode cX9_areGusts 30 = .ok (.invokestatic 86, 3) := by decide +kernel
theorem dX9_areGusts_33 : decode cX9_areGusts 33 = .ok (.ifCond .eq 49, 3) := by decide +kernel
theorem dX9_areGusts_36 : decode cX9_areGusts 36 = .ok (.iload_n 3, 1) := by decide +kernel
theorem dX9_areGusts_37 : decode cX9_areGusts 37 = .ok (.i2l, 1) := by decide +kernel
theorem dX9_areGusts_38 : decode cX9_areGusts 38 = .ok (.lconst 0, 1) := by decide +kernel
theorem dX9_areGusts_39 : decode cX9_areGusts 39 = .ok (.ldc2_w 216, 3) := by decide +kernel
theorem dX9_areGusts_42 : decode cX9_areGusts 42 = .ok (.invokestatic 86, 3) := by decide +kernel
theorem dX9_areGusts_45 : decode cX9_areGusts 45 = .ok (.ifCond .eq 37, 3) := by decide +kernel
theorem dX9_areGusts_48 : decode cX9_areGusts 48 = .ok (.iload_n 2, 1) := by decide +kernel
theorem dX9_areGusts_49 : decode cX9_areGusts 49 = .ok (.i2l, 1) := by decide +kernel
theorem dX9_areGusts_50 : decode cX9_areGusts 50 = .ok (.iload_n 3, 1) := by decide +kernel
theorem dX9_areGusts_51 : decode cX9_areGusts 51 = .ok (.i2l, 1) := by decide +kernel
theorem dX9_areGusts_52 : decode cX9_areGusts 52 = .ok (.ladd, 1) := by decide +kernel
theorem dX9_areGusts_53 : decode cX9_areGusts 53 = .ok (.lconst 0, 1) := by decide +kernel
theorem dX9_areGusts_54 : decode cX9_areGusts 54 = .ok (.ldc2_w 216, 3) := by decide +kernel
theorem dX9_areGusts_57 : decode cX9_areGusts 57 = .ok (.invokestatic 86, 3) := by decide +kernel
theorem dX9_areGusts_60 : decode cX9_areGusts 60 = .ok (.ifCond .eq 22, 3) := by decide +kernel
theorem dX9_areGusts_63 : decode cX9_areGusts 63 = .ok (.iload 4, 2) := by decide +kernel
theorem dX9_areGusts_65 : decode cX9_areGusts 65 = .ok (.i2l, 1) := by decide +kernel
theorem dX9_areGusts_66 : decode cX9_areGusts 66 = .ok (.ldc2_w 256, 3) := by decide +kernel
theorem dX9_areGusts_69 : decode cX9_areGusts 69 = .ok (.ldc2_w 105, 3) := by decide +kernel
theorem dX9_areGusts_72 : decode cX9_areGusts 72 = .ok (.invokestatic 86, 3) := by decide +kernel
theorem dX9_areGusts_75 : decode cX9_areGusts 75 = .ok (.ifCond .eq 7, 3) := by decide +kernel
theorem dX9_areGusts_78 : decode cX9_areGusts 78 = .ok (.iconst 1, 1) := by decide +kernel
theorem dX9_areGusts_79 : decode cX9_areGusts 79 = .ok (.goto 4, 3) := by decide +kernel
theorem dX9_areGusts_82 : decode cX9_areGusts 82 = .ok (.iconst 0, 1) := by decide +kernel
theorem dX9_areGusts_83 : decode cX9_areGusts 83 = .ok (.ireturn, 1) := by decide +kernel
theorem dX9_gusts_0 : decode cX9_gusts 0 = .ok (.iload_n 1, 1) := by decide +kernel
theorem dX9_gusts_1 : decode cX9_gusts 1 = .ok (.iload_n 2, 1) := by decide +kernel
theorem dX9_gusts_2 : decode cX9_gusts 2 = .ok (.iload_n 3, 1) := by decide +kernel
theorem dX9_gusts_3 : decode cX9_gusts 3 = .ok (.iload 4, 2) := by decide +kernel
theorem dX9_gusts_5 : decode cX9_gusts 5 = .ok (.iload 5, 2) := by decide +kernel
theorem dX9_gusts_7 : decode cX9_gusts 7 = .ok (.invokestatic 258, 3) := by decide +kernel
theorem dX9_gusts_10 : decode cX9_gusts 10 = .ok (.ifCond .eq 14, 3) := by decide +kernel
theorem dX9_gusts_13 : decode cX9_gusts 13 = .ok (.iload 6, 2) := by decide +kernel
theorem dX9_gusts_15 : decode cX9_gusts 15 = .ok (.i2l, 1) := by decide +kernel
theorem dX9_gusts_16 : decode cX9_gusts 16 = .ok (.lconst 0, 1) := by decide +kernel
theorem dX9_gusts_17 : decode cX9_gusts 17 = .ok (.lconst 1, 1) := by decide +kernel
theorem dX9_gusts_18 : decode cX9_gusts 18 = .ok (.invokestatic 86, 3) := by decide +kernel
theorem dX9_gusts_21 : decode cX9_gusts 21 = .ok (.ifCond .ne 7, 3) := by decide +kernel
theorem dX9_gusts_24 : decode cX9_gusts 24 = .ok (.ldc2_w 262, 3) := by decide +kernel
theorem dX9_gusts_27 : decode cX9_gusts 27 = .ok (.lreturn, 1) := by decide +kernel
theorem dX9_gusts_28 : decode cX9_gusts 28 = .ok (.iconst 0, 1) := by decide +kernel
theorem dX9_gusts_29 : decode cX9_gusts 29 = .ok (.istore 7, 2) := by decide +kernel
theorem dX9_gusts_31 : decode cX9_gusts 31 = .ok (.iload 7, 2) := by decide +kernel
theorem dX9_gusts_33 : decode cX9_gusts 33 = .ok (.bipush 16, 2) := by decide +kernel
theorem dX9_gusts_35 : decode cX9_gusts 35 = .ok (.if_icmp .gt 27, 3) := by decide +kernel
theorem dX9_gusts_38 : decode cX9_gusts 38 = .ok (.aload_n 0, 1) := by decide +kernel
theorem dX9_gusts_39 : decode cX9_gusts 39 = .ok (.getfield 69, 3) := by decide +kernel
theorem dX9_gusts_42 : decode cX9_gusts 42 = .ok (.iload 7, 2) := by decide +kernel
theorem dX9_gusts_44 : decode cX9_gusts 44 = .ok (.iload 7, 2) := by decide +kernel
theorem dX9_gusts_46 : decode cX9_gusts 46 = .ok (.iload_n 1, 1) := by decide +kernel
theorem dX9_gusts_47 : decode cX9_gusts 47 = .ok (.if_icmp .ne 7, 3) := by decide +kernel
theorem dX9_gusts_50 : decode cX9_gusts 50 = .ok (.lconst 1, 1) := by decide +kernel
theorem dX9_gusts_51 : decode cX9_gusts 51 = .ok (.goto 4, 3) := by decide +kernel
theorem dX9_gusts_54 : decode cX9_gusts 54 = .ok (.lconst 0, 1) := by decide +kernel
theorem dX9_gusts_55 : decode cX9_gusts 55 = .ok (.lastore, 1) := by decide +kernel
theorem dX9_gusts_56 : decode cX9_gusts 56 = .ok (.iinc 7 1, 3) := by decide +kernel
theorem dX9_gusts_59 : decode cX9_gusts 59 = .ok (.goto (-28), 3) := by decide +kernel
theorem dX9_gusts_62 : decode cX9_gusts 62 = .ok (.lconst 1, 1) := by decide +kernel
theorem dX9_gusts_63 : decode cX9_gusts 63 = .ok (.lstore 7, 2) := by decide +kernel
theorem dX9_gusts_65 : decode cX9_gusts 65 = .ok (.iconst 0, 1) := by decide +kernel
theorem dX9_gusts_66 : decode cX9_gusts 66 = .ok (.istore 9, 2) := by decide +kernel
theorem dX9_gusts_68 : decode cX9_gusts 68 = .ok (.iload 9, 2) := by decide +kernel
theorem dX9_gusts_70 : decode cX9_gusts 70 = .ok (.iload_n 2, 1) := by decide +kernel
theorem dX9_gusts_71 : decode cX9_gusts 71 = .ok (.if_icmp .ge 24, 3) := by decide +kernel
theorem dX9_gusts_74 : decode cX9_gusts 74 = .ok (.aload_n 0, 1) := by decide +kernel
theorem dX9_gusts_75 : decode cX9_gusts 75 = .ok (.iload_n 3, 1) := by decide +kernel
theorem dX9_gusts_76 : decode cX9_gusts 76 = .ok (.iload 4, 2) := by decide +kernel
theorem dX9_gusts_78 : decode cX9_gusts 78 = .ok (.invokevirtual 264, 3) := by decide +kernel
theorem dX9_gusts_81 : decode cX9_gusts 81 = .ok (.lload 7, 2) := by decide +kernel
theorem dX9_gusts_83 : decode cX9_gusts 83 = .ok (.ldc2_w 216, 3) := by decide +kernel
theorem dX9_gusts_86 : decode cX9_gusts 86 = .ok (.lmul, 1) := by decide +kernel
theorem dX9_gusts_87 : decode cX9_gusts 87 = .ok (.lstore 7, 2) := by decide +kernel
theorem dX9_gusts_89 : decode cX9_gusts 89 = .ok (.iinc 9 1, 3) := by decide +kernel
theorem dX9_gusts_92 : decode cX9_gusts 92 = .ok (.goto (-24), 3) := by decide +kernel
theorem dX9_gusts_95 : decode cX9_gusts 95 = .ok (.aload_n 0, 1) := by decide +kernel
theorem dX9_gusts_96 : decode cX9_gusts 96 = .ok (.getfield 69, 3) := by decide +kernel
theorem dX9_gusts_99 : decode cX9_gusts 99 = .ok (.iload 5, 2) := by decide +kernel
theorem dX9_gusts_101 : decode cX9_gusts 101 = .ok (.ifCond .ge 8, 3) := by decide +kernel
theorem dX9_gusts_104 : decode cX9_gusts 104 = .ok (.bipush 16, 2) := by decide +kernel
theorem dX9_gusts_106 : decode cX9_gusts 106 = .ok (.goto 5, 3) := by decide +kernel
theorem dX9_gusts_109 : decode cX9_gusts 109 = .ok (.iload 5, 2) := by decide +kernel
theorem dX9_gusts_111 : decode cX9_gusts 111 = .ok (.laload, 1) := by decide +kernel
theorem dX9_gusts_112 : decode cX9_gusts 112 = .ok (.lload 7, 2) := by decide +kernel
theorem dX9_gusts_114 : decode cX9_gusts 114 = .ok (.iload 6, 2) := by decide +kernel
theorem dX9_gusts_116 : decode cX9_gusts 116 = .ok (.invokestatic 267, 3) := by decide +kernel
theorem dX9_gusts_119 : decode cX9_gusts 119 = .ok (.lreturn, 1) := by decide +kernel
theorem dX9_bestTake_0 : decode cX9_bestTake 0 = .ok (.iconst 0, 1) := by decide +kernel
theorem dX9_bestTake_1 : decode cX9_bestTake 1 = .ok (.istore_n 3, 1) := by decide +kernel
theorem dX9_bestTake_2 : decode cX9_bestTake 2 = .ok (.iconst 3, 1) := by decide +kernel
theorem dX9_bestTake_3 : decode cX9_bestTake 3 = .ok (.istore 4, 2) := by decide +kernel
theorem dX9_bestTake_5 : decode cX9_bestTake 5 = .ok (.iload 4, 2) := by decide +kernel
theorem dX9_bestTake_7 : decode cX9_bestTake 7 = .ok (.ifCond .le 66, 3) := by decide +kernel
theorem dX9_bestTake_10 : decode cX9_bestTake 10 = .ok (.iload 4, 2) := by decide +kernel
theorem dX9_bestTake_12 : decode cX9_bestTake 12 = .ok (.iload_n 2, 1) := by decide +kernel
theorem dX9_bestTake_13 : decode cX9_bestTake 13 = .ok (.if_icmp .eq 13, 3) := by decide +kernel
theorem dX9_bestTake_16 : decode cX9_bestTake 16 = .ok (.iload 4, 2) := by decide +kernel
theorem dX9_bestTake_18 : decode cX9_bestTake 18 = .ok (.iload_n 1, 1) := by decide +kernel
theorem dX9_bestTake_19 : decode cX9_bestTake 19 = .ok (.if_icmp .gt 7, 3) := by decide +kernel
theorem dX9_bestTake_22 : decode cX9_bestTake 22 = .ok (.iconst 1, 1) := by decide +kernel
theorem dX9_bestTake_23 : decode cX9_bestTake 23 = .ok (.goto 4, 3) := by decide +kernel
theorem dX9_bestTake_26 : decode cX9_bestTake 26 = .ok (.iconst 0, 1) := by decide +kernel
theorem dX9_bestTake_27 : decode cX9_bestTake 27 = .ok (.istore 5, 2) := by decide +kernel
theorem dX9_bestTake_29 : decode cX9_bestTake 29 = .ok (.iload 5, 2) := by decide +kernel
theorem dX9_bestTake_31 : decode cX9_bestTake 31 = .ok (.ifCond .eq 34, 3) := by decide +kernel
theorem dX9_bestTake_34 : decode cX9_bestTake 34 = .ok (.aload_n 0, 1) := by decide +kernel
theorem dX9_bestTake_35 : decode cX9_bestTake 35 = .ok (.getfield 75, 3) := by decide +kernel
theorem dX9_bestTake_38 : decode cX9_bestTake 38 = .ok (.iconst 4, 1) := by decide +kernel
theorem dX9_bestTake_39 : decode cX9_bestTake 39 = .ok (.iload_n 1, 1) := by decide +kernel
theorem dX9_bestTake_40 : decode cX9_bestTake 40 = .ok (.iload 5, 2) := by decide +kernel
theorem dX9_bestTake_42 : decode cX9_bestTake 42 = .ok (.ifCond .eq 8, 3) := by decide +kernel
theorem dX9_bestTake_45 : decode cX9_bestTake 45 = .ok (.iload 4, 2) := by decide +kernel
theorem dX9_bestTake_47 : decode cX9_bestTake 47 = .ok (.goto 4, 3) := by decide +kernel
theorem dX9_bestTake_50 : decode cX9_bestTake 50 = .ok (.iconst 0, 1) := by decide +kernel
theorem dX9_bestTake_51 : decode cX9_bestTake 51 = .ok (.isub, 1) := by decide +kernel
theorem dX9_bestTake_52 : decode cX9_bestTake 52 = .ok (.imul, 1) := by decide +kernel
theorem dX9_bestTake_53 : decode cX9_bestTake 53 = .ok (.iload 4, 2) := by decide +kernel
theorem dX9_bestTake_55 : decode cX9_bestTake 55 = .ok (.iadd, 1) := by decide +kernel
theorem dX9_bestTake_56 : decode cX9_bestTake 56 = .ok (.iaload, 1) := by decide +kernel
theorem dX9_bestTake_57 : decode cX9_bestTake 57 = .ok (.ifCond .ne 8, 3) := by decide +kernel
theorem dX9_bestTake_60 : decode cX9_bestTake 60 = .ok (.iload 4, 2) := by decide +kernel
theorem dX9_bestTake_62 : decode cX9_bestTake 62 = .ok (.goto 4, 3) := by decide +kernel
theorem dX9_bestTake_65 : decode cX9_bestTake 65 = .ok (.iload_n 3, 1) := by decide +kernel
theorem dX9_bestTake_66 : decode cX9_bestTake 66 = .ok (.istore_n 3, 1) := by decide +kernel
theorem dX9_bestTake_67 : decode cX9_bestTake 67 = .ok (.iinc 4 (-1), 3) := by decide +kernel
theorem dX9_bestTake_70 : decode cX9_bestTake 70 = .ok (.goto (-65), 3) := by decide +kernel
theorem dX9_bestTake_73 : decode cX9_bestTake 73 = .ok (.iload_n 3, 1) := by decide +kernel
theorem dX9_bestTake_74 : decode cX9_bestTake 74 = .ok (.ireturn, 1) := by decide +kernel
theorem dX9_spoon_0 : decode cX9_spoon 0 = .ok (.iload_n 1, 1) := by decide +kernel
theorem dX9_spoon_1 : decode cX9_spoon 1 = .ok (.i2l, 1) := by decide +kernel
theorem dX9_spoon_2 : decode cX9_spoon 2 = .ok (.lconst 0, 1) := by decide +kernel
theorem dX9_spoon_3 : decode cX9_spoon 3 = .ok (.ldc2_w 271, 3) := by decide +kernel
theorem dX9_spoon_6 : decode cX9_spoon 6 = .ok (.invokestatic 86, 3) := by decide +kernel
theorem dX9_spoon_9 : decode cX9_spoon 9 = .ok (.ifCond .eq 13, 3) := by decide +kernel
theorem dX9_spoon_12 : decode cX9_spoon 12 = .ok (.iload_n 2, 1) := by decide +kernel
theorem dX9_spoon_13 : decode cX9_spoon 13 = .ok (.i2l, 1) := by decide +kernel
theorem dX9_spoon_14 : decode cX9_spoon 14 = .ok (.lconst 0, 1) := by decide +kernel
theorem dX9_spoon_15 : decode cX9_spoon 15 = .ok (.lconst 1, 1) := by decide +kernel
theorem dX9_spoon_16 : decode cX9_spoon 16 = .ok (.invokestatic 86, 3) := by decide +kernel
theorem dX9_spoon_19 : decode cX9_spoon 19 = .ok (.ifCond .ne 6, 3) := by decide +kernel
theorem dX9_spoon_22 : decode cX9_spoon 22 = .ok (.bipush (-2), 2) := by decide +kernel
theorem dX9_spoon_24 : decode cX9_spoon 24 = .ok (.ireturn, 1) := by decide +kernel
theorem dX9_spoon_25 : decode cX9_spoon 25 = .ok (.iconst 0, 1) := by decide +kernel
theorem dX9_spoon_26 : decode cX9_spoon 26 = .ok (.istore_n 3, 1) := by decide +kernel
theorem dX9_spoon_27 : decode cX9_spoon 27 = .ok (.iload_n 3, 1) := by decide +kernel
theorem dX9_spoon_28 : decode cX9_spoon 28 = .ok (.iload_n 1, 1) := by decide +kernel
theorem dX9_spoon_29 : decode cX9_spoon 29 = .ok (.if_icmp .gt 42, 3) := by decide +kernel
theorem dX9_spoon_32 : decode cX9_spoon 32 = .ok (.iconst 0, 1) := by decide +kernel
theorem dX9_spoon_33 : decode cX9_spoon 33 = .ok (.istore 4, 2) := by decide +kernel
theorem dX9_spoon_35 : decode cX9_spoon 35 = .ok (.iload 4, 2) := by decide +kernel
theorem dX9_spoon_37 : decode cX9_spoon 37 = .ok (.iconst 4, 1) := by decide +kernel
theorem dX9_spoon_38 : decode cX9_spoon 38 = .ok (.if_icmp .ge 27, 3) := by decide +kernel
theorem dX9_spoon_41 : decode cX9_spoon 41 = .ok (.aload_n 0, 1) := by decide +kernel
theorem dX9_spoon_42 : decode cX9_spoon 42 = .ok (.getfield 75, 3) := by decide +kernel
theorem dX9_spoon_45 : decode cX9_spoon 45 = .ok (.iconst 4, 1) := by decide +kernel
theorem dX9_spoon_46 : decode cX9_spoon 46 = .ok (.iload_n 3, 1) := by decide +kernel
theorem dX9_spoon_47 : decode cX9_spoon 47 = .ok (.imul, 1) := by decide +kernel
theorem dX9_spoon_48 : decode cX9_spoon 48 = .ok (.iload 4, 2) := by decide +kernel
theorem dX9_spoon_50 : decode cX9_spoon 50 = .ok (.iadd, 1) := by decide +kernel
theorem dX9_spoon_51 : decode cX9_spoon 51 = .ok (.aload_n 0, 1) := by decide +kernel
theorem dX9_spoon_52 : decode cX9_spoon 52 = .ok (.iload_n 3, 1) := by decide +kernel
theorem dX9_spoon_53 : decode cX9_spoon 53 = .ok (.iload 4, 2) := by decide +kernel
theorem dX9_spoon_55 : decode cX9_spoon 55 = .ok (.invokevirtual 273, 3) := by decide +kernel
theorem dX9_spoon_58 : decode cX9_spoon 58 = .ok (.iastore, 1) := by decide +kernel
theorem dX9_spoon_59 : decode cX9_spoon 59 = .ok (.iinc 4 1, 3) := by decide +kernel
theorem dX9_spoon_62 : decode cX9_spoon 62 = .ok (.goto (-27), 3) := by decide +kernel
theorem dX9_spoon_65 : decode cX9_spoon 65 = .ok (.iinc 3 1, 3) := by decide +kernel
theorem dX9_spoon_68 : decode cX9_spoon 68 = .ok (.goto (-41), 3) := by decide +kernel
theorem dX9_spoon_71 : decode cX9_spoon 71 = .ok (.aload_n 0, 1) := by decide +kernel
theorem dX9_spoon_72 : decode cX9_spoon 72 = .ok (.getfield 75, 3) := by decide +kernel
theorem dX9_spoon_75 : decode cX9_spoon 75 = .ok (.iconst 4, 1) := by decide +kernel
theorem dX9_spoon_76 : decode cX9_spoon 76 = .ok (.iload_n 1, 1) := by decide +kernel
theorem dX9_spoon_77 : decode cX9_spoon 77 = .ok (.imul, 1) := by decide +kernel
theorem dX9_spoon_78 : decode cX9_spoon 78 = .ok (.iaload, 1) := by decide +kernel
theorem dX9_spoon_79 : decode cX9_spoon 79 = .ok (.istore_n 3, 1) := by decide +kernel
theorem dX9_spoon_80 : decode cX9_spoon 80 = .ok (.iload_n 2, 1) := by decide +kernel
theorem dX9_spoon_81 : decode cX9_spoon 81 = .ok (.ifCond .ne 15, 3) := by decide +kernel
theorem dX9_spoon_84 : decode cX9_spoon 84 = .ok (.iload_n 3, 1) := by decide +kernel
theorem dX9_spoon_85 : decode cX9_spoon 85 = .ok (.ifCond .le 7, 3) := by decide +kernel
theorem dX9_spoon_88 : decode cX9_spoon 88 = .ok (.iconst 1, 1) := by decide +kernel
theorem dX9_spoon_89 : decode cX9_spoon 89 = .ok (.goto 17, 3) := by decide +kernel
theorem dX9_spoon_92 : decode cX9_spoon 92 = .ok (.iconst 0, 1) := by decide +kernel
theorem dX9_spoon_93 : decode cX9_spoon 93 = .ok (.goto 13, 3) := by decide +kernel
theorem dX9_spoon_96 : decode cX9_spoon 96 = .ok (.iload_n 3, 1) := by decide +kernel
theorem dX9_spoon_97 : decode cX9_spoon 97 = .ok (.ifCond .le 7, 3) := by decide +kernel
theorem dX9_spoon_100 : decode cX9_spoon 100 = .ok (.iload_n 3, 1) := by decide +kernel
theorem dX9_spoon_101 : decode cX9_spoon 101 = .ok (.goto 5, 3) := by decide +kernel
theorem dX9_spoon_104 : decode cX9_spoon 104 = .ok (.bipush (-6), 2) := by decide +kernel
theorem dX9_spoon_106 : decode cX9_spoon 106 = .ok (.ireturn, 1) := by decide +kernel
theorem dX9_year_0 : decode cX9_year 0 = .ok (.iload_n 1, 1) := by decide +kernel
theorem dX9_year_1 : decode cX9_year 1 = .ok (.i2l, 1) := by decide +kernel
theorem dX9_year_2 : decode cX9_year 2 = .ok (.lconst 0, 1) := by decide +kernel
theorem dX9_year_3 : decode cX9_year 3 = .ok (.ldc2_w 276, 3) := by decide +kernel
theorem dX9_year_6 : decode cX9_year 6 = .ok (.invokestatic 86, 3) := by decide +kernel
theorem dX9_year_9 : decode cX9_year 9 = .ok (.ifCond .eq 27, 3) := by decide +kernel
theorem dX9_year_12 : decode cX9_year 12 = .ok (.iload_n 2, 1) := by decide +kernel
theorem dX9_year_13 : decode cX9_year 13 = .ok (.i2l, 1) := by decide +kernel
theorem dX9_year_14 : decode cX9_year 14 = .ok (.lconst 1, 1) := by decide +kernel
theorem dX9_year_15 : decode cX9_year 15 = .ok (.ldc2_w 278, 3) := by decide +kernel
theorem dX9_year_18 : decode cX9_year 18 = .ok (.invokestatic 86, 3) := by decide +kernel
theorem dX9_year_21 : decode cX9_year 21 = .ok (.ifCond .eq 15, 3) := by decide +kernel
theorem dX9_year_24 : decode cX9_year 24 = .ok (.iload_n 3, 1) := by decide +kernel
theorem dX9_year_25 : decode cX9_year 25 = .ok (.i2l, 1) := by decide +kernel
theorem dX9_year_26 : decode cX9_year 26 = .ok (.lconst 0, 1) := by decide +kernel
theorem dX9_year_27 : decode cX9_year 27 = .ok (.ldc2_w 194, 3) := by decide +kernel
theorem dX9_year_30 : decode cX9_year 30 = .ok (.invokestatic 86, 3) := by decide +kernel
theorem dX9_year_33 : decode cX9_year 33 = .ok (.ifCond .ne 6, 3) := by decide +kernel
theorem dX9_year_36 : decode cX9_year 36 = .ok (.bipush (-2), 2) := by decide +kernel
theorem dX9_year_38 : decode cX9_year 38 = .ok (.ireturn, 1) := by decide +kernel
theorem dX9_year_39 : decode cX9_year 39 = .ok (.aload_n 0, 1) := by decide +kernel
theorem dX9_year_40 : decode cX9_year 40 = .ok (.invokevirtual 185, 3) := by decide +kernel
theorem dX9_year_43 : decode cX9_year 43 = .ok (.iload_n 1, 1) := by decide +kernel
theorem dX9_year_44 : decode cX9_year 44 = .ok (.istore 4, 2) := by decide +kernel
theorem dX9_year_46 : decode cX9_year 46 = .ok (.iconst 0, 1) := by decide +kernel
theorem dX9_year_47 : decode cX9_year 47 = .ok (.istore 5, 2) := by decide +kernel
theorem dX9_year_49 : decode cX9_year 49 = .ok (.iload 5, 2) := by decide +kernel
theorem dX9_year_51 : decode cX9_year 51 = .ok (.iload_n 2, 1) := by decide +kernel
theorem dX9_year_52 : decode cX9_year 52 = .ok (.if_icmp .ge 62, 3) := by decide +kernel
theorem dX9_year_55 : decode cX9_year 55 = .ok (.ldc2_w 280, 3) := by decide +kernel
theorem dX9_year_58 : decode cX9_year 58 = .ok (.iload 4, 2) := by decide +kernel
theorem dX9_year_60 : decode cX9_year 60 = .ok (.i2l, 1) := by decide +kernel
theorem dX9_year_61 : decode cX9_year 61 = .ok (.lmul, 1) := by decide +kernel
theorem dX9_year_62 : decode cX9_year 62 = .ok (.ldc2_w 282, 3) := by decide +kernel
theorem dX9_year_65 : decode cX9_year 65 = .ok (.ladd, 1) := by decide +kernel
theorem dX9_year_66 : decode cX9_year 66 = .ok (.ldc2_w 284, 3) := by decide +kernel
theorem dX9_year_69 : decode cX9_year 69 = .ok (.lrem, 1) := by decide +kernel
theorem dX9_year_70 : decode cX9_year 70 = .ok (.l2i, 1) := by decide +kernel
theorem dX9_year_71 : decode cX9_year 71 = .ok (.istore 4, 2) := by decide +kernel
theorem dX9_year_73 : decode cX9_year 73 = .ok (.iload 4, 2) := by decide +kernel
theorem dX9_year_75 : decode cX9_year 75 = .ok (.bipush 8, 2) := by decide +kernel
theorem dX9_year_77 : decode cX9_year 77 = .ok (.idiv, 1) := by decide +kernel
theorem dX9_year_78 : decode cX9_year 78 = .ok (.bipush 6, 2) := by decide +kernel
theorem dX9_year_80 : decode cX9_year 80 = .ok (.irem, 1) := by decide +kernel
theorem dX9_year_81 : decode cX9_year 81 = .ok (.istore 6, 2) := by decide +kernel
theorem dX9_year_83 : decode cX9_year 83 = .ok (.aload_n 0, 1) := by decide +kernel
theorem dX9_year_84 : decode cX9_year 84 = .ok (.iload 4, 2) := by decide +kernel
theorem dX9_year_86 : decode cX9_year 86 = .ok (.bipush 8, 2) := by decide +kernel
theorem dX9_year_88 : decode cX9_year 88 = .ok (.irem, 1) := by decide +kernel
theorem dX9_year_89 : decode cX9_year 89 = .ok (.iload 6, 2) := by decide +kernel
theorem dX9_year_91 : decode cX9_year 91 = .ok (.invokevirtual 179, 3) := by decide +kernel
theorem dX9_year_94 : decode cX9_year 94 = .ok (.ifCond .ne 14, 3) := by decide +kernel
theorem dX9_year_97 : decode cX9_year 97 = .ok (.aload_n 0, 1) := by decide +kernel
theorem dX9_year_98 : decode cX9_year 98 = .ok (.iload 4, 2) := by decide +kernel
theorem dX9_year_100 : decode cX9_year 100 = .ok (.bipush 8, 2) := by decide +kernel
theorem dX9_year_102 : decode cX9_year 102 = .ok (.irem, 1) := by decide +kernel
theorem dX9_year_103 : decode cX9_year 103 = .ok (.iload 6, 2) := by decide +kernel
theorem dX9_year_105 : decode cX9_year 105 = .ok (.invokevirtual 182, 3) := by decide +kernel
theorem dX9_year_108 : decode cX9_year 108 = .ok (.iinc 5 1, 3) := by decide +kernel
theorem dX9_year_111 : decode cX9_year 111 = .ok (.goto (-62), 3) := by decide +kernel
theorem dX9_year_114 : decode cX9_year 114 = .ok (.iload_n 3, 1) := by decide +kernel
theorem dX9_year_115 : decode cX9_year 115 = .ok (.ifCond .ne 13, 3) := by decide +kernel
theorem dX9_year_118 : decode cX9_year 118 = .ok (.aload_n 0, 1) := by decide +kernel
theorem dX9_year_119 : decode cX9_year 119 = .ok (.invokevirtual 210, 3) := by decide +kernel
theorem dX9_year_122 : decode cX9_year 122 = .ok (.invokestatic 109, 3) := by decide +kernel
theorem dX9_year_125 : decode cX9_year 125 = .ok (.goto 22, 3) := by decide +kernel
theorem dX9_year_128 : decode cX9_year 128 = .ok (.iload_n 3, 1) := by decide +kernel
theorem dX9_year_129 : decode cX9_year 129 = .ok (.iconst 1, 1) := by decide +kernel
theorem dX9_year_130 : decode cX9_year 130 = .ok (.if_icmp .ne 13, 3) := by decide +kernel
theorem dX9_year_133 : decode cX9_year 133 = .ok (.aload_n 0, 1) := by decide +kernel
theorem dX9_year_134 : decode cX9_year 134 = .ok (.invokevirtual 213, 3) := by decide +kernel
theorem dX9_year_137 : decode cX9_year 137 = .ok (.invokestatic 109, 3) := by decide +kernel
theorem dX9_year_140 : decode cX9_year 140 = .ok (.goto 7, 3) := by decide +kernel
theorem dX9_year_143 : decode cX9_year 143 = .ok (.aload_n 0, 1) := by decide +kernel
theorem dX9_year_144 : decode cX9_year 144 = .ok (.invokevirtual 140, 3) := by decide +kernel
theorem dX9_year_147 : decode cX9_year 147 = .ok (.istore 5, 2) := by decide +kernel
theorem dX9_year_149 : decode cX9_year 149 = .ok (.aload_n 0, 1) := by decide +kernel
theorem dX9_year_150 : decode cX9_year 150 = .ok (.iload 5, 2) := by decide +kernel
theorem dX9_year_152 : decode cX9_year 152 = .ok (.invokevirtual 199, 3) := by decide +kernel
theorem dX9_year_155 : decode cX9_year 155 = .ok (.ireturn, 1) := by decide +kernel
theorem dX9_pass_0 : decode cX9_pass 0 = .ok (.aload_n 0, 1) := by decide +kernel
theorem dX9_pass_1 : decode cX9_pass 1 = .ok (.getfield 286, 3) := by decide +kernel
theorem dX9_pass_4 : decode cX9_pass 4 = .ok (.ifCond .eq 7, 3) := by decide +kernel
theorem dX9_pass_7 : decode cX9_pass 7 = .ok (.iload_n 1, 1) := by decide +kernel
theorem dX9_pass_8 : decode cX9_pass 8 = .ok (.goto 12, 3) := by decide +kernel
theorem dX9_pass_11 : decode cX9_pass 11 = .ok (.aload_n 0, 1) := by decide +kernel
theorem dX9_pass_12 : decode cX9_pass 12 = .ok (.getfield 78, 3) := by decide +kernel
theorem dX9_pass_15 : decode cX9_pass 15 = .ok (.aload_n 0, 1) := by decide +kernel
theorem dX9_pass_16 : decode cX9_pass 16 = .ok (.getfield 290, 3) := by decide +kernel
theorem dX9_pass_19 : decode cX9_pass 19 = .ok (.iaload, 1) := by decide +kernel
theorem dX9_pass_20 : decode cX9_pass 20 = .ok (.istore_n 2, 1) := by decide +kernel
theorem dX9_pass_21 : decode cX9_pass 21 = .ok (.aload_n 0, 1) := by decide +kernel
theorem dX9_pass_22 : decode cX9_pass 22 = .ok (.getfield 78, 3) := by decide +kernel
theorem dX9_pass_25 : decode cX9_pass 25 = .ok (.aload_n 0, 1) := by decide +kernel
theorem dX9_pass_26 : decode cX9_pass 26 = .ok (.getfield 290, 3) := by decide +kernel
theorem dX9_pass_29 : decode cX9_pass 29 = .ok (.iload_n 2, 1) := by decide +kernel
theorem dX9_pass_30 : decode cX9_pass 30 = .ok (.iastore, 1) := by decide +kernel
theorem dX9_pass_31 : decode cX9_pass 31 = .ok (.aload_n 0, 1) := by decide +kernel
theorem dX9_pass_32 : decode cX9_pass 32 = .ok (.dup, 1) := by decide +kernel
theorem dX9_pass_33 : decode cX9_pass 33 = .ok (.getfield 290, 3) := by decide +kernel
theorem dX9_pass_36 : decode cX9_pass 36 = .ok (.iconst 1, 1) := by decide +kernel
theorem dX9_pass_37 : decode cX9_pass 37 = .ok (.iadd, 1) := by decide +kernel
theorem dX9_pass_38 : decode cX9_pass 38 = .ok (.putfield 290, 3) := by decide +kernel
theorem dX9_pass_41 : decode cX9_pass 41 = .ok (.iload_n 2, 1) := by decide +kernel
theorem dX9_pass_42 : decode cX9_pass 42 = .ok (.ireturn, 1) := by decide +kernel
theorem dX9_passRow_0 : decode cX9_passRow 0 = .ok (.iconst 0, 1) := by decide +kernel
theorem dX9_passRow_1 : decode cX9_passRow 1 = .ok (.istore_n 3, 1) := by decide +kernel
theorem dX9_passRow_2 : decode cX9_passRow 2 = .ok (.iload_n 3, 1) := by decide +kernel
theorem dX9_passRow_3 : decode cX9_passRow 3 = .ok (.iload_n 2, 1) := by decide +kernel
theorem dX9_passRow_4 : decode cX9_passRow 4 = .ok (.if_icmp .ge 19, 3) := by decide +kernel
theorem dX9_passRow_7 : decode cX9_passRow 7 = .ok (.aload_n 1, 1) := by decide +kernel
theorem dX9_passRow_8 : decode cX9_passRow 8 = .ok (.iload_n 3, 1) := by decide +kernel
theorem dX9_passRow_9 : decode cX9_passRow 9 = .ok (.aload_n 0, 1) := by decide +kernel
theorem dX9_passRow_10 : decode cX9_passRow 10 = .ok (.aload_n 1, 1) := by decide +kernel
theorem dX9_passRow_11 : decode cX9_passRow 11 = .ok (.iload_n 3, 1) := by decide +kernel
theorem dX9_passRow_12 : decode cX9_passRow 12 = .ok (.iaload, 1) := by decide +kernel
theorem dX9_passRow_13 : decode cX9_passRow 13 = .ok (.invokevirtual 293, 3) := by decide +kernel
theorem dX9_passRow_16 : decode cX9_passRow 16 = .ok (.iastore, 1) := by decide +kernel
theorem dX9_passRow_17 : decode cX9_passRow 17 = .ok (.iinc 3 1, 3) := by decide +kernel
theorem dX9_passRow_20 : decode cX9_passRow 20 = .ok (.goto (-18), 3) := by decide +kernel
theorem dX9_passRow_23 : decode cX9_passRow 23 = .ok (.return_, 1) := by decide +kernel
theorem dX9_passAll_0 : decode cX9_passAll 0 = .ok (.aload_n 0, 1) := by decide +kernel
theorem dX9_passAll_1 : decode cX9_passAll 1 = .ok (.aload_n 0, 1) := by decide +kernel
theorem dX9_passAll_2 : decode cX9_passAll 2 = .ok (.aload_n 0, 1) := by decide +kernel
theorem dX9_passAll_3 : decode cX9_passAll 3 = .ok (.getfield 90, 3) := by decide +kernel
theorem dX9_passAll_6 : decode cX9_passAll 6 = .ok (.invokevirtual 293, 3) := by decide +kernel
theorem dX9_passAll_9 : decode cX9_passAll 9 = .ok (.putfield 90, 3) := by decide +kernel
theorem dX9_passAll_12 : decode cX9_passAll 12 = .ok (.aload_n 0, 1) := by decide +kernel
theorem dX9_passAll_13 : decode cX9_passAll 13 = .ok (.aload_n 0, 1) := by decide +kernel
theorem dX9_passAll_14 : decode cX9_passAll 14 = .ok (.aload_n 0, 1) := by decide +kernel
theorem dX9_passAll_15 : decode cX9_passAll 15 = .ok (.getfield 245, 3) := by decide +kernel
theorem dX9_passAll_18 : decode cX9_passAll 18 = .ok (.invokevirtual 293, 3) := by decide +kernel
theorem dX9_passAll_21 : decode cX9_passAll 21 = .ok (.putfield 245, 3) := by decide +kernel
theorem dX9_passAll_24 : decode cX9_passAll 24 = .ok (.aload_n 0, 1) := by decide +kernel
theorem dX9_passAll_25 : decode cX9_passAll 25 = .ok (.aload_n 0, 1) := by decide +kernel
theorem dX9_passAll_26 : decode cX9_passAll 26 = .ok (.getfield 7, 3) := by decide +kernel
theorem dX9_passAll_29 : decode cX9_passAll 29 = .ok (.bipush 8, 2) := by decide +kernel
theorem dX9_passAll_31 : decode cX9_passAll 31 = .ok (.invokevirtual 296, 3) := by decide +kernel
theorem dX9_passAll_34 : decode cX9_passAll 34 = .ok (.aload_n 0, 1) := by decide +kernel
theorem dX9_passAll_35 : decode cX9_passAll 35 = .ok (.aload_n 0, 1) := by decide +kernel
theorem dX9_passAll_36 : decode cX9_passAll 36 = .ok (.getfield 13, 3) := by decide +kernel
theorem dX9_passAll_39 : decode cX9_passAll 39 = .ok (.bipush 8, 2) := by decide +kernel
theorem dX9_passAll_41 : decode cX9_passAll 41 = .ok (.invokevirtual 296, 3) := by decide +kernel
theorem dX9_passAll_44 : decode cX9_passAll 44 = .ok (.aload_n 0, 1) := by decide +kernel
theorem dX9_passAll_45 : decode cX9_passAll 45 = .ok (.aload_n 0, 1) := by decide +kernel
theorem dX9_passAll_46 : decode cX9_passAll 46 = .ok (.getfield 16, 3) := by decide +kernel
theorem dX9_passAll_49 : decode cX9_passAll 49 = .ok (.bipush 8, 2) := by decide +kernel
theorem dX9_passAll_51 : decode cX9_passAll 51 = .ok (.invokevirtual 296, 3) := by decide +kernel
theorem dX9_passAll_54 : decode cX9_passAll 54 = .ok (.aload_n 0, 1) := by decide +kernel
theorem dX9_passAll_55 : decode cX9_passAll 55 = .ok (.aload_n 0, 1) := by decide +kernel
theorem dX9_passAll_56 : decode cX9_passAll 56 = .ok (.getfield 19, 3) := by decide +kernel
theorem dX9_passAll_59 : decode cX9_passAll 59 = .ok (.bipush 8, 2) := by decide +kernel
theorem dX9_passAll_61 : decode cX9_passAll 61 = .ok (.invokevirtual 296, 3) := by decide +kernel
theorem dX9_passAll_64 : decode cX9_passAll 64 = .ok (.aload_n 0, 1) := by decide +kernel
theorem dX9_passAll_65 : decode cX9_passAll 65 = .ok (.aload_n 0, 1) := by decide +kernel
theorem dX9_passAll_66 : decode cX9_passAll 66 = .ok (.getfield 22, 3) := by decide +kernel
theorem dX9_passAll_69 : decode cX9_passAll 69 = .ok (.bipush 8, 2) := by decide +kernel
theorem dX9_passAll_71 : decode cX9_passAll 71 = .ok (.invokevirtual 296, 3) := by decide +kernel
theorem dX9_passAll_74 : decode cX9_passAll 74 = .ok (.aload_n 0, 1) := by decide +kernel
theorem dX9_passAll_75 : decode cX9_passAll 75 = .ok (.aload_n 0, 1) := by decide +kernel
theorem dX9_passAll_76 : decode cX9_passAll 76 = .ok (.getfield 25, 3) := by decide +kernel
theorem dX9_passAll_79 : decode cX9_passAll 79 = .ok (.bipush 6, 2) := by decide +kernel
theorem dX9_passAll_81 : decode cX9_passAll 81 = .ok (.invokevirtual 296, 3) := by decide +kernel
theorem dX9_passAll_84 : decode cX9_passAll 84 = .ok (.aload_n 0, 1) := by decide +kernel
theorem dX9_passAll_85 : decode cX9_passAll 85 = .ok (.aload_n 0, 1) := by decide +kernel
theorem dX9_passAll_86 : decode cX9_passAll 86 = .ok (.getfield 28, 3) := by decide +kernel
theorem dX9_passAll_89 : decode cX9_passAll 89 = .ok (.bipush 6, 2) := by decide +kernel
theorem dX9_passAll_91 : decode cX9_passAll 91 = .ok (.invokevirtual 296, 3) := by decide +kernel
theorem dX9_passAll_94 : decode cX9_passAll 94 = .ok (.aload_n 0, 1) := by decide +kernel
theorem dX9_passAll_95 : decode cX9_passAll 95 = .ok (.aload_n 0, 1) := by decide +kernel
theorem dX9_passAll_96 : decode cX9_passAll 96 = .ok (.getfield 31, 3) := by decide +kernel
theorem dX9_passAll_99 : decode cX9_passAll 99 = .ok (.iconst 2, 1) := by decide +kernel
theorem dX9_passAll_100 : decode cX9_passAll 100 = .ok (.invokevirtual 296, 3) := by decide +kernel
theorem dX9_passAll_103 : decode cX9_passAll 103 = .ok (.aload_n 0, 1) := by decide +kernel
theorem dX9_passAll_104 : decode cX9_passAll 104 = .ok (.aload_n 0, 1) := by decide +kernel
theorem dX9_passAll_105 : decode cX9_passAll 105 = .ok (.getfield 34, 3) := by decide +kernel
theorem dX9_passAll_108 : decode cX9_passAll 108 = .ok (.bipush 8, 2) := by decide +kernel
theorem dX9_passAll_110 : decode cX9_passAll 110 = .ok (.invokevirtual 296, 3) := by decide +kernel
theorem dX9_passAll_113 : decode cX9_passAll 113 = .ok (.aload_n 0, 1) := by decide +kernel
theorem dX9_passAll_114 : decode cX9_passAll 114 = .ok (.aload_n 0, 1) := by decide +kernel
theorem dX9_passAll_115 : decode cX9_passAll 115 = .ok (.getfield 37, 3) := by decide +kernel
theorem dX9_passAll_118 : decode cX9_passAll 118 = .ok (.bipush 8, 2) := by decide +kernel
theorem dX9_passAll_120 : decode cX9_passAll 120 = .ok (.invokevirtual 296, 3) := by decide +kernel
theorem dX9_passAll_123 : decode cX9_passAll 123 = .ok (.return_, 1) := by decide +kernel
theorem dX9_image_0 : decode cX9_image 0 = .ok (.iload_n 1, 1) := by decide +kernel
theorem dX9_image_1 : decode cX9_image 1 = .ok (.i2l, 1) := by decide +kernel
theorem dX9_image_2 : decode cX9_image 2 = .ok (.lconst 0, 1) := by decide +kernel
theorem dX9_image_3 : decode cX9_image 3 = .ok (.lconst 1, 1) := by decide +kernel
theorem dX9_image_4 : decode cX9_image 4 = .ok (.invokestatic 86, 3) := by decide +kernel
theorem dX9_image_7 : decode cX9_image 7 = .ok (.ifCond .ne 6, 3) := by decide +kernel
theorem dX9_image_10 : decode cX9_image 10 = .ok (.bipush (-2), 2) := by decide +kernel
theorem dX9_image_12 : decode cX9_image 12 = .ok (.ireturn, 1) := by decide +kernel
theorem dX9_image_13 : decode cX9_image 13 = .ok (.aload_n 0, 1) := by decide +kernel
theorem dX9_image_14 : decode cX9_image 14 = .ok (.bipush 90, 2) := by decide +kernel
theorem dX9_image_16 : decode cX9_image 16 = .ok (.iload_n 1, 1) := by decide +kernel
theorem dX9_image_17 : decode cX9_image 17 = .ok (.imul, 1) := by decide +kernel
theorem dX9_image_18 : decode cX9_image 18 = .ok (.putfield 290, 3) := by decide +kernel
theorem dX9_image_21 : decode cX9_image 21 = .ok (.aload_n 0, 1) := by decide +kernel
theorem dX9_image_22 : decode cX9_image 22 = .ok (.iconst 1, 1) := by decide +kernel
theorem dX9_image_23 : decode cX9_image 23 = .ok (.putfield 286, 3) := by decide +kernel
theorem dX9_image_26 : decode cX9_image 26 = .ok (.aload_n 0, 1) := by decide +kernel
theorem dX9_image_27 : decode cX9_image 27 = .ok (.invokevirtual 300, 3) := by decide +kernel
theorem dX9_image_30 : decode cX9_image 30 = .ok (.aload_n 0, 1) := by decide +kernel
theorem dX9_image_31 : decode cX9_image 31 = .ok (.getfield 81, 3) := by decide +kernel
theorem dX9_image_34 : decode cX9_image 34 = .ok (.iload_n 1, 1) := by decide +kernel
theorem dX9_image_35 : decode cX9_image 35 = .ok (.iconst 1, 1) := by decide +kernel
theorem dX9_image_36 : decode cX9_image 36 = .ok (.bastore, 1) := by decide +kernel
theorem dX9_image_37 : decode cX9_image 37 = .ok (.iconst 1, 1) := by decide +kernel
theorem dX9_image_38 : decode cX9_image 38 = .ok (.ireturn, 1) := by decide +kernel
theorem dX9_restore_0 : decode cX9_restore 0 = .ok (.iload_n 1, 1) := by decide +kernel
theorem dX9_restore_1 : decode cX9_restore 1 = .ok (.i2l, 1) := by decide +kernel
theorem dX9_restore_2 : decode cX9_restore 2 = .ok (.lconst 0, 1) := by decide +kernel
theorem dX9_restore_3 : decode cX9_restore 3 = .ok (.lconst 1, 1) := by decide +kernel
theorem dX9_restore_4 : decode cX9_restore 4 = .ok (.invokestatic 86, 3) := by decide +kernel
theorem dX9_restore_7 : decode cX9_restore 7 = .ok (.ifCond .ne 6, 3) := by decide +kernel
theorem dX9_restore_10 : decode cX9_restore 10 = .ok (.bipush (-2), 2) := by decide +kernel
theorem dX9_restore_12 : decode cX9_restore 12 = .ok (.ireturn, 1) := by decide +kernel
theorem dX9_restore_13 : decode cX9_restore 13 = .ok (.aload_n 0, 1) := by decide +kernel
theorem dX9_restore_14 : decode cX9_restore 14 = .ok (.getfield 81, 3) := by decide +kernel
theorem dX9_restore_17 : decode cX9_restore 17 = .ok (.iload_n 1, 1) := by decide +kernel
theorem dX9_restore_18 : decode cX9_restore 18 = .ok (.baload, 1) := by decide +kernel
theorem dX9_restore_19 : decode cX9_restore 19 = .ok (.ifCond .ne 6, 3) := by decide +kernel
theorem dX9_restore_22 : decode cX9_restore 22 = .ok (.bipush (-3), 2) := by decide +kernel
theorem dX9_restore_24 : decode cX9_restore 24 = .ok (.ireturn, 1) := by decide +kernel
theorem dX9_restore_25 : decode cX9_restore 25 = .ok (.aload_n 0, 1) := by decide +kernel
theorem dX9_restore_26 : decode cX9_restore 26 = .ok (.bipush 90, 2) := by decide +kernel
theorem dX9_restore_28 : decode cX9_restore 28 = .ok (.iload_n 1, 1) := by decide +kernel
theorem dX9_restore_29 : decode cX9_restore 29 = .ok (.imul, 1) := by decide +kernel
theorem dX9_restore_30 : decode cX9_restore 30 = .ok (.putfield 290, 3) := by decide +kernel
theorem dX9_restore_33 : decode cX9_restore 33 = .ok (.aload_n 0, 1) := by decide +kernel
theorem dX9_restore_34 : decode cX9_restore 34 = .ok (.iconst 0, 1) := by decide +kernel
theorem dX9_restore_35 : decode cX9_restore 35 = .ok (.putfield 286, 3) := by decide +kernel
theorem dX9_restore_38 : decode cX9_restore 38 = .ok (.aload_n 0, 1) := by decide +kernel
theorem dX9_restore_39 : decode cX9_restore 39 = .ok (.invokevirtual 300, 3) := by decide +kernel
theorem dX9_restore_42 : decode cX9_restore 42 = .ok (.iconst 1, 1) := by decide +kernel
theorem dX9_restore_43 : decode cX9_restore 43 = .ok (.ireturn, 1) := by decide +kernel
theorem dX9_toldOf_0 : decode cX9_toldOf 0 = .ok (.aload_n 0, 1) := by decide +kernel
theorem dX9_toldOf_1 : decode cX9_toldOf 1 = .ok (.iload_n 1, 1) := by decide +kernel
theorem dX9_toldOf_2 : decode cX9_toldOf 2 = .ok (.invokevirtual 113, 3) := by decide +kernel
theorem dX9_toldOf_5 : decode cX9_toldOf 5 = .ok (.ifCond .ne 6, 3) := by decide +kernel
theorem dX9_toldOf_8 : decode cX9_toldOf 8 = .ok (.bipush (-2), 2) := by decide +kernel
theorem dX9_toldOf_10 : decode cX9_toldOf 10 = .ok (.ireturn, 1) := by decide +kernel
theorem dX9_toldOf_11 : decode cX9_toldOf 11 = .ok (.iload_n 2, 1) := by decide +kernel
theorem dX9_toldOf_12 : decode cX9_toldOf 12 = .ok (.tableswitch 71 0 4 #[36, 43, 50, 57, 64], 36) := by decide +kernel
theorem dX9_toldOf_48 : decode cX9_toldOf 48 = .ok (.aload_n 0, 1) := by decide +kernel
theorem dX9_toldOf_49 : decode cX9_toldOf 49 = .ok (.getfield 7, 3) := by decide +kernel
theorem dX9_toldOf_52 : decode cX9_toldOf 52 = .ok (.iload_n 1, 1) := by decide +kernel
theorem dX9_toldOf_53 : decode cX9_toldOf 53 = .ok (.iaload, 1) := by decide +kernel
theorem dX9_toldOf_54 : decode cX9_toldOf 54 = .ok (.ireturn, 1) := by decide +kernel
theorem dX9_toldOf_55 : decode cX9_toldOf 55 = .ok (.aload_n 0, 1) := by decide +kernel
theorem dX9_toldOf_56 : decode cX9_toldOf 56 = .ok (.getfield 13, 3) := by decide +kernel
theorem dX9_toldOf_59 : decode cX9_toldOf 59 = .ok (.iload_n 1, 1) := by decide +kernel
theorem dX9_toldOf_60 : decode cX9_toldOf 60 = .ok (.iaload, 1) := by decide +kernel
theorem dX9_toldOf_61 : decode cX9_toldOf 61 = .ok (.ireturn, 1) := by decide +kernel
theorem dX9_toldOf_62 : decode cX9_toldOf 62 = .ok (.aload_n 0, 1) := by decide +kernel
theorem dX9_toldOf_63 : decode cX9_toldOf 63 = .ok (.getfield 16, 3) := by decide +kernel
theorem dX9_toldOf_66 : decode cX9_toldOf 66 = .ok (.iload_n 1, 1) := by decide +kernel
theorem dX9_toldOf_67 : decode cX9_toldOf 67 = .ok (.iaload, 1) := by decide +kernel
theorem dX9_toldOf_68 : decode cX9_toldOf 68 = .ok (.ireturn, 1) := by decide +kernel
theorem dX9_toldOf_69 : decode cX9_toldOf 69 = .ok (.aload_n 0, 1) := by decide +kernel
theorem dX9_toldOf_70 : decode cX9_toldOf 70 = .ok (.getfield 19, 3) := by decide +kernel
theorem dX9_toldOf_73 : decode cX9_toldOf 73 = .ok (.iload_n 1, 1) := by decide +kernel
theorem dX9_toldOf_74 : decode cX9_toldOf 74 = .ok (.iaload, 1) := by decide +kernel
theorem dX9_toldOf_75 : decode cX9_toldOf 75 = .ok (.ireturn, 1) := by decide +kernel
theorem dX9_toldOf_76 : decode cX9_toldOf 76 = .ok (.aload_n 0, 1) := by decide +kernel
theorem dX9_toldOf_77 : decode cX9_toldOf 77 = .ok (.getfield 22, 3) := by decide +kernel
theorem dX9_toldOf_80 : decode cX9_toldOf 80 = .ok (.iload_n 1, 1) := by decide +kernel
theorem dX9_toldOf_81 : decode cX9_toldOf 81 = .ok (.iaload, 1) := by decide +kernel
theorem dX9_toldOf_82 : decode cX9_toldOf 82 = .ok (.ireturn, 1) := by decide +kernel
theorem dX9_toldOf_83 : decode cX9_toldOf 83 = .ok (.bipush (-2), 2) := by decide +kernel
theorem dX9_toldOf_85 : decode cX9_toldOf 85 = .ok (.ireturn, 1) := by decide +kernel
theorem dX9_told_0 : decode cX9_told 0 = .ok (.iload_n 1, 1) := by decide +kernel
theorem dX9_told_1 : decode cX9_told 1 = .ok (.i2l, 1) := by decide +kernel
theorem dX9_told_2 : decode cX9_told 2 = .ok (.ldc2_w 303, 3) := by decide +kernel
theorem dX9_told_5 : decode cX9_told 5 = .ok (.ldc2_w 305, 3) := by decide +kernel
theorem dX9_told_8 : decode cX9_told 8 = .ok (.invokestatic 86, 3) := by decide +kernel
theorem dX9_told_11 : decode cX9_told 11 = .ok (.ifCond .eq 47, 3) := by decide +kernel
theorem dX9_told_14 : decode cX9_told 14 = .ok (.iload_n 1, 1) := by decide +kernel
theorem dX9_told_15 : decode cX9_told 15 = .ok (.bipush 100, 2) := by decide +kernel
theorem dX9_told_17 : decode cX9_told 17 = .ok (.isub, 1) := by decide +kernel
theorem dX9_told_18 : decode cX9_told 18 = .ok (.bipush 10, 2) := by decide +kernel
theorem dX9_told_20 : decode cX9_told 20 = .ok (.idiv, 1) := by decide +kernel
theorem dX9_told_21 : decode cX9_told 21 = .ok (.istore_n 2, 1) := by decide +kernel
theorem dX9_told_22 : decode cX9_told 22 = .ok (.iload_n 1, 1) := by decide +kernel
theorem dX9_told_23 : decode cX9_told 23 = .ok (.bipush 10, 2) := by decide +kernel
theorem dX9_told_25 : decode cX9_told 25 = .ok (.irem, 1) := by decide +kernel
theorem dX9_told_26 : decode cX9_told 26 = .ok (.ifCond .ne 12, 3) := by decide +kernel
theorem dX9_told_29 : decode cX9_told 29 = .ok (.aload_n 0, 1) := by decide +kernel
theorem dX9_told_30 : decode cX9_told 30 = .ok (.getfield 25, 3) := by decide +kernel
theorem dX9_told_33 : decode cX9_told 33 = .ok (.iload_n 2, 1) := by decide +kernel
theorem dX9_told_34 : decode cX9_told 34 = .ok (.iaload, 1) := by decide +kernel
theorem dX9_told_35 : decode cX9_told 35 = .ok (.goto 22, 3) := by decide +kernel
theorem dX9_told_38 : decode cX9_told 38 = .ok (.iload_n 1, 1) := by decide +kernel
theorem dX9_told_39 : decode cX9_told 39 = .ok (.bipush 10, 2) := by decide +kernel
theorem dX9_told_41 : decode cX9_told 41 = .ok (.irem, 1) := by decide +kernel
theorem dX9_told_42 : decode cX9_told 42 = .ok (.iconst 1, 1) := by decide +kernel
theorem dX9_told_43 : decode cX9_told 43 = .ok (.if_icmp .ne 12, 3) := by decide +kernel
theorem dX9_told_46 : decode cX9_told 46 = .ok (.aload_n 0, 1) := by decide +kernel
theorem dX9_told_47 : decode cX9_told 47 = .ok (.getfield 28, 3) := by decide +kernel
theorem dX9_told_50 : decode cX9_told 50 = .ok (.iload_n 2, 1) := by decide +kernel
theorem dX9_told_51 : decode cX9_told 51 = .ok (.iaload, 1) := by decide +kernel
theorem dX9_told_52 : decode cX9_told 52 = .ok (.goto 5, 3) := by decide +kernel
theorem dX9_told_55 : decode cX9_told 55 = .ok (.bipush (-2), 2) := by decide +kernel
theorem dX9_told_57 : decode cX9_told 57 = .ok (.ireturn, 1) := by decide +kernel
theorem dX9_told_58 : decode cX9_told 58 = .ok (.iload_n 1, 1) := by decide +kernel
theorem dX9_told_59 : decode cX9_told 59 = .ok (.i2l, 1) := by decide +kernel
theorem dX9_told_60 : decode cX9_told 60 = .ok (.ldc2_w 216, 3) := by decide +kernel
theorem dX9_told_63 : decode cX9_told 63 = .ok (.ldc2_w 307, 3) := by decide +kernel
theorem dX9_told_66 : decode cX9_told 66 = .ok (.invokestatic 86, 3) := by decide +kernel
theorem dX9_told_69 : decode cX9_told 69 = .ok (.ifCond .eq 18, 3) := by decide +kernel
theorem dX9_told_72 : decode cX9_told 72 = .ok (.aload_n 0, 1) := by decide +kernel
theorem dX9_told_73 : decode cX9_told 73 = .ok (.iload_n 1, 1) := by decide +kernel
theorem dX9_told_74 : decode cX9_told 74 = .ok (.bipush 10, 2) := by decide +kernel
theorem dX9_told_76 : decode cX9_told 76 = .ok (.idiv, 1) := by decide +kernel
theorem dX9_told_77 : decode cX9_told 77 = .ok (.iconst 1, 1) := by decide +kernel
theorem dX9_told_78 : decode cX9_told 78 = .ok (.isub, 1) := by decide +kernel
theorem dX9_told_79 : decode cX9_told 79 = .ok (.iload_n 1, 1) := by decide +kernel
theorem dX9_told_80 : decode cX9_told 80 = .ok (.bipush 10, 2) := by decide +kernel
theorem dX9_told_82 : decode cX9_told 82 = .ok (.irem, 1) := by decide +kernel
theorem dX9_told_83 : decode cX9_told 83 = .ok (.invokevirtual 309, 3) := by decide +kernel
theorem dX9_told_86 : decode cX9_told 86 = .ok (.ireturn, 1) := by decide +kernel
theorem dX9_told_87 : decode cX9_told 87 = .ok (.iload_n 1, 1) := by decide +kernel
theorem dX9_told_88 : decode cX9_told 88 = .ok (.tableswitch 74 0 5 #[40, 45, 50, 57, 64, 69], 40) := by decide +kernel
theorem dX9_told_128 : decode cX9_told 128 = .ok (.aload_n 0, 1) := by decide +kernel
theorem dX9_told_129 : decode cX9_told 129 = .ok (.getfield 120, 3) := by decide +kernel
theorem dX9_told_132 : decode cX9_told 132 = .ok (.ireturn, 1) := by decide +kernel
theorem dX9_told_133 : decode cX9_told 133 = .ok (.aload_n 0, 1) := by decide +kernel
theorem dX9_told_134 : decode cX9_told 134 = .ok (.getfield 90, 3) := by decide +kernel
theorem dX9_told_137 : decode cX9_told 137 = .ok (.ireturn, 1) := by decide +kernel
theorem dX9_told_138 : decode cX9_told 138 = .ok (.aload_n 0, 1) := by decide +kernel
theorem dX9_told_139 : decode cX9_told 139 = .ok (.getfield 31, 3) := by decide +kernel
theorem dX9_told_142 : decode cX9_told 142 = .ok (.iconst 0, 1) := by decide +kernel
theorem dX9_told_143 : decode cX9_told 143 = .ok (.iaload, 1) := by decide +kernel
theorem dX9_told_144 : decode cX9_told 144 = .ok (.ireturn, 1) := by decide +kernel
theorem dX9_told_145 : decode cX9_told 145 = .ok (.aload_n 0, 1) := by decide +kernel
theorem dX9_told_146 : decode cX9_told 146 = .ok (.getfield 31, 3) := by decide +kernel
theorem dX9_told_149 : decode cX9_told 149 = .ok (.iconst 1, 1) := by decide +kernel
theorem dX9_told_150 : decode cX9_told 150 = .ok (.iaload, 1) := by decide +kernel
theorem dX9_told_151 : decode cX9_told 151 = .ok (.ireturn, 1) := by decide +kernel
theorem dX9_told_152 : decode cX9_told 152 = .ok (.aload_n 0, 1) := by decide +kernel
theorem dX9_told_153 : decode cX9_told 153 = .ok (.getfield 245, 3) := by decide +kernel
theorem dX9_told_156 : decode cX9_told 156 = .ok (.ireturn, 1) := by decide +kernel
theorem dX9_told_157 : decode cX9_told 157 = .ok (.aload_n 0, 1) := by decide +kernel
theorem dX9_told_158 : decode cX9_told 158 = .ok (.invokevirtual 213, 3) := by decide +kernel
theorem dX9_told_161 : decode cX9_told 161 = .ok (.ireturn, 1) := by decide +kernel
theorem dX9_told_162 : decode cX9_told 162 = .ok (.bipush (-2), 2) := by decide +kernel
theorem dX9_told_164 : decode cX9_told 164 = .ok (.ireturn, 1) := by decide +kernel
end
section
theorem dL_law_0 : decode cL_law 0 = .ok (.new 7, 3) := by decide +kernel
theorem dL_law_3 : decode cL_law 3 = .ok (.dup, 1) := by decide +kernel
theorem dL_law_4 : decode cL_law 4 = .ok (.invokespecial 9, 3) := by decide +kernel
theorem dL_law_7 : decode cL_law 7 = .ok (.astore_n 1, 1) := by decide +kernel
theorem dL_law_8 : decode cL_law 8 = .ok (.new 10, 3) := by decide +kernel
theorem dL_law_11 : decode cL_law 11 = .ok (.dup, 1) := by decide +kernel
theorem dL_law_12 : decode cL_law 12 = .ok (.invokespecial 12, 3) := by decide +kernel
theorem dL_law_15 : decode cL_law 15 = .ok (.astore_n 2, 1) := by decide +kernel
theorem dL_law_16 : decode cL_law 16 = .ok (.iconst 0, 1) := by decide +kernel
theorem dL_law_17 : decode cL_law 17 = .ok (.istore_n 3, 1) := by decide +kernel
theorem dL_law_18 : decode cL_law 18 = .ok (.iload_n 3, 1) := by decide +kernel
theorem dL_law_19 : decode cL_law 19 = .ok (.aload_n 0, 1) := by decide +kernel
theorem dL_law_20 : decode cL_law 20 = .ok (.arraylength, 1) := by decide +kernel
theorem dL_law_21 : decode cL_law 21 = .ok (.bipush 7, 2) := by decide +kernel
theorem dL_law_23 : decode cL_law 23 = .ok (.isub, 1) := by decide +kernel
theorem dL_law_24 : decode cL_law 24 = .ok (.if_icmp .gt 933, 3) := by decide +kernel
theorem dL_law_27 : decode cL_law 27 = .ok (.aload_n 0, 1) := by decide +kernel
theorem dL_law_28 : decode cL_law 28 = .ok (.iload_n 3, 1) := by decide +kernel
theorem dL_law_29 : decode cL_law 29 = .ok (.iaload, 1) := by decide +kernel
theorem dL_law_30 : decode cL_law 30 = .ok (.bipush 31, 2) := by decide +kernel
theorem dL_law_32 : decode cL_law 32 = .ok (.iand, 1) := by decide +kernel
theorem dL_law_33 : decode cL_law 33 = .ok (.tableswitch 918 0 26 #[123, 186, 209, 242, 275, 298, 311, 324, 347, 380, 413, 436, 449, 472, 526, 559, 582, 605, 638, 651, 674, 697, 773, 806, 849, 872, 895], 123) := by decide +kernel
theorem dL_law_156 : decode cL_law 156 = .ok (.aload_n 1, 1) := by decide +kernel
theorem dL_law_157 : decode cL_law 157 = .ok (.aload_n 0, 1) := by decide +kernel
theorem dL_law_158 : decode cL_law 158 = .ok (.iload_n 3, 1) := by decide +kernel
theorem dL_law_159 : decode cL_law 159 = .ok (.iconst 1, 1) := by decide +kernel
theorem dL_law_160 : decode cL_law 160 = .ok (.iadd, 1) := by decide +kernel
theorem dL_law_161 : decode cL_law 161 = .ok (.iaload, 1) := by decide +kernel
theorem dL_law_162 : decode cL_law 162 = .ok (.aload_n 0, 1) := by decide +kernel
theorem dL_law_163 : decode cL_law 163 = .ok (.iload_n 3, 1) := by decide +kernel
theorem dL_law_164 : decode cL_law 164 = .ok (.iconst 2, 1) := by decide +kernel
theorem dL_law_165 : decode cL_law 165 = .ok (.iadd, 1) := by decide +kernel
theorem dL_law_166 : decode cL_law 166 = .ok (.iaload, 1) := by decide +kernel
theorem dL_law_167 : decode cL_law 167 = .ok (.aload_n 0, 1) := by decide +kernel
theorem dL_law_168 : decode cL_law 168 = .ok (.iload_n 3, 1) := by decide +kernel
theorem dL_law_169 : decode cL_law 169 = .ok (.iconst 3, 1) := by decide +kernel
theorem dL_law_170 : decode cL_law 170 = .ok (.iadd, 1) := by decide +kernel
theorem dL_law_171 : decode cL_law 171 = .ok (.iaload, 1) := by decide +kernel
theorem dL_law_172 : decode cL_law 172 = .ok (.aload_n 0, 1) := by decide +kernel
theorem dL_law_173 : decode cL_law 173 = .ok (.iload_n 3, 1) := by decide +kernel
theorem dL_law_174 : decode cL_law 174 = .ok (.iconst 4, 1) := by decide +kernel
theorem dL_law_175 : decode cL_law 175 = .ok (.iadd, 1) := by decide +kernel
theorem dL_law_176 : decode cL_law 176 = .ok (.iaload, 1) := by decide +kernel
theorem dL_law_177 : decode cL_law 177 = .ok (.aload_n 0, 1) := by decide +kernel
theorem dL_law_178 : decode cL_law 178 = .ok (.iload_n 3, 1) := by decide +kernel
theorem dL_law_179 : decode cL_law 179 = .ok (.iconst 5, 1) := by decide +kernel
theorem dL_law_180 : decode cL_law 180 = .ok (.iadd, 1) := by decide +kernel
theorem dL_law_181 : decode cL_law 181 = .ok (.iaload, 1) := by decide +kernel
theorem dL_law_182 : decode cL_law 182 = .ok (.invokevirtual 13, 3) := by decide +kernel
theorem dL_law_185 : decode cL_law 185 = .ok (.aload_n 2, 1) := by decide +kernel
theorem dL_law_186 : decode cL_law 186 = .ok (.aload_n 0, 1) := by decide +kernel
theorem dL_law_187 : decode cL_law 187 = .ok (.iload_n 3, 1) := by decide +kernel
theorem dL_law_188 : decode cL_law 188 = .ok (.iconst 1, 1) := by decide +kernel
theorem dL_law_189 : decode cL_law 189 = .ok (.iadd, 1) := by decide +kernel
theorem dL_law_190 : decode cL_law 190 = .ok (.iaload, 1) := by decide +kernel
theorem dL_law_191 : decode cL_law 191 = .ok (.aload_n 0, 1) := by decide +kernel
theorem dL_law_192 : decode cL_law 192 = .ok (.iload_n 3, 1) := by decide +kernel
theorem dL_law_193 : decode cL_law 193 = .ok (.iconst 2, 1) := by decide +kernel
theorem dL_law_194 : decode cL_law 194 = .ok (.iadd, 1) := by decide +kernel
theorem dL_law_195 : decode cL_law 195 = .ok (.iaload, 1) := by decide +kernel
theorem dL_law_196 : decode cL_law 196 = .ok (.aload_n 0, 1) := by decide +kernel
theorem dL_law_197 : decode cL_law 197 = .ok (.iload_n 3, 1) := by decide +kernel
theorem dL_law_198 : decode cL_law 198 = .ok (.iconst 3, 1) := by decide +kernel
theorem dL_law_199 : decode cL_law 199 = .ok (.iadd, 1) := by decide +kernel
theorem dL_law_200 : decode cL_law 200 = .ok (.iaload, 1) := by decide +kernel
theorem dL_law_201 : decode cL_law 201 = .ok (.aload_n 0, 1) := by decide +kernel
theorem dL_law_202 : decode cL_law 202 = .ok (.iload_n 3, 1) := by decide +kernel
theorem dL_law_203 : decode cL_law 203 = .ok (.iconst 4, 1) := by decide +kernel
theorem dL_law_204 : decode cL_law 204 = .ok (.iadd, 1) := by decide +kernel
theorem dL_law_205 : decode cL_law 205 = .ok (.iaload, 1) := by decide +kernel
theorem dL_law_206 : decode cL_law 206 = .ok (.aload_n 0, 1) := by decide +kernel
theorem dL_law_207 : decode cL_law 207 = .ok (.iload_n 3, 1) := by decide +kernel
theorem dL_law_208 : decode cL_law 208 = .ok (.iconst 5, 1) := by decide +kernel
theorem dL_law_209 : decode cL_law 209 = .ok (.iadd, 1) := by decide +kernel
theorem dL_law_210 : decode cL_law 210 = .ok (.iaload, 1) := by decide +kernel
theorem dL_law_211 : decode cL_law 211 = .ok (.invokevirtual 17, 3) := by decide +kernel
theorem dL_law_214 : decode cL_law 214 = .ok (.if_icmp .eq 737, 3) := by decide +kernel
theorem dL_law_217 : decode cL_law 217 = .ok (.iconst 0, 1) := by decide +kernel
theorem dL_law_218 : decode cL_law 218 = .ok (.ireturn, 1) := by decide +kernel
theorem dL_law_219 : decode cL_law 219 = .ok (.aload_n 1, 1) := by decide +kernel
theorem dL_law_220 : decode cL_law 220 = .ok (.aload_n 0, 1) := by decide +kernel
theorem dL_law_221 : decode cL_law 221 = .ok (.iload_n 3, 1) := by decide +kernel
theorem dL_law_222 : decode cL_law 222 = .ok (.iconst 1, 1) := by decide +kernel
theorem dL_law_223 : decode cL_law 223 = .ok (.iadd, 1) := by decide +kernel
theorem dL_law_224 : decode cL_law 224 = .ok (.iaload, 1) := by decide +kernel
theorem dL_law_225 : decode cL_law 225 = .ok (.invokevirtual 18, 3) := by decide +kernel
theorem dL_law_228 : decode cL_law 228 = .ok (.aload_n 2, 1) := by decide +kernel
theorem dL_law_229 : decode cL_law 229 = .ok (.aload_n 0, 1) := by decide +kernel
theorem dL_law_230 : decode cL_law 230 = .ok (.iload_n 3, 1) := by decide +kernel
theorem dL_law_231 : decode cL_law 231 = .ok (.iconst 1, 1) := by decide +kernel
theorem dL_law_232 : decode cL_law 232 = .ok (.iadd, 1) := by decide +kernel
theorem dL_law_233 : decode cL_law 233 = .ok (.iaload, 1) := by decide +kernel
theorem dL_law_234 : decode cL_law 234 = .ok (.invokevirtual 22, 3) := by decide +kernel
theorem dL_law_237 : decode cL_law 237 = .ok (.if_icmp .eq 714, 3) := by decide +kernel
theorem dL_law_240 : decode cL_law 240 = .ok (.iconst 0, 1) := by decide +kernel
theorem dL_law_241 : decode cL_law 241 = .ok (.ireturn, 1) := by decide +kernel
theorem dL_law_242 : decode cL_law 242 = .ok (.aload_n 1, 1) := by decide +kernel
theorem dL_law_243 : decode cL_law 243 = .ok (.aload_n 0, 1) := by decide +kernel
theorem dL_law_244 : decode cL_law 244 = .ok (.iload_n 3, 1) := by decide +kernel
theorem dL_law_245 : decode cL_law 245 = .ok (.iconst 1, 1) := by decide +kernel
theorem dL_law_246 : decode cL_law 246 = .ok (.iadd, 1) := by decide +kernel
theorem dL_law_247 : decode cL_law 247 = .ok (.iaload, 1) := by decide +kernel
theorem dL_law_248 : decode cL_law 248 = .ok (.aload_n 0, 1) := by decide +kernel
theorem dL_law_249 : decode cL_law 249 = .ok (.iload_n 3, 1) := by decide +kernel
theorem dL_law_250 : decode cL_law 250 = .ok (.iconst 2, 1) := by decide +kernel
theorem dL_law_251 : decode cL_law 251 = .ok (.iadd, 1) := by decide +kernel
theorem dL_law_252 : decode cL_law 252 = .ok (.iaload, 1) := by decide +kernel
theorem dL_law_253 : decode cL_law 253 = .ok (.invokevirtual 23, 3) := by decide +kernel
theorem dL_law_256 : decode cL_law 256 = .ok (.aload_n 2, 1) := by decide +kernel
theorem dL_law_257 : decode cL_law 257 = .ok (.aload_n 0, 1) := by decide +kernel
theorem dL_law_258 : decode cL_law 258 = .ok (.iload_n 3, 1) := by decide +kernel
theorem dL_law_259 : decode cL_law 259 = .ok (.iconst 1, 1) := by decide +kernel
theorem dL_law_260 : decode cL_law 260 = .ok (.iadd, 1) := by decide +kernel
theorem dL_law_261 : decode cL_law 261 = .ok (.iaload, 1) := by decide +kernel
theorem dL_law_262 : decode cL_law 262 = .ok (.aload_n 0, 1) := by decide +kernel
theorem dL_law_263 : decode cL_law 263 = .ok (.iload_n 3, 1) := by decide +kernel
theorem dL_law_264 : decode cL_law 264 = .ok (.iconst 2, 1) := by decide +kernel
theorem dL_law_265 : decode cL_law 265 = .ok (.iadd, 1) := by decide +kernel
theorem dL_law_266 : decode cL_law 266 = .ok (.iaload, 1) := by decide +kernel
theorem dL_law_267 : decode cL_law 267 = .ok (.invokevirtual 27, 3) := by decide +kernel
theorem dL_law_270 : decode cL_law 270 = .ok (.if_icmp .eq 681, 3) := by decide +kernel
theorem dL_law_273 : decode cL_law 273 = .ok (.iconst 0, 1) := by decide +kernel
theorem dL_law_274 : decode cL_law 274 = .ok (.ireturn, 1) := by decide +kernel
theorem dL_law_275 : decode cL_law 275 = .ok (.aload_n 1, 1) := by decide +kernel
theorem dL_law_276 : decode cL_law 276 = .ok (.aload_n 0, 1) := by decide +kernel
theorem dL_law_277 : decode cL_law 277 = .ok (.iload_n 3, 1) := by decide +kernel
theorem dL_law_278 : decode cL_law 278 = .ok (.iconst 1, 1) := by decide +kernel
theorem dL_law_279 : decode cL_law 279 = .ok (.iadd, 1) := by decide +kernel
theorem dL_law_280 : decode cL_law 280 = .ok (.iaload, 1) := by decide +kernel
theorem dL_law_281 : decode cL_law 281 = .ok (.aload_n 0, 1) := by decide +kernel
theorem dL_law_282 : decode cL_law 282 = .ok (.iload_n 3, 1) := by decide +kernel
theorem dL_law_283 : decode cL_law 283 = .ok (.iconst 2, 1) := by decide +kernel
theorem dL_law_284 : decode cL_law 284 = .ok (.iadd, 1) := by decide +kernel
theorem dL_law_285 : decode cL_law 285 = .ok (.iaload, 1) := by decide +kernel
theorem dL_law_286 : decode cL_law 286 = .ok (.invokevirtual 28, 3) := by decide +kernel
theorem dL_law_289 : decode cL_law 289 = .ok (.aload_n 2, 1) := by decide +kernel
theorem dL_law_290 : decode cL_law 290 = .ok (.aload_n 0, 1) := by decide +kernel
theorem dL_law_291 : decode cL_law 291 = .ok (.iload_n 3, 1) := by decide +kernel
theorem dL_law_292 : decode cL_law 292 = .ok (.iconst 1, 1) := by decide +kernel
theorem dL_law_293 : decode cL_law 293 = .ok (.iadd, 1) := by decide +kernel
theorem dL_law_294 : decode cL_law 294 = .ok (.iaload, 1) := by decide +kernel
theorem dL_law_295 : decode cL_law 295 = .ok (.aload_n 0, 1) := by decide +kernel
theorem dL_law_296 : decode cL_law 296 = .ok (.iload_n 3, 1) := by decide +kernel
theorem dL_law_297 : decode cL_law 297 = .ok (.iconst 2, 1) := by decide +kernel
theorem dL_law_298 : decode cL_law 298 = .ok (.iadd, 1) := by decide +kernel
theorem dL_law_299 : decode cL_law 299 = .ok (.iaload, 1) := by decide +kernel
theorem dL_law_300 : decode cL_law 300 = .ok (.invokevirtual 31, 3) := by decide +kernel
theorem dL_law_303 : decode cL_law 303 = .ok (.if_icmp .eq 648, 3) := by decide +kernel
theorem dL_law_306 : decode cL_law 306 = .ok (.iconst 0, 1) := by decide +kernel
theorem dL_law_307 : decode cL_law 307 = .ok (.ireturn, 1) := by decide +kernel
theorem dL_law_308 : decode cL_law 308 = .ok (.aload_n 1, 1) := by decide +kernel
theorem dL_law_309 : decode cL_law 309 = .ok (.aload_n 0, 1) := by decide +kernel
theorem dL_law_310 : decode cL_law 310 = .ok (.iload_n 3, 1) := by decide +kernel
theorem dL_law_311 : decode cL_law 311 = .ok (.iconst 1, 1) := by decide +kernel
theorem dL_law_312 : decode cL_law 312 = .ok (.iadd, 1) := by decide +kernel
theorem dL_law_313 : decode cL_law 313 = .ok (.iaload, 1) := by decide +kernel
theorem dL_law_314 : decode cL_law 314 = .ok (.invokevirtual 32, 3) := by decide +kernel
theorem dL_law_317 : decode cL_law 317 = .ok (.aload_n 2, 1) := by decide +kernel
theorem dL_law_318 : decode cL_law 318 = .ok (.aload_n 0, 1) := by decide +kernel
theorem dL_law_319 : decode cL_law 319 = .ok (.iload_n 3, 1) := by decide +kernel
theorem dL_law_320 : decode cL_law 320 = .ok (.iconst 1, 1) := by decide +kernel
theorem dL_law_321 : decode cL_law 321 = .ok (.iadd, 1) := by decide +kernel
theorem dL_law_322 : decode cL_law 322 = .ok (.iaload, 1) := by decide +kernel
theorem dL_law_323 : decode cL_law 323 = .ok (.invokevirtual 35, 3) := by decide +kernel
theorem dL_law_326 : decode cL_law 326 = .ok (.if_icmp .eq 625, 3) := by decide +kernel
theorem dL_law_329 : decode cL_law 329 = .ok (.iconst 0, 1) := by decide +kernel
theorem dL_law_330 : decode cL_law 330 = .ok (.ireturn, 1) := by decide +kernel
theorem dL_law_331 : decode cL_law 331 = .ok (.aload_n 1, 1) := by decide +kernel
theorem dL_law_332 : decode cL_law 332 = .ok (.invokevirtual 36, 3) := by decide +kernel
theorem dL_law_335 : decode cL_law 335 = .ok (.aload_n 2, 1) := by decide +kernel
theorem dL_law_336 : decode cL_law 336 = .ok (.invokevirtual 40, 3) := by decide +kernel
theorem dL_law_339 : decode cL_law 339 = .ok (.if_icmp .eq 612, 3) := by decide +kernel
theorem dL_law_342 : decode cL_law 342 = .ok (.iconst 0, 1) := by decide +kernel
theorem dL_law_343 : decode cL_law 343 = .ok (.ireturn, 1) := by decide +kernel
theorem dL_law_344 : decode cL_law 344 = .ok (.aload_n 1, 1) := by decide +kernel
theorem dL_law_345 : decode cL_law 345 = .ok (.invokevirtual 41, 3) := by decide +kernel
theorem dL_law_348 : decode cL_law 348 = .ok (.aload_n 2, 1) := by decide +kernel
theorem dL_law_349 : decode cL_law 349 = .ok (.invokevirtual 44, 3) := by decide +kernel
theorem dL_law_352 : decode cL_law 352 = .ok (.if_icmp .eq 599, 3) := by decide +kernel
theorem dL_law_355 : decode cL_law 355 = .ok (.iconst 0, 1) := by decide +kernel
theorem dL_law_356 : decode cL_law 356 = .ok (.ireturn, 1) := by decide +kernel
theorem dL_law_357 : decode cL_law 357 = .ok (.aload_n 1, 1) := by decide +kernel
theorem dL_law_358 : decode cL_law 358 = .ok (.aload_n 0, 1) := by decide +kernel
theorem dL_law_359 : decode cL_law 359 = .ok (.iload_n 3, 1) := by decide +kernel
theorem dL_law_360 : decode cL_law 360 = .ok (.iconst 1, 1) := by decide +kernel
theorem dL_law_361 : decode cL_law 361 = .ok (.iadd, 1) := by decide +kernel
theorem dL_law_362 : decode cL_law 362 = .ok (.iaload, 1) := by decide +kernel
theorem dL_law_363 : decode cL_law 363 = .ok (.invokevirtual 45, 3) := by decide +kernel
theorem dL_law_366 : decode cL_law 366 = .ok (.aload_n 2, 1) := by decide +kernel
theorem dL_law_367 : decode cL_law 367 = .ok (.aload_n 0, 1) := by decide +kernel
theorem dL_law_368 : decode cL_law 368 = .ok (.iload_n 3, 1) := by decide +kernel
theorem dL_law_369 : decode cL_law 369 = .ok (.iconst 1, 1) := by decide +kernel
theorem dL_law_370 : decode cL_law 370 = .ok (.iadd, 1) := by decide +kernel
theorem dL_law_371 : decode cL_law 371 = .ok (.iaload, 1) := by decide +kernel
theorem dL_law_372 : decode cL_law 372 = .ok (.invokevirtual 48, 3) := by decide +kernel
theorem dL_law_375 : decode cL_law 375 = .ok (.if_icmp .eq 576, 3) := by decide +kernel
theorem dL_law_378 : decode cL_law 378 = .ok (.iconst 0, 1) := by decide +kernel
theorem dL_law_379 : decode cL_law 379 = .ok (.ireturn, 1) := by decide +kernel
theorem dL_law_380 : decode cL_law 380 = .ok (.aload_n 1, 1) := by decide +kernel
theorem dL_law_381 : decode cL_law 381 = .ok (.aload_n 0, 1) := by decide +kernel
theorem dL_law_382 : decode cL_law 382 = .ok (.iload_n 3, 1) := by decide +kernel
theorem dL_law_383 : decode cL_law 383 = .ok (.iconst 1, 1) := by decide +kernel
theorem dL_law_384 : decode cL_law 384 = .ok (.iadd, 1) := by decide +kernel
theorem dL_law_385 : decode cL_law 385 = .ok (.iaload, 1) := by decide +kernel
theorem dL_law_386 : decode cL_law 386 = .ok (.aload_n 0, 1) := by decide +kernel
theorem dL_law_387 : decode cL_law 387 = .ok (.iload_n 3, 1) := by decide +kernel
theorem dL_law_388 : decode cL_law 388 = .ok (.iconst 2, 1) := by decide +kernel
theorem dL_law_389 : decode cL_law 389 = .ok (.iadd, 1) := by decide +kernel
theorem dL_law_390 : decode cL_law 390 = .ok (.iaload, 1) := by decide +kernel
theorem dL_law_391 : decode cL_law 391 = .ok (.invokevirtual 49, 3) := by decide +kernel
theorem dL_law_394 : decode cL_law 394 = .ok (.aload_n 2, 1) := by decide +kernel
theorem dL_law_395 : decode cL_law 395 = .ok (.aload_n 0, 1) := by decide +kernel
theorem dL_law_396 : decode cL_law 396 = .ok (.iload_n 3, 1) := by decide +kernel
theorem dL_law_397 : decode cL_law 397 = .ok (.iconst 1, 1) := by decide +kernel
theorem dL_law_398 : decode cL_law 398 = .ok (.iadd, 1) := by decide +kernel
theorem dL_law_399 : decode cL_law 399 = .ok (.iaload, 1) := by decide +kernel
theorem dL_law_400 : decode cL_law 400 = .ok (.aload_n 0, 1) := by decide +kernel
theorem dL_law_401 : decode cL_law 401 = .ok (.iload_n 3, 1) := by decide +kernel
theorem dL_law_402 : decode cL_law 402 = .ok (.iconst 2, 1) := by decide +kernel
theorem dL_law_403 : decode cL_law 403 = .ok (.iadd, 1) := by decide +kernel
theorem dL_law_404 : decode cL_law 404 = .ok (.iaload, 1) := by decide +kernel
theorem dL_law_405 : decode cL_law 405 = .ok (.invokevirtual 52, 3) := by decide +kernel
theorem dL_law_408 : decode cL_law 408 = .ok (.if_icmp .eq 543, 3) := by decide +kernel
theorem dL_law_411 : decode cL_law 411 = .ok (.iconst 0, 1) := by decide +kernel
theorem dL_law_412 : decode cL_law 412 = .ok (.ireturn, 1) := by decide +kernel
theorem dL_law_413 : decode cL_law 413 = .ok (.aload_n 1, 1) := by decide +kernel
theorem dL_law_414 : decode cL_law 414 = .ok (.aload_n 0, 1) := by decide +kernel
theorem dL_law_415 : decode cL_law 415 = .ok (.iload_n 3, 1) := by decide +kernel
theorem dL_law_416 : decode cL_law 416 = .ok (.iconst 1, 1) := by decide +kernel
theorem dL_law_417 : decode cL_law 417 = .ok (.iadd, 1) := by decide +kernel
theorem dL_law_418 : decode cL_law 418 = .ok (.iaload, 1) := by decide +kernel
theorem dL_law_419 : decode cL_law 419 = .ok (.aload_n 0, 1) := by decide +kernel
theorem dL_law_420 : decode cL_law 420 = .ok (.iload_n 3, 1) := by decide +kernel
theorem dL_law_421 : decode cL_law 421 = .ok (.iconst 2, 1) := by decide +kernel
theorem dL_law_422 : decode cL_law 422 = .ok (.iadd, 1) := by decide +kernel
theorem dL_law_423 : decode cL_law 423 = .ok (.iaload, 1) := by decide +kernel
theorem dL_law_424 : decode cL_law 424 = .ok (.invokevirtual 53, 3) := by decide +kernel
theorem dL_law_427 : decode cL_law 427 = .ok (.aload_n 2, 1) := by decide +kernel
theorem dL_law_428 : decode cL_law 428 = .ok (.aload_n 0, 1) := by decide +kernel
theorem dL_law_429 : decode cL_law 429 = .ok (.iload_n 3, 1) := by decide +kernel
theorem dL_law_430 : decode cL_law 430 = .ok (.iconst 1, 1) := by decide +kernel
theorem dL_law_431 : decode cL_law 431 = .ok (.iadd, 1) := by decide +kernel
theorem dL_law_432 : decode cL_law 432 = .ok (.iaload, 1) := by decide +kernel
theorem dL_law_433 : decode cL_law 433 = .ok (.aload_n 0, 1) := by decide +kernel
theorem dL_law_434 : decode cL_law 434 = .ok (.iload_n 3, 1) := by decide +kernel
theorem dL_law_435 : decode cL_law 435 = .ok (.iconst 2, 1) := by decide +kernel
theorem dL_law_436 : decode cL_law 436 = .ok (.iadd, 1) := by decide +kernel
theorem dL_law_437 : decode cL_law 437 = .ok (.iaload, 1) := by decide +kernel
theorem dL_law_438 : decode cL_law 438 = .ok (.invokevirtual 56, 3) := by decide +kernel
theorem dL_law_441 : decode cL_law 441 = .ok (.if_icmp .eq 510, 3) := by decide +kernel
theorem dL_law_444 : decode cL_law 444 = .ok (.iconst 0, 1) := by decide +kernel
theorem dL_law_445 : decode cL_law 445 = .ok (.ireturn, 1) := by decide +kernel
theorem dL_law_446 : decode cL_law 446 = .ok (.aload_n 1, 1) := by decide +kernel
theorem dL_law_447 : decode cL_law 447 = .ok (.aload_n 0, 1) := by decide +kernel
theorem dL_law_448 : decode cL_law 448 = .ok (.iload_n 3, 1) := by decide +kernel
theorem dL_law_449 : decode cL_law 449 = .ok (.iconst 1, 1) := by decide +kernel
theorem dL_law_450 : decode cL_law 450 = .ok (.iadd, 1) := by decide +kernel
theorem dL_law_451 : decode cL_law 451 = .ok (.iaload, 1) := by decide +kernel
theorem dL_law_452 : decode cL_law 452 = .ok (.invokevirtual 57, 3) := by decide +kernel
theorem dL_law_455 : decode cL_law 455 = .ok (.aload_n 2, 1) := by decide +kernel
theorem dL_law_456 : decode cL_law 456 = .ok (.aload_n 0, 1) := by decide +kernel
theorem dL_law_457 : decode cL_law 457 = .ok (.iload_n 3, 1) := by decide +kernel
theorem dL_law_458 : decode cL_law 458 = .ok (.iconst 1, 1) := by decide +kernel
theorem dL_law_459 : decode cL_law 459 = .ok (.iadd, 1) := by decide +kernel
theorem dL_law_460 : decode cL_law 460 = .ok (.iaload, 1) := by decide +kernel
theorem dL_law_461 : decode cL_law 461 = .ok (.invokevirtual 60, 3) := by decide +kernel
theorem dL_law_464 : decode cL_law 464 = .ok (.if_icmp .eq 487, 3) := by decide +kernel
theorem dL_law_467 : decode cL_law 467 = .ok (.iconst 0, 1) := by decide +kernel
theorem dL_law_468 : decode cL_law 468 = .ok (.ireturn, 1) := by decide +kernel
theorem dL_law_469 : decode cL_law 469 = .ok (.aload_n 1, 1) := by decide +kernel
theorem dL_law_470 : decode cL_law 470 = .ok (.invokevirtual 61, 3) := by decide +kernel
theorem dL_law_473 : decode cL_law 473 = .ok (.aload_n 2, 1) := by decide +kernel
theorem dL_law_474 : decode cL_law 474 = .ok (.invokevirtual 64, 3) := by decide +kernel
theorem dL_law_477 : decode cL_law 477 = .ok (.if_icmp .eq 474, 3) := by decide +kernel
theorem dL_law_480 : decode cL_law 480 = .ok (.iconst 0, 1) := by decide +kernel
theorem dL_law_481 : decode cL_law 481 = .ok (.ireturn, 1) := by decide +kernel
theorem dL_law_482 : decode cL_law 482 = .ok (.aload_n 1, 1) := by decide +kernel
theorem dL_law_483 : decode cL_law 483 = .ok (.aload_n 0, 1) := by decide +kernel
theorem dL_law_484 : decode cL_law 484 = .ok (.iload_n 3, 1) := by decide +kernel
theorem dL_law_485 : decode cL_law 485 = .ok (.iconst 1, 1) := by decide +kernel
theorem dL_law_486 : decode cL_law 486 = .ok (.iadd, 1) := by decide +kernel
theorem dL_law_487 : decode cL_law 487 = .ok (.iaload, 1) := by decide +kernel
theorem dL_law_488 : decode cL_law 488 = .ok (.invokevirtual 65, 3) := by decide +kernel
theorem dL_law_491 : decode cL_law 491 = .ok (.aload_n 2, 1) := by decide +kernel
theorem dL_law_492 : decode cL_law 492 = .ok (.aload_n 0, 1) := by decide +kernel
theorem dL_law_493 : decode cL_law 493 = .ok (.iload_n 3, 1) := by decide +kernel
theorem dL_law_494 : decode cL_law 494 = .ok (.iconst 1, 1) := by decide +kernel
theorem dL_law_495 : decode cL_law 495 = .ok (.iadd, 1) := by decide +kernel
theorem dL_law_496 : decode cL_law 496 = .ok (.iaload, 1) := by decide +kernel
theorem dL_law_497 : decode cL_law 497 = .ok (.invokevirtual 68, 3) := by decide +kernel
theorem dL_law_500 : decode cL_law 500 = .ok (.if_icmp .eq 451, 3) := by decide +kernel
theorem dL_law_503 : decode cL_law 503 = .ok (.iconst 0, 1) := by decide +kernel
theorem dL_law_504 : decode cL_law 504 = .ok (.ireturn, 1) := by decide +kernel
theorem dL_law_505 : decode cL_law 505 = .ok (.aload_n 1, 1) := by decide +kernel
theorem dL_law_506 : decode cL_law 506 = .ok (.aload_n 0, 1) := by decide +kernel
theorem dL_law_507 : decode cL_law 507 = .ok (.iload_n 3, 1) := by decide +kernel
theorem dL_law_508 : decode cL_law 508 = .ok (.iconst 1, 1) := by decide +kernel
theorem dL_law_509 : decode cL_law 509 = .ok (.iadd, 1) := by decide +kernel
theorem dL_law_510 : decode cL_law 510 = .ok (.iaload, 1) := by decide +kernel
theorem dL_law_511 : decode cL_law 511 = .ok (.aload_n 0, 1) := by decide +kernel
theorem dL_law_512 : decode cL_law 512 = .ok (.iload_n 3, 1) := by decide +kernel
theorem dL_law_513 : decode cL_law 513 = .ok (.iconst 2, 1) := by decide +kernel
theorem dL_law_514 : decode cL_law 514 = .ok (.iadd, 1) := by decide +kernel
theorem dL_law_515 : decode cL_law 515 = .ok (.iaload, 1) := by decide +kernel
theorem dL_law_516 : decode cL_law 516 = .ok (.aload_n 0, 1) := by decide +kernel
theorem dL_law_517 : decode cL_law 517 = .ok (.iload_n 3, 1) := by decide +kernel
theorem dL_law_518 : decode cL_law 518 = .ok (.iconst 3, 1) := by decide +kernel
theorem dL_law_519 : decode cL_law 519 = .ok (.iadd, 1) := by decide +kernel
theorem dL_law_520 : decode cL_law 520 = .ok (.iaload, 1) := by decide +kernel
theorem dL_law_521 : decode cL_law 521 = .ok (.aload_n 0, 1) := by decide +kernel
theorem dL_law_522 : decode cL_law 522 = .ok (.iload_n 3, 1) := by decide +kernel
theorem dL_law_523 : decode cL_law 523 = .ok (.iconst 4, 1) := by decide +kernel
theorem dL_law_524 : decode cL_law 524 = .ok (.iadd, 1) := by decide +kernel
theorem dL_law_525 : decode cL_law 525 = .ok (.iaload, 1) := by decide +kernel
theorem dL_law_526 : decode cL_law 526 = .ok (.invokevirtual 69, 3) := by decide +kernel
theorem dL_law_529 : decode cL_law 529 = .ok (.aload_n 2, 1) := by decide +kernel
theorem dL_law_530 : decode cL_law 530 = .ok (.aload_n 0, 1) := by decide +kernel
theorem dL_law_531 : decode cL_law 531 = .ok (.iload_n 3, 1) := by decide +kernel
theorem dL_law_532 : decode cL_law 532 = .ok (.iconst 1, 1) := by decide +kernel
theorem dL_law_533 : decode cL_law 533 = .ok (.iadd, 1) := by decide +kernel
theorem dL_law_534 : decode cL_law 534 = .ok (.iaload, 1) := by decide +kernel
theorem dL_law_535 : decode cL_law 535 = .ok (.aload_n 0, 1) := by decide +kernel
theorem dL_law_536 : decode cL_law 536 = .ok (.iload_n 3, 1) := by decide +kernel
theorem dL_law_537 : decode cL_law 537 = .ok (.iconst 2, 1) := by decide +kernel
theorem dL_law_538 : decode cL_law 538 = .ok (.iadd, 1) := by decide +kernel
theorem dL_law_539 : decode cL_law 539 = .ok (.iaload, 1) := by decide +kernel
theorem dL_law_540 : decode cL_law 540 = .ok (.aload_n 0, 1) := by decide +kernel
theorem dL_law_541 : decode cL_law 541 = .ok (.iload_n 3, 1) := by decide +kernel
theorem dL_law_542 : decode cL_law 542 = .ok (.iconst 3, 1) := by decide +kernel
theorem dL_law_543 : decode cL_law 543 = .ok (.iadd, 1) := by decide +kernel
theorem dL_law_544 : decode cL_law 544 = .ok (.iaload, 1) := by decide +kernel
theorem dL_law_545 : decode cL_law 545 = .ok (.aload_n 0, 1) := by decide +kernel
theorem dL_law_546 : decode cL_law 546 = .ok (.iload_n 3, 1) := by decide +kernel
theorem dL_law_547 : decode cL_law 547 = .ok (.iconst 4, 1) := by decide +kernel
theorem dL_law_548 : decode cL_law 548 = .ok (.iadd, 1) := by decide +kernel
theorem dL_law_549 : decode cL_law 549 = .ok (.iaload, 1) := by decide +kernel
theorem dL_law_550 : decode cL_law 550 = .ok (.invokevirtual 73, 3) := by decide +kernel
theorem dL_law_553 : decode cL_law 553 = .ok (.lcmp, 1) := by decide +kernel
theorem dL_law_554 : decode cL_law 554 = .ok (.ifCond .eq 397, 3) := by decide +kernel
theorem dL_law_557 : decode cL_law 557 = .ok (.iconst 0, 1) := by decide +kernel
theorem dL_law_558 : decode cL_law 558 = .ok (.ireturn, 1) := by decide +kernel
theorem dL_law_559 : decode cL_law 559 = .ok (.aload_n 1, 1) := by decide +kernel
theorem dL_law_560 : decode cL_law 560 = .ok (.aload_n 0, 1) := by decide +kernel
theorem dL_law_561 : decode cL_law 561 = .ok (.iload_n 3, 1) := by decide +kernel
theorem dL_law_562 : decode cL_law 562 = .ok (.iconst 1, 1) := by decide +kernel
theorem dL_law_563 : decode cL_law 563 = .ok (.iadd, 1) := by decide +kernel
theorem dL_law_564 : decode cL_law 564 = .ok (.iaload, 1) := by decide +kernel
theorem dL_law_565 : decode cL_law 565 = .ok (.aload_n 0, 1) := by decide +kernel
theorem dL_law_566 : decode cL_law 566 = .ok (.iload_n 3, 1) := by decide +kernel
theorem dL_law_567 : decode cL_law 567 = .ok (.iconst 2, 1) := by decide +kernel
theorem dL_law_568 : decode cL_law 568 = .ok (.iadd, 1) := by decide +kernel
theorem dL_law_569 : decode cL_law 569 = .ok (.iaload, 1) := by decide +kernel
theorem dL_law_570 : decode cL_law 570 = .ok (.invokevirtual 74, 3) := by decide +kernel
theorem dL_law_573 : decode cL_law 573 = .ok (.aload_n 2, 1) := by decide +kernel
theorem dL_law_574 : decode cL_law 574 = .ok (.aload_n 0, 1) := by decide +kernel
theorem dL_law_575 : decode cL_law 575 = .ok (.iload_n 3, 1) := by decide +kernel
theorem dL_law_576 : decode cL_law 576 = .ok (.iconst 1, 1) := by decide +kernel
theorem dL_law_577 : decode cL_law 577 = .ok (.iadd, 1) := by decide +kernel
theorem dL_law_578 : decode cL_law 578 = .ok (.iaload, 1) := by decide +kernel
theorem dL_law_579 : decode cL_law 579 = .ok (.aload_n 0, 1) := by decide +kernel
theorem dL_law_580 : decode cL_law 580 = .ok (.iload_n 3, 1) := by decide +kernel
theorem dL_law_581 : decode cL_law 581 = .ok (.iconst 2, 1) := by decide +kernel
theorem dL_law_582 : decode cL_law 582 = .ok (.iadd, 1) := by decide +kernel
theorem dL_law_583 : decode cL_law 583 = .ok (.iaload, 1) := by decide +kernel
theorem dL_law_584 : decode cL_law 584 = .ok (.invokevirtual 77, 3) := by decide +kernel
theorem dL_law_587 : decode cL_law 587 = .ok (.if_icmp .eq 364, 3) := by decide +kernel
theorem dL_law_590 : decode cL_law 590 = .ok (.iconst 0, 1) := by decide +kernel
theorem dL_law_591 : decode cL_law 591 = .ok (.ireturn, 1) := by decide +kernel
theorem dL_law_592 : decode cL_law 592 = .ok (.aload_n 1, 1) := by decide +kernel
theorem dL_law_593 : decode cL_law 593 = .ok (.aload_n 0, 1) := by decide +kernel
theorem dL_law_594 : decode cL_law 594 = .ok (.iload_n 3, 1) := by decide +kernel
theorem dL_law_595 : decode cL_law 595 = .ok (.iconst 1, 1) := by decide +kernel
theorem dL_law_596 : decode cL_law 596 = .ok (.iadd, 1) := by decide +kernel
theorem dL_law_597 : decode cL_law 597 = .ok (.iaload, 1) := by decide +kernel
theorem dL_law_598 : decode cL_law 598 = .ok (.invokevirtual 78, 3) := by decide +kernel
theorem dL_law_601 : decode cL_law 601 = .ok (.aload_n 2, 1) := by decide +kernel
theorem dL_law_602 : decode cL_law 602 = .ok (.aload_n 0, 1) := by decide +kernel
theorem dL_law_603 : decode cL_law 603 = .ok (.iload_n 3, 1) := by decide +kernel
theorem dL_law_604 : decode cL_law 604 = .ok (.iconst 1, 1) := by decide +kernel
theorem dL_law_605 : decode cL_law 605 = .ok (.iadd, 1) := by decide +kernel
theorem dL_law_606 : decode cL_law 606 = .ok (.iaload, 1) := by decide +kernel
theorem dL_law_607 : decode cL_law 607 = .ok (.invokevirtual 81, 3) := by decide +kernel
theorem dL_law_610 : decode cL_law 610 = .ok (.if_icmp .eq 341, 3) := by decide +kernel
theorem dL_law_613 : decode cL_law 613 = .ok (.iconst 0, 1) := by decide +kernel
theorem dL_law_614 : decode cL_law 614 = .ok (.ireturn, 1) := by decide +kernel
theorem dL_law_615 : decode cL_law 615 = .ok (.aload_n 1, 1) := by decide +kernel
theorem dL_law_616 : decode cL_law 616 = .ok (.aload_n 0, 1) := by decide +kernel
theorem dL_law_617 : decode cL_law 617 = .ok (.iload_n 3, 1) := by decide +kernel
theorem dL_law_618 : decode cL_law 618 = .ok (.iconst 1, 1) := by decide +kernel
theorem dL_law_619 : decode cL_law 619 = .ok (.iadd, 1) := by decide +kernel
theorem dL_law_620 : decode cL_law 620 = .ok (.iaload, 1) := by decide +kernel
theorem dL_law_621 : decode cL_law 621 = .ok (.invokevirtual 82, 3) := by decide +kernel
theorem dL_law_624 : decode cL_law 624 = .ok (.aload_n 2, 1) := by decide +kernel
theorem dL_law_625 : decode cL_law 625 = .ok (.aload_n 0, 1) := by decide +kernel
theorem dL_law_626 : decode cL_law 626 = .ok (.iload_n 3, 1) := by decide +kernel
theorem dL_law_627 : decode cL_law 627 = .ok (.iconst 1, 1) := by decide +kernel
theorem dL_law_628 : decode cL_law 628 = .ok (.iadd, 1) := by decide +kernel
theorem dL_law_629 : decode cL_law 629 = .ok (.iaload, 1) := by decide +kernel
theorem dL_law_630 : decode cL_law 630 = .ok (.invokevirtual 85, 3) := by decide +kernel
theorem dL_law_633 : decode cL_law 633 = .ok (.if_icmp .eq 318, 3) := by decide +kernel
theorem dL_law_636 : decode cL_law 636 = .ok (.iconst 0, 1) := by decide +kernel
theorem dL_law_637 : decode cL_law 637 = .ok (.ireturn, 1) := by decide +kernel
theorem dL_law_638 : decode cL_law 638 = .ok (.aload_n 1, 1) := by decide +kernel
theorem dL_law_639 : decode cL_law 639 = .ok (.aload_n 0, 1) := by decide +kernel
theorem dL_law_640 : decode cL_law 640 = .ok (.iload_n 3, 1) := by decide +kernel
theorem dL_law_641 : decode cL_law 641 = .ok (.iconst 1, 1) := by decide +kernel
theorem dL_law_642 : decode cL_law 642 = .ok (.iadd, 1) := by decide +kernel
theorem dL_law_643 : decode cL_law 643 = .ok (.iaload, 1) := by decide +kernel
theorem dL_law_644 : decode cL_law 644 = .ok (.aload_n 0, 1) := by decide +kernel
theorem dL_law_645 : decode cL_law 645 = .ok (.iload_n 3, 1) := by decide +kernel
theorem dL_law_646 : decode cL_law 646 = .ok (.iconst 2, 1) := by decide +kernel
theorem dL_law_647 : decode cL_law 647 = .ok (.iadd, 1) := by decide +kernel
theorem dL_law_648 : decode cL_law 648 = .ok (.iaload, 1) := by decide +kernel
theorem dL_law_649 : decode cL_law 649 = .ok (.invokevirtual 86, 3) := by decide +kernel
theorem dL_law_652 : decode cL_law 652 = .ok (.aload_n 2, 1) := by decide +kernel
theorem dL_law_653 : decode cL_law 653 = .ok (.aload_n 0, 1) := by decide +kernel
theorem dL_law_654 : decode cL_law 654 = .ok (.iload_n 3, 1) := by decide +kernel
theorem dL_law_655 : decode cL_law 655 = .ok (.iconst 1, 1) := by decide +kernel
theorem dL_law_656 : decode cL_law 656 = .ok (.iadd, 1) := by decide +kernel
theorem dL_law_657 : decode cL_law 657 = .ok (.iaload, 1) := by decide +kernel
theorem dL_law_658 : decode cL_law 658 = .ok (.aload_n 0, 1) := by decide +kernel
theorem dL_law_659 : decode cL_law 659 = .ok (.iload_n 3, 1) := by decide +kernel
theorem dL_law_660 : decode cL_law 660 = .ok (.iconst 2, 1) := by decide +kernel
theorem dL_law_661 : decode cL_law 661 = .ok (.iadd, 1) := by decide +kernel
theorem dL_law_662 : decode cL_law 662 = .ok (.iaload, 1) := by decide +kernel
theorem dL_law_663 : decode cL_law 663 = .ok (.invokevirtual 89, 3) := by decide +kernel
theorem dL_law_666 : decode cL_law 666 = .ok (.if_icmp .eq 285, 3) := by decide +kernel
theorem dL_law_669 : decode cL_law 669 = .ok (.iconst 0, 1) := by decide +kernel
theorem dL_law_670 : decode cL_law 670 = .ok (.ireturn, 1) := by decide +kernel
theorem dL_law_671 : decode cL_law 671 = .ok (.aload_n 1, 1) := by decide +kernel
theorem dL_law_672 : decode cL_law 672 = .ok (.invokevirtual 90, 3) := by decide +kernel
theorem dL_law_675 : decode cL_law 675 = .ok (.aload_n 2, 1) := by decide +kernel
theorem dL_law_676 : decode cL_law 676 = .ok (.invokevirtual 93, 3) := by decide +kernel
theorem dL_law_679 : decode cL_law 679 = .ok (.if_icmp .eq 272, 3) := by decide +kernel
theorem dL_law_682 : decode cL_law 682 = .ok (.iconst 0, 1) := by decide +kernel
theorem dL_law_683 : decode cL_law 683 = .ok (.ireturn, 1) := by decide +kernel
theorem dL_law_684 : decode cL_law 684 = .ok (.aload_n 1, 1) := by decide +kernel
theorem dL_law_685 : decode cL_law 685 = .ok (.aload_n 0, 1) := by decide +kernel
theorem dL_law_686 : decode cL_law 686 = .ok (.iload_n 3, 1) := by decide +kernel
theorem dL_law_687 : decode cL_law 687 = .ok (.iconst 1, 1) := by decide +kernel
theorem dL_law_688 : decode cL_law 688 = .ok (.iadd, 1) := by decide +kernel
theorem dL_law_689 : decode cL_law 689 = .ok (.iaload, 1) := by decide +kernel
theorem dL_law_690 : decode cL_law 690 = .ok (.invokevirtual 94, 3) := by decide +kernel
theorem dL_law_693 : decode cL_law 693 = .ok (.aload_n 2, 1) := by decide +kernel
theorem dL_law_694 : decode cL_law 694 = .ok (.aload_n 0, 1) := by decide +kernel
theorem dL_law_695 : decode cL_law 695 = .ok (.iload_n 3, 1) := by decide +kernel
theorem dL_law_696 : decode cL_law 696 = .ok (.iconst 1, 1) := by decide +kernel
theorem dL_law_697 : decode cL_law 697 = .ok (.iadd, 1) := by decide +kernel
theorem dL_law_698 : decode cL_law 698 = .ok (.iaload, 1) := by decide +kernel
theorem dL_law_699 : decode cL_law 699 = .ok (.invokevirtual 97, 3) := by decide +kernel
theorem dL_law_702 : decode cL_law 702 = .ok (.if_icmp .eq 249, 3) := by decide +kernel
theorem dL_law_705 : decode cL_law 705 = .ok (.iconst 0, 1) := by decide +kernel
theorem dL_law_706 : decode cL_law 706 = .ok (.ireturn, 1) := by decide +kernel
theorem dL_law_707 : decode cL_law 707 = .ok (.aload_n 1, 1) := by decide +kernel
theorem dL_law_708 : decode cL_law 708 = .ok (.aload_n 0, 1) := by decide +kernel
theorem dL_law_709 : decode cL_law 709 = .ok (.iload_n 3, 1) := by decide +kernel
theorem dL_law_710 : decode cL_law 710 = .ok (.iconst 1, 1) := by decide +kernel
theorem dL_law_711 : decode cL_law 711 = .ok (.iadd, 1) := by decide +kernel
theorem dL_law_712 : decode cL_law 712 = .ok (.iaload, 1) := by decide +kernel
theorem dL_law_713 : decode cL_law 713 = .ok (.invokevirtual 98, 3) := by decide +kernel
theorem dL_law_716 : decode cL_law 716 = .ok (.aload_n 2, 1) := by decide +kernel
theorem dL_law_717 : decode cL_law 717 = .ok (.aload_n 0, 1) := by decide +kernel
theorem dL_law_718 : decode cL_law 718 = .ok (.iload_n 3, 1) := by decide +kernel
theorem dL_law_719 : decode cL_law 719 = .ok (.iconst 1, 1) := by decide +kernel
theorem dL_law_720 : decode cL_law 720 = .ok (.iadd, 1) := by decide +kernel
theorem dL_law_721 : decode cL_law 721 = .ok (.iaload, 1) := by decide +kernel
theorem dL_law_722 : decode cL_law 722 = .ok (.invokevirtual 101, 3) := by decide +kernel
theorem dL_law_725 : decode cL_law 725 = .ok (.if_icmp .eq 226, 3) := by decide +kernel
theorem dL_law_728 : decode cL_law 728 = .ok (.iconst 0, 1) := by decide +kernel
theorem dL_law_729 : decode cL_law 729 = .ok (.ireturn, 1) := by decide +kernel
theorem dL_law_730 : decode cL_law 730 = .ok (.aload_n 1, 1) := by decide +kernel
theorem dL_law_731 : decode cL_law 731 = .ok (.aload_n 0, 1) := by decide +kernel
theorem dL_law_732 : decode cL_law 732 = .ok (.iload_n 3, 1) := by decide +kernel
theorem dL_law_733 : decode cL_law 733 = .ok (.iconst 1, 1) := by decide +kernel
theorem dL_law_734 : decode cL_law 734 = .ok (.iadd, 1) := by decide +kernel
theorem dL_law_735 : decode cL_law 735 = .ok (.iaload, 1) := by decide +kernel
theorem dL_law_736 : decode cL_law 736 = .ok (.aload_n 0, 1) := by decide +kernel
theorem dL_law_737 : decode cL_law 737 = .ok (.iload_n 3, 1) := by decide +kernel
theorem dL_law_738 : decode cL_law 738 = .ok (.iconst 2, 1) := by decide +kernel
theorem dL_law_739 : decode cL_law 739 = .ok (.iadd, 1) := by decide +kernel
theorem dL_law_740 : decode cL_law 740 = .ok (.iaload, 1) := by decide +kernel
theorem dL_law_741 : decode cL_law 741 = .ok (.aload_n 0, 1) := by decide +kernel
theorem dL_law_742 : decode cL_law 742 = .ok (.iload_n 3, 1) := by decide +kernel
theorem dL_law_743 : decode cL_law 743 = .ok (.iconst 3, 1) := by decide +kernel
theorem dL_law_744 : decode cL_law 744 = .ok (.iadd, 1) := by decide +kernel
theorem dL_law_745 : decode cL_law 745 = .ok (.iaload, 1) := by decide +kernel
theorem dL_law_746 : decode cL_law 746 = .ok (.aload_n 0, 1) := by decide +kernel
theorem dL_law_747 : decode cL_law 747 = .ok (.iload_n 3, 1) := by decide +kernel
theorem dL_law_748 : decode cL_law 748 = .ok (.iconst 4, 1) := by decide +kernel
theorem dL_law_749 : decode cL_law 749 = .ok (.iadd, 1) := by decide +kernel
theorem dL_law_750 : decode cL_law 750 = .ok (.iaload, 1) := by decide +kernel
theorem dL_law_751 : decode cL_law 751 = .ok (.aload_n 0, 1) := by decide +kernel
theorem dL_law_752 : decode cL_law 752 = .ok (.iload_n 3, 1) := by decide +kernel
theorem dL_law_753 : decode cL_law 753 = .ok (.iconst 5, 1) := by decide +kernel
theorem dL_law_754 : decode cL_law 754 = .ok (.iadd, 1) := by decide +kernel
theorem dL_law_755 : decode cL_law 755 = .ok (.iaload, 1) := by decide +kernel
theorem dL_law_756 : decode cL_law 756 = .ok (.aload_n 0, 1) := by decide +kernel
theorem dL_law_757 : decode cL_law 757 = .ok (.iload_n 3, 1) := by decide +kernel
theorem dL_law_758 : decode cL_law 758 = .ok (.bipush 6, 2) := by decide +kernel
theorem dL_law_760 : decode cL_law 760 = .ok (.iadd, 1) := by decide +kernel
theorem dL_law_761 : decode cL_law 761 = .ok (.iaload, 1) := by decide +kernel
theorem dL_law_762 : decode cL_law 762 = .ok (.invokevirtual 102, 3) := by decide +kernel
theorem dL_law_765 : decode cL_law 765 = .ok (.aload_n 2, 1) := by decide +kernel
theorem dL_law_766 : decode cL_law 766 = .ok (.aload_n 0, 1) := by decide +kernel
theorem dL_law_767 : decode cL_law 767 = .ok (.iload_n 3, 1) := by decide +kernel
theorem dL_law_768 : decode cL_law 768 = .ok (.iconst 1, 1) := by decide +kernel
theorem dL_law_769 : decode cL_law 769 = .ok (.iadd, 1) := by decide +kernel
theorem dL_law_770 : decode cL_law 770 = .ok (.iaload, 1) := by decide +kernel
theorem dL_law_771 : decode cL_law 771 = .ok (.aload_n 0, 1) := by decide +kernel
theorem dL_law_772 : decode cL_law 772 = .ok (.iload_n 3, 1) := by decide +kernel
theorem dL_law_773 : decode cL_law 773 = .ok (.iconst 2, 1) := by decide +kernel
theorem dL_law_774 : decode cL_law 774 = .ok (.iadd, 1) := by decide +kernel
theorem dL_law_775 : decode cL_law 775 = .ok (.iaload, 1) := by decide +kernel
theorem dL_law_776 : decode cL_law 776 = .ok (.aload_n 0, 1) := by decide +kernel
theorem dL_law_777 : decode cL_law 777 = .ok (.iload_n 3, 1) := by decide +kernel
theorem dL_law_778 : decode cL_law 778 = .ok (.iconst 3, 1) := by decide +kernel
theorem dL_law_779 : decode cL_law 779 = .ok (.iadd, 1) := by decide +kernel
theorem dL_law_780 : decode cL_law 780 = .ok (.iaload, 1) := by decide +kernel
theorem dL_law_781 : decode cL_law 781 = .ok (.aload_n 0, 1) := by decide +kernel
theorem dL_law_782 : decode cL_law 782 = .ok (.iload_n 3, 1) := by decide +kernel
theorem dL_law_783 : decode cL_law 783 = .ok (.iconst 4, 1) := by decide +kernel
theorem dL_law_784 : decode cL_law 784 = .ok (.iadd, 1) := by decide +kernel
theorem dL_law_785 : decode cL_law 785 = .ok (.iaload, 1) := by decide +kernel
theorem dL_law_786 : decode cL_law 786 = .ok (.aload_n 0, 1) := by decide +kernel
theorem dL_law_787 : decode cL_law 787 = .ok (.iload_n 3, 1) := by decide +kernel
theorem dL_law_788 : decode cL_law 788 = .ok (.iconst 5, 1) := by decide +kernel
theorem dL_law_789 : decode cL_law 789 = .ok (.iadd, 1) := by decide +kernel
theorem dL_law_790 : decode cL_law 790 = .ok (.iaload, 1) := by decide +kernel
theorem dL_law_791 : decode cL_law 791 = .ok (.aload_n 0, 1) := by decide +kernel
theorem dL_law_792 : decode cL_law 792 = .ok (.iload_n 3, 1) := by decide +kernel
theorem dL_law_793 : decode cL_law 793 = .ok (.bipush 6, 2) := by decide +kernel
theorem dL_law_795 : decode cL_law 795 = .ok (.iadd, 1) := by decide +kernel
theorem dL_law_796 : decode cL_law 796 = .ok (.iaload, 1) := by decide +kernel
theorem dL_law_797 : decode cL_law 797 = .ok (.invokevirtual 106, 3) := by decide +kernel
theorem dL_law_800 : decode cL_law 800 = .ok (.lcmp, 1) := by decide +kernel
theorem dL_law_801 : decode cL_law 801 = .ok (.ifCond .eq 150, 3) := by decide +kernel
theorem dL_law_804 : decode cL_law 804 = .ok (.iconst 0, 1) := by decide +kernel
theorem dL_law_805 : decode cL_law 805 = .ok (.ireturn, 1) := by decide +kernel
theorem dL_law_806 : decode cL_law 806 = .ok (.aload_n 1, 1) := by decide +kernel
theorem dL_law_807 : decode cL_law 807 = .ok (.aload_n 0, 1) := by decide +kernel
theorem dL_law_808 : decode cL_law 808 = .ok (.iload_n 3, 1) := by decide +kernel
theorem dL_law_809 : decode cL_law 809 = .ok (.iconst 1, 1) := by decide +kernel
theorem dL_law_810 : decode cL_law 810 = .ok (.iadd, 1) := by decide +kernel
theorem dL_law_811 : decode cL_law 811 = .ok (.iaload, 1) := by decide +kernel
theorem dL_law_812 : decode cL_law 812 = .ok (.aload_n 0, 1) := by decide +kernel
theorem dL_law_813 : decode cL_law 813 = .ok (.iload_n 3, 1) := by decide +kernel
theorem dL_law_814 : decode cL_law 814 = .ok (.iconst 2, 1) := by decide +kernel
theorem dL_law_815 : decode cL_law 815 = .ok (.iadd, 1) := by decide +kernel
theorem dL_law_816 : decode cL_law 816 = .ok (.iaload, 1) := by decide +kernel
theorem dL_law_817 : decode cL_law 817 = .ok (.invokevirtual 107, 3) := by decide +kernel
theorem dL_law_820 : decode cL_law 820 = .ok (.aload_n 2, 1) := by decide +kernel
theorem dL_law_821 : decode cL_law 821 = .ok (.aload_n 0, 1) := by decide +kernel
theorem dL_law_822 : decode cL_law 822 = .ok (.iload_n 3, 1) := by decide +kernel
theorem dL_law_823 : decode cL_law 823 = .ok (.iconst 1, 1) := by decide +kernel
theorem dL_law_824 : decode cL_law 824 = .ok (.iadd, 1) := by decide +kernel
theorem dL_law_825 : decode cL_law 825 = .ok (.iaload, 1) := by decide +kernel
theorem dL_law_826 : decode cL_law 826 = .ok (.aload_n 0, 1) := by decide +kernel
theorem dL_law_827 : decode cL_law 827 = .ok (.iload_n 3, 1) := by decide +kernel
theorem dL_law_828 : decode cL_law 828 = .ok (.iconst 2, 1) := by decide +kernel
theorem dL_law_829 : decode cL_law 829 = .ok (.iadd, 1) := by decide +kernel
theorem dL_law_830 : decode cL_law 830 = .ok (.iaload, 1) := by decide +kernel
theorem dL_law_831 : decode cL_law 831 = .ok (.invokevirtual 110, 3) := by decide +kernel
theorem dL_law_834 : decode cL_law 834 = .ok (.if_icmp .eq 117, 3) := by decide +kernel
theorem dL_law_837 : decode cL_law 837 = .ok (.iconst 0, 1) := by decide +kernel
theorem dL_law_838 : decode cL_law 838 = .ok (.ireturn, 1) := by decide +kernel
theorem dL_law_839 : decode cL_law 839 = .ok (.aload_n 1, 1) := by decide +kernel
theorem dL_law_840 : decode cL_law 840 = .ok (.aload_n 0, 1) := by decide +kernel
theorem dL_law_841 : decode cL_law 841 = .ok (.iload_n 3, 1) := by decide +kernel
theorem dL_law_842 : decode cL_law 842 = .ok (.iconst 1, 1) := by decide +kernel
theorem dL_law_843 : decode cL_law 843 = .ok (.iadd, 1) := by decide +kernel
theorem dL_law_844 : decode cL_law 844 = .ok (.iaload, 1) := by decide +kernel
theorem dL_law_845 : decode cL_law 845 = .ok (.aload_n 0, 1) := by decide +kernel
theorem dL_law_846 : decode cL_law 846 = .ok (.iload_n 3, 1) := by decide +kernel
theorem dL_law_847 : decode cL_law 847 = .ok (.iconst 2, 1) := by decide +kernel
theorem dL_law_848 : decode cL_law 848 = .ok (.iadd, 1) := by decide +kernel
theorem dL_law_849 : decode cL_law 849 = .ok (.iaload, 1) := by decide +kernel
theorem dL_law_850 : decode cL_law 850 = .ok (.aload_n 0, 1) := by decide +kernel
theorem dL_law_851 : decode cL_law 851 = .ok (.iload_n 3, 1) := by decide +kernel
theorem dL_law_852 : decode cL_law 852 = .ok (.iconst 3, 1) := by decide +kernel
theorem dL_law_853 : decode cL_law 853 = .ok (.iadd, 1) := by decide +kernel
theorem dL_law_854 : decode cL_law 854 = .ok (.iaload, 1) := by decide +kernel
theorem dL_law_855 : decode cL_law 855 = .ok (.invokevirtual 111, 3) := by decide +kernel
theorem dL_law_858 : decode cL_law 858 = .ok (.aload_n 2, 1) := by decide +kernel
theorem dL_law_859 : decode cL_law 859 = .ok (.aload_n 0, 1) := by decide +kernel
theorem dL_law_860 : decode cL_law 860 = .ok (.iload_n 3, 1) := by decide +kernel
theorem dL_law_861 : decode cL_law 861 = .ok (.iconst 1, 1) := by decide +kernel
theorem dL_law_862 : decode cL_law 862 = .ok (.iadd, 1) := by decide +kernel
theorem dL_law_863 : decode cL_law 863 = .ok (.iaload, 1) := by decide +kernel
theorem dL_law_864 : decode cL_law 864 = .ok (.aload_n 0, 1) := by decide +kernel
theorem dL_law_865 : decode cL_law 865 = .ok (.iload_n 3, 1) := by decide +kernel
theorem dL_law_866 : decode cL_law 866 = .ok (.iconst 2, 1) := by decide +kernel
theorem dL_law_867 : decode cL_law 867 = .ok (.iadd, 1) := by decide +kernel
theorem dL_law_868 : decode cL_law 868 = .ok (.iaload, 1) := by decide +kernel
theorem dL_law_869 : decode cL_law 869 = .ok (.aload_n 0, 1) := by decide +kernel
theorem dL_law_870 : decode cL_law 870 = .ok (.iload_n 3, 1) := by decide +kernel
theorem dL_law_871 : decode cL_law 871 = .ok (.iconst 3, 1) := by decide +kernel
theorem dL_law_872 : decode cL_law 872 = .ok (.iadd, 1) := by decide +kernel
theorem dL_law_873 : decode cL_law 873 = .ok (.iaload, 1) := by decide +kernel
theorem dL_law_874 : decode cL_law 874 = .ok (.invokevirtual 115, 3) := by decide +kernel
theorem dL_law_877 : decode cL_law 877 = .ok (.if_icmp .eq 74, 3) := by decide +kernel
theorem dL_law_880 : decode cL_law 880 = .ok (.iconst 0, 1) := by decide +kernel
theorem dL_law_881 : decode cL_law 881 = .ok (.ireturn, 1) := by decide +kernel
theorem dL_law_882 : decode cL_law 882 = .ok (.aload_n 1, 1) := by decide +kernel
theorem dL_law_883 : decode cL_law 883 = .ok (.aload_n 0, 1) := by decide +kernel
theorem dL_law_884 : decode cL_law 884 = .ok (.iload_n 3, 1) := by decide +kernel
theorem dL_law_885 : decode cL_law 885 = .ok (.iconst 1, 1) := by decide +kernel
theorem dL_law_886 : decode cL_law 886 = .ok (.iadd, 1) := by decide +kernel
theorem dL_law_887 : decode cL_law 887 = .ok (.iaload, 1) := by decide +kernel
theorem dL_law_888 : decode cL_law 888 = .ok (.invokevirtual 116, 3) := by decide +kernel
theorem dL_law_891 : decode cL_law 891 = .ok (.aload_n 2, 1) := by decide +kernel
theorem dL_law_892 : decode cL_law 892 = .ok (.aload_n 0, 1) := by decide +kernel
theorem dL_law_893 : decode cL_law 893 = .ok (.iload_n 3, 1) := by decide +kernel
theorem dL_law_894 : decode cL_law 894 = .ok (.iconst 1, 1) := by decide +kernel
theorem dL_law_895 : decode cL_law 895 = .ok (.iadd, 1) := by decide +kernel
theorem dL_law_896 : decode cL_law 896 = .ok (.iaload, 1) := by decide +kernel
theorem dL_law_897 : decode cL_law 897 = .ok (.invokevirtual 119, 3) := by decide +kernel
theorem dL_law_900 : decode cL_law 900 = .ok (.if_icmp .eq 51, 3) := by decide +kernel
theorem dL_law_903 : decode cL_law 903 = .ok (.iconst 0, 1) := by decide +kernel
theorem dL_law_904 : decode cL_law 904 = .ok (.ireturn, 1) := by decide +kernel
theorem dL_law_905 : decode cL_law 905 = .ok (.aload_n 1, 1) := by decide +kernel
theorem dL_law_906 : decode cL_law 906 = .ok (.aload_n 0, 1) := by decide +kernel
theorem dL_law_907 : decode cL_law 907 = .ok (.iload_n 3, 1) := by decide +kernel
theorem dL_law_908 : decode cL_law 908 = .ok (.iconst 1, 1) := by decide +kernel
theorem dL_law_909 : decode cL_law 909 = .ok (.iadd, 1) := by decide +kernel
theorem dL_law_910 : decode cL_law 910 = .ok (.iaload, 1) := by decide +kernel
theorem dL_law_911 : decode cL_law 911 = .ok (.invokevirtual 120, 3) := by decide +kernel
theorem dL_law_914 : decode cL_law 914 = .ok (.aload_n 2, 1) := by decide +kernel
theorem dL_law_915 : decode cL_law 915 = .ok (.aload_n 0, 1) := by decide +kernel
theorem dL_law_916 : decode cL_law 916 = .ok (.iload_n 3, 1) := by decide +kernel
theorem dL_law_917 : decode cL_law 917 = .ok (.iconst 1, 1) := by decide +kernel
theorem dL_law_918 : decode cL_law 918 = .ok (.iadd, 1) := by decide +kernel
theorem dL_law_919 : decode cL_law 919 = .ok (.iaload, 1) := by decide +kernel
theorem dL_law_920 : decode cL_law 920 = .ok (.invokevirtual 123, 3) := by decide +kernel
theorem dL_law_923 : decode cL_law 923 = .ok (.if_icmp .eq 28, 3) := by decide +kernel
theorem dL_law_926 : decode cL_law 926 = .ok (.iconst 0, 1) := by decide +kernel
theorem dL_law_927 : decode cL_law 927 = .ok (.ireturn, 1) := by decide +kernel
theorem dL_law_928 : decode cL_law 928 = .ok (.aload_n 1, 1) := by decide +kernel
theorem dL_law_929 : decode cL_law 929 = .ok (.aload_n 0, 1) := by decide +kernel
theorem dL_law_930 : decode cL_law 930 = .ok (.iload_n 3, 1) := by decide +kernel
theorem dL_law_931 : decode cL_law 931 = .ok (.iconst 1, 1) := by decide +kernel
theorem dL_law_932 : decode cL_law 932 = .ok (.iadd, 1) := by decide +kernel
theorem dL_law_933 : decode cL_law 933 = .ok (.iaload, 1) := by decide +kernel
theorem dL_law_934 : decode cL_law 934 = .ok (.invokevirtual 124, 3) := by decide +kernel
theorem dL_law_937 : decode cL_law 937 = .ok (.aload_n 2, 1) := by decide +kernel
theorem dL_law_938 : decode cL_law 938 = .ok (.aload_n 0, 1) := by decide +kernel
theorem dL_law_939 : decode cL_law 939 = .ok (.iload_n 3, 1) := by decide +kernel
theorem dL_law_940 : decode cL_law 940 = .ok (.iconst 1, 1) := by decide +kernel
theorem dL_law_941 : decode cL_law 941 = .ok (.iadd, 1) := by decide +kernel
theorem dL_law_942 : decode cL_law 942 = .ok (.iaload, 1) := by decide +kernel
theorem dL_law_943 : decode cL_law 943 = .ok (.invokevirtual 127, 3) := by decide +kernel
theorem dL_law_946 : decode cL_law 946 = .ok (.if_icmp .eq 5, 3) := by decide +kernel
theorem dL_law_949 : decode cL_law 949 = .ok (.iconst 0, 1) := by decide +kernel
theorem dL_law_950 : decode cL_law 950 = .ok (.ireturn, 1) := by decide +kernel
theorem dL_law_951 : decode cL_law 951 = .ok (.iinc 3 7, 3) := by decide +kernel
theorem dL_law_954 : decode cL_law 954 = .ok (.goto (-936), 3) := by decide +kernel
theorem dL_law_957 : decode cL_law 957 = .ok (.iconst 1, 1) := by decide +kernel
theorem dL_law_958 : decode cL_law 958 = .ok (.ireturn, 1) := by decide +kernel
end
