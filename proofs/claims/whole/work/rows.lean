section
-- ===== PART A: goes FIRST, ahead of the names: the tables' words, and 'selects' of the private methods out of them =====
/-- a private method of a class that the tables say can be made, by its rows of tables_1 -/
def lw_okq (q : MethodName × Nat) : Prop := (q.1.cls ≠ "java/lang/invoke/MethodHandle" ∧ q.1.cls ≠ "java/lang/invoke/VarHandle") ∧ Cond.instantiable q.1.cls q.2 ∈ tables_1 ∧ Cond.privateMethod q.1 ∈ tables_1 ∧ Cond.instanceMethod q.1 ∈ tables_1
theorem lw_p0 : lw_okq (⟨"FlakePost$SpoonTable", "winningTake", "(II)I"⟩, 1) := ⟨⟨by decide +kernel, by decide +kernel⟩, List.mem_of_getElem? (i := 170) (by decide +kernel), List.mem_of_getElem? (i := 176) (by decide +kernel), List.mem_of_getElem? (i := 177) (by decide +kernel)⟩
theorem lw_p1 : lw_okq (⟨"FlakePost$Yard", "putFlake", "(IIIII)V"⟩, 13) := ⟨⟨by decide +kernel, by decide +kernel⟩, List.mem_of_getElem? (i := 24) (by decide +kernel), List.mem_of_getElem? (i := 219) (by decide +kernel), List.mem_of_getElem? (i := 220) (by decide +kernel)⟩
theorem lw_p2 : lw_okq (⟨"FlakePost$Yard", "has", "(I)Z"⟩, 13) := ⟨⟨by decide +kernel, by decide +kernel⟩, List.mem_of_getElem? (i := 24) (by decide +kernel), List.mem_of_getElem? (i := 233) (by decide +kernel), List.mem_of_getElem? (i := 234) (by decide +kernel)⟩
theorem lw_p3 : lw_okq (⟨"FlakePost$Yard", "removeFlake", "(I)V"⟩, 13) := ⟨⟨by decide +kernel, by decide +kernel⟩, List.mem_of_getElem? (i := 24) (by decide +kernel), List.mem_of_getElem? (i := 239) (by decide +kernel), List.mem_of_getElem? (i := 240) (by decide +kernel)⟩
theorem lw_p4 : lw_okq (⟨"FlakePost$Pad", "add", "(I)Z"⟩, 5) := ⟨⟨by decide +kernel, by decide +kernel⟩, List.mem_of_getElem? (i := 89) (by decide +kernel), List.mem_of_getElem? (i := 255) (by decide +kernel), List.mem_of_getElem? (i := 256) (by decide +kernel)⟩
theorem lw_p5 : lw_okq (⟨"FlakePost$Pad", "readActs", "()I"⟩, 5) := ⟨⟨by decide +kernel, by decide +kernel⟩, List.mem_of_getElem? (i := 89) (by decide +kernel), List.mem_of_getElem? (i := 267) (by decide +kernel), List.mem_of_getElem? (i := 268) (by decide +kernel)⟩
theorem lw_p6 : lw_okq (⟨"FlakePost", "refusalOfDays", "()I"⟩, 8) := ⟨⟨by decide +kernel, by decide +kernel⟩, List.mem_of_getElem? (i := 16) (by decide +kernel), List.mem_of_getElem? (i := 284) (by decide +kernel), List.mem_of_getElem? (i := 285) (by decide +kernel)⟩
theorem lw_p7 : lw_okq (⟨"FlakePost$Day", "live", "(LFlakePost$Yard;LFlakePost$Pad;)V"⟩, 5) := ⟨⟨by decide +kernel, by decide +kernel⟩, List.mem_of_getElem? (i := 116) (by decide +kernel), List.mem_of_getElem? (i := 288) (by decide +kernel), List.mem_of_getElem? (i := 289) (by decide +kernel)⟩
theorem lw_p8 : lw_okq (⟨"FlakePost$Day", "begin", "(LFlakePost$Yard;)V"⟩, 5) := ⟨⟨by decide +kernel, by decide +kernel⟩, List.mem_of_getElem? (i := 116) (by decide +kernel), List.mem_of_getElem? (i := 292) (by decide +kernel), List.mem_of_getElem? (i := 293) (by decide +kernel)⟩
theorem lw_p9 : lw_okq (⟨"FlakePost$Yard", "copy", "(LFlakePost$Yard;)V"⟩, 13) := ⟨⟨by decide +kernel, by decide +kernel⟩, List.mem_of_getElem? (i := 24) (by decide +kernel), List.mem_of_getElem? (i := 296) (by decide +kernel), List.mem_of_getElem? (i := 297) (by decide +kernel)⟩
theorem lw_p10 : lw_okq (⟨"FlakePost$Yard", "down", "()I"⟩, 13) := ⟨⟨by decide +kernel, by decide +kernel⟩, List.mem_of_getElem? (i := 24) (by decide +kernel), List.mem_of_getElem? (i := 303) (by decide +kernel), List.mem_of_getElem? (i := 304) (by decide +kernel)⟩
theorem lw_p11 : lw_okq (⟨"FlakePost$Yard", "falling", "()I"⟩, 13) := ⟨⟨by decide +kernel, by decide +kernel⟩, List.mem_of_getElem? (i := 24) (by decide +kernel), List.mem_of_getElem? (i := 307) (by decide +kernel), List.mem_of_getElem? (i := 308) (by decide +kernel)⟩
theorem lw_p12 : lw_okq (⟨"FlakePost$Yard", "inRiver", "()I"⟩, 13) := ⟨⟨by decide +kernel, by decide +kernel⟩, List.mem_of_getElem? (i := 24) (by decide +kernel), List.mem_of_getElem? (i := 311) (by decide +kernel), List.mem_of_getElem? (i := 312) (by decide +kernel)⟩
theorem lw_p13 : lw_okq (⟨"FlakePost$Yard", "whyNot", "(II)I"⟩, 13) := ⟨⟨by decide +kernel, by decide +kernel⟩, List.mem_of_getElem? (i := 24) (by decide +kernel), List.mem_of_getElem? (i := 315) (by decide +kernel), List.mem_of_getElem? (i := 316) (by decide +kernel)⟩
theorem lw_p14 : lw_okq (⟨"FlakePost$Yard", "delivered", "()I"⟩, 13) := ⟨⟨by decide +kernel, by decide +kernel⟩, List.mem_of_getElem? (i := 24) (by decide +kernel), List.mem_of_getElem? (i := 319) (by decide +kernel), List.mem_of_getElem? (i := 320) (by decide +kernel)⟩
theorem lw_p15 : lw_okq (⟨"FlakePost$Yard", "carryOut", "(II)V"⟩, 13) := ⟨⟨by decide +kernel, by decide +kernel⟩, List.mem_of_getElem? (i := 24) (by decide +kernel), List.mem_of_getElem? (i := 323) (by decide +kernel), List.mem_of_getElem? (i := 324) (by decide +kernel)⟩
def lw_privs_1 : List (MethodName × Nat) := [(⟨"FlakePost$SpoonTable", "winningTake", "(II)I"⟩, 1), (⟨"FlakePost$Yard", "putFlake", "(IIIII)V"⟩, 13), (⟨"FlakePost$Yard", "has", "(I)Z"⟩, 13), (⟨"FlakePost$Yard", "removeFlake", "(I)V"⟩, 13), (⟨"FlakePost$Pad", "add", "(I)Z"⟩, 5), (⟨"FlakePost$Pad", "readActs", "()I"⟩, 5), (⟨"FlakePost", "refusalOfDays", "()I"⟩, 8), (⟨"FlakePost$Day", "live", "(LFlakePost$Yard;LFlakePost$Pad;)V"⟩, 5), (⟨"FlakePost$Day", "begin", "(LFlakePost$Yard;)V"⟩, 5), (⟨"FlakePost$Yard", "copy", "(LFlakePost$Yard;)V"⟩, 13), (⟨"FlakePost$Yard", "down", "()I"⟩, 13), (⟨"FlakePost$Yard", "falling", "()I"⟩, 13), (⟨"FlakePost$Yard", "inRiver", "()I"⟩, 13), (⟨"FlakePost$Yard", "whyNot", "(II)I"⟩, 13), (⟨"FlakePost$Yard", "delivered", "()I"⟩, 13), (⟨"FlakePost$Yard", "carryOut", "(II)V"⟩, 13)]
theorem lw_r1 : ∀ q ∈ lw_privs_1, lw_okq q := List.forall_mem_cons.mpr ⟨lw_p0, List.forall_mem_cons.mpr ⟨lw_p1, List.forall_mem_cons.mpr ⟨lw_p2, List.forall_mem_cons.mpr ⟨lw_p3, List.forall_mem_cons.mpr ⟨lw_p4, List.forall_mem_cons.mpr ⟨lw_p5, List.forall_mem_cons.mpr ⟨lw_p6, List.forall_mem_cons.mpr ⟨lw_p7, List.forall_mem_cons.mpr ⟨lw_p8, List.forall_mem_cons.mpr ⟨lw_p9, List.forall_mem_cons.mpr ⟨lw_p10, List.forall_mem_cons.mpr ⟨lw_p11, List.forall_mem_cons.mpr ⟨lw_p12, List.forall_mem_cons.mpr ⟨lw_p13, List.forall_mem_cons.mpr ⟨lw_p14, List.forall_mem_cons.mpr ⟨lw_p15, fun _ h => absurd h List.not_mem_nil⟩⟩⟩⟩⟩⟩⟩⟩⟩⟩⟩⟩⟩⟩⟩⟩
theorem lw_p16 : lw_okq (⟨"FlakePost$Yard", "growAll", "(I)V"⟩, 13) := ⟨⟨by decide +kernel, by decide +kernel⟩, List.mem_of_getElem? (i := 24) (by decide +kernel), List.mem_of_getElem? (i := 327) (by decide +kernel), List.mem_of_getElem? (i := 328) (by decide +kernel)⟩
theorem lw_p17 : lw_okq (⟨"FlakePost$Yard", "blowAll", "(I)V"⟩, 13) := ⟨⟨by decide +kernel, by decide +kernel⟩, List.mem_of_getElem? (i := 24) (by decide +kernel), List.mem_of_getElem? (i := 338) (by decide +kernel), List.mem_of_getElem? (i := 339) (by decide +kernel)⟩
theorem lw_p18 : lw_okq (⟨"FlakePost$Yard", "blow", "(II)V"⟩, 13) := ⟨⟨by decide +kernel, by decide +kernel⟩, List.mem_of_getElem? (i := 24) (by decide +kernel), List.mem_of_getElem? (i := 342) (by decide +kernel), List.mem_of_getElem? (i := 343) (by decide +kernel)⟩
theorem lw_p19 : lw_okq (⟨"FlakePost$Yard", "lowerAll", "()V"⟩, 13) := ⟨⟨by decide +kernel, by decide +kernel⟩, List.mem_of_getElem? (i := 24) (by decide +kernel), List.mem_of_getElem? (i := 346) (by decide +kernel), List.mem_of_getElem? (i := 347) (by decide +kernel)⟩
theorem lw_p20 : lw_okq (⟨"FlakePost$Yard", "catcherAt", "(I)I"⟩, 13) := ⟨⟨by decide +kernel, by decide +kernel⟩, List.mem_of_getElem? (i := 24) (by decide +kernel), List.mem_of_getElem? (i := 350) (by decide +kernel), List.mem_of_getElem? (i := 351) (by decide +kernel)⟩
theorem lw_p21 : lw_okq (⟨"FlakePost$Day", "cameDown", "()I"⟩, 5) := ⟨⟨by decide +kernel, by decide +kernel⟩, List.mem_of_getElem? (i := 116) (by decide +kernel), List.mem_of_getElem? (i := 354) (by decide +kernel), List.mem_of_getElem? (i := 355) (by decide +kernel)⟩
theorem lw_p22 : lw_okq (⟨"FlakePost$Yard", "flakesWith", "(I)I"⟩, 13) := ⟨⟨by decide +kernel, by decide +kernel⟩, List.mem_of_getElem? (i := 24) (by decide +kernel), List.mem_of_getElem? (i := 368) (by decide +kernel), List.mem_of_getElem? (i := 369) (by decide +kernel)⟩
theorem lw_p23 : lw_okq (⟨"FlakePost$AirSearch", "fewestAirs", "(IIII)I"⟩, 3) := ⟨⟨by decide +kernel, by decide +kernel⟩, List.mem_of_getElem? (i := 144) (by decide +kernel), List.mem_of_getElem? (i := 409) (by decide +kernel), List.mem_of_getElem? (i := 410) (by decide +kernel)⟩
theorem lw_p24 : lw_okq (⟨"FlakePost$AirSearch", "reach", "(II)V"⟩, 3) := ⟨⟨by decide +kernel, by decide +kernel⟩, List.mem_of_getElem? (i := 144) (by decide +kernel), List.mem_of_getElem? (i := 416) (by decide +kernel), List.mem_of_getElem? (i := 417) (by decide +kernel)⟩
theorem lw_p25 : lw_okq (⟨"FlakePost$Yard", "trodden", "()I"⟩, 13) := ⟨⟨by decide +kernel, by decide +kernel⟩, List.mem_of_getElem? (i := 24) (by decide +kernel), List.mem_of_getElem? (i := 449) (by decide +kernel), List.mem_of_getElem? (i := 450) (by decide +kernel)⟩
theorem lw_p26 : lw_okq (⟨"FlakePost$Yard", "addSight", "(II)V"⟩, 13) := ⟨⟨by decide +kernel, by decide +kernel⟩, List.mem_of_getElem? (i := 24) (by decide +kernel), List.mem_of_getElem? (i := 459) (by decide +kernel), List.mem_of_getElem? (i := 460) (by decide +kernel)⟩
theorem lw_p27 : lw_okq (⟨"FlakePost$Yard", "fits", "(I)Z"⟩, 13) := ⟨⟨by decide +kernel, by decide +kernel⟩, List.mem_of_getElem? (i := 24) (by decide +kernel), List.mem_of_getElem? (i := 472) (by decide +kernel), List.mem_of_getElem? (i := 473) (by decide +kernel)⟩
theorem lw_p28 : lw_okq (⟨"FlakePost$Yard", "lawsLeftBy", "(I)I"⟩, 13) := ⟨⟨by decide +kernel, by decide +kernel⟩, List.mem_of_getElem? (i := 24) (by decide +kernel), List.mem_of_getElem? (i := 480) (by decide +kernel), List.mem_of_getElem? (i := 481) (by decide +kernel)⟩
theorem lw_p29 : lw_okq (⟨"FlakePost$GustRow", "fall", "(IIII)V"⟩, 1) := ⟨⟨by decide +kernel, by decide +kernel⟩, List.mem_of_getElem? (i := 160) (by decide +kernel), List.mem_of_getElem? (i := 490) (by decide +kernel), List.mem_of_getElem? (i := 491) (by decide +kernel)⟩
theorem lw_p30 : lw_okq (⟨"FlakePost$GustRow", "chance", "(III)J"⟩, 1) := ⟨⟨by decide +kernel, by decide +kernel⟩, List.mem_of_getElem? (i := 160) (by decide +kernel), List.mem_of_getElem? (i := 495) (by decide +kernel), List.mem_of_getElem? (i := 496) (by decide +kernel)⟩
theorem lw_p31 : lw_okq (⟨"FlakePost$GustRow", "all", "()I"⟩, 1) := ⟨⟨by decide +kernel, by decide +kernel⟩, List.mem_of_getElem? (i := 160) (by decide +kernel), List.mem_of_getElem? (i := 499) (by decide +kernel), List.mem_of_getElem? (i := 500) (by decide +kernel)⟩
def lw_privs_2 : List (MethodName × Nat) := [(⟨"FlakePost$Yard", "growAll", "(I)V"⟩, 13), (⟨"FlakePost$Yard", "blowAll", "(I)V"⟩, 13), (⟨"FlakePost$Yard", "blow", "(II)V"⟩, 13), (⟨"FlakePost$Yard", "lowerAll", "()V"⟩, 13), (⟨"FlakePost$Yard", "catcherAt", "(I)I"⟩, 13), (⟨"FlakePost$Day", "cameDown", "()I"⟩, 5), (⟨"FlakePost$Yard", "flakesWith", "(I)I"⟩, 13), (⟨"FlakePost$AirSearch", "fewestAirs", "(IIII)I"⟩, 3), (⟨"FlakePost$AirSearch", "reach", "(II)V"⟩, 3), (⟨"FlakePost$Yard", "trodden", "()I"⟩, 13), (⟨"FlakePost$Yard", "addSight", "(II)V"⟩, 13), (⟨"FlakePost$Yard", "fits", "(I)Z"⟩, 13), (⟨"FlakePost$Yard", "lawsLeftBy", "(I)I"⟩, 13), (⟨"FlakePost$GustRow", "fall", "(IIII)V"⟩, 1), (⟨"FlakePost$GustRow", "chance", "(III)J"⟩, 1), (⟨"FlakePost$GustRow", "all", "()I"⟩, 1)]
theorem lw_r2 : ∀ q ∈ lw_privs_2, lw_okq q := List.forall_mem_cons.mpr ⟨lw_p16, List.forall_mem_cons.mpr ⟨lw_p17, List.forall_mem_cons.mpr ⟨lw_p18, List.forall_mem_cons.mpr ⟨lw_p19, List.forall_mem_cons.mpr ⟨lw_p20, List.forall_mem_cons.mpr ⟨lw_p21, List.forall_mem_cons.mpr ⟨lw_p22, List.forall_mem_cons.mpr ⟨lw_p23, List.forall_mem_cons.mpr ⟨lw_p24, List.forall_mem_cons.mpr ⟨lw_p25, List.forall_mem_cons.mpr ⟨lw_p26, List.forall_mem_cons.mpr ⟨lw_p27, List.forall_mem_cons.mpr ⟨lw_p28, List.forall_mem_cons.mpr ⟨lw_p29, List.forall_mem_cons.mpr ⟨lw_p30, List.forall_mem_cons.mpr ⟨lw_p31, fun _ h => absurd h List.not_mem_nil⟩⟩⟩⟩⟩⟩⟩⟩⟩⟩⟩⟩⟩⟩⟩⟩
theorem lw_p32 : lw_okq (⟨"FlakePost$Day", "dreamYear", "(LFlakePost$Yard;II)V"⟩, 5) := ⟨⟨by decide +kernel, by decide +kernel⟩, List.mem_of_getElem? (i := 116) (by decide +kernel), List.mem_of_getElem? (i := 512) (by decide +kernel), List.mem_of_getElem? (i := 513) (by decide +kernel)⟩
theorem lw_p33 : lw_okq (⟨"FlakePost", "toldOfOne", "(II)I"⟩, 8) := ⟨⟨by decide +kernel, by decide +kernel⟩, List.mem_of_getElem? (i := 16) (by decide +kernel), List.mem_of_getElem? (i := 530) (by decide +kernel), List.mem_of_getElem? (i := 531) (by decide +kernel)⟩
theorem lw_p34 : lw_okq (⟨"FlakePost", "toldOfFlake", "(II)I"⟩, 8) := ⟨⟨by decide +kernel, by decide +kernel⟩, List.mem_of_getElem? (i := 16) (by decide +kernel), List.mem_of_getElem? (i := 534) (by decide +kernel), List.mem_of_getElem? (i := 535) (by decide +kernel)⟩
theorem lw_p35 : lw_okq (⟨"FlakePostModel", "isFlake", "(I)Z"⟩, 35) := ⟨⟨by decide +kernel, by decide +kernel⟩, List.mem_of_getElem? (i := 538) (by decide +kernel), List.mem_of_getElem? (i := 677) (by decide +kernel), List.mem_of_getElem? (i := 678) (by decide +kernel)⟩
theorem lw_p36 : lw_okq (⟨"FlakePostModel", "readOn", "(II)I"⟩, 35) := ⟨⟨by decide +kernel, by decide +kernel⟩, List.mem_of_getElem? (i := 538) (by decide +kernel), List.mem_of_getElem? (i := 703) (by decide +kernel), List.mem_of_getElem? (i := 704) (by decide +kernel)⟩
theorem lw_p37 : lw_okq (⟨"FlakePostModel", "close", "(I)I"⟩, 35) := ⟨⟨by decide +kernel, by decide +kernel⟩, List.mem_of_getElem? (i := 538) (by decide +kernel), List.mem_of_getElem? (i := 707) (by decide +kernel), List.mem_of_getElem? (i := 708) (by decide +kernel)⟩
theorem lw_p38 : lw_okq (⟨"FlakePostModel", "refusal", "()I"⟩, 35) := ⟨⟨by decide +kernel, by decide +kernel⟩, List.mem_of_getElem? (i := 538) (by decide +kernel), List.mem_of_getElem? (i := 718) (by decide +kernel), List.mem_of_getElem? (i := 719) (by decide +kernel)⟩
theorem lw_p39 : lw_okq (⟨"FlakePostModel", "keepNow", "()V"⟩, 35) := ⟨⟨by decide +kernel, by decide +kernel⟩, List.mem_of_getElem? (i := 538) (by decide +kernel), List.mem_of_getElem? (i := 722) (by decide +kernel), List.mem_of_getElem? (i := 723) (by decide +kernel)⟩
theorem lw_p40 : lw_okq (⟨"FlakePostModel", "goDays", "()V"⟩, 35) := ⟨⟨by decide +kernel, by decide +kernel⟩, List.mem_of_getElem? (i := 538) (by decide +kernel), List.mem_of_getElem? (i := 727) (by decide +kernel), List.mem_of_getElem? (i := 728) (by decide +kernel)⟩
theorem lw_p41 : lw_okq (⟨"FlakePostModel", "whyNot", "(II)I"⟩, 35) := ⟨⟨by decide +kernel, by decide +kernel⟩, List.mem_of_getElem? (i := 538) (by decide +kernel), List.mem_of_getElem? (i := 731) (by decide +kernel), List.mem_of_getElem? (i := 732) (by decide +kernel)⟩
theorem lw_p42 : lw_okq (⟨"FlakePostModel", "aboveMany", "()I"⟩, 35) := ⟨⟨by decide +kernel, by decide +kernel⟩, List.mem_of_getElem? (i := 538) (by decide +kernel), List.mem_of_getElem? (i := 735) (by decide +kernel), List.mem_of_getElem? (i := 736) (by decide +kernel)⟩
theorem lw_p43 : lw_okq (⟨"FlakePostModel", "isAbove", "(I)Z"⟩, 35) := ⟨⟨by decide +kernel, by decide +kernel⟩, List.mem_of_getElem? (i := 538) (by decide +kernel), List.mem_of_getElem? (i := 739) (by decide +kernel), List.mem_of_getElem? (i := 740) (by decide +kernel)⟩
theorem lw_p44 : lw_okq (⟨"FlakePostModel", "happen", "(II)V"⟩, 35) := ⟨⟨by decide +kernel, by decide +kernel⟩, List.mem_of_getElem? (i := 538) (by decide +kernel), List.mem_of_getElem? (i := 743) (by decide +kernel), List.mem_of_getElem? (i := 744) (by decide +kernel)⟩
theorem lw_p45 : lw_okq (⟨"FlakePostModel", "grow", "(I)V"⟩, 35) := ⟨⟨by decide +kernel, by decide +kernel⟩, List.mem_of_getElem? (i := 538) (by decide +kernel), List.mem_of_getElem? (i := 747) (by decide +kernel), List.mem_of_getElem? (i := 748) (by decide +kernel)⟩
theorem lw_p46 : lw_okq (⟨"FlakePostModel", "blow", "(I)V"⟩, 35) := ⟨⟨by decide +kernel, by decide +kernel⟩, List.mem_of_getElem? (i := 538) (by decide +kernel), List.mem_of_getElem? (i := 754) (by decide +kernel), List.mem_of_getElem? (i := 755) (by decide +kernel)⟩
theorem lw_p47 : lw_okq (⟨"FlakePostModel", "blowOne", "(II)V"⟩, 35) := ⟨⟨by decide +kernel, by decide +kernel⟩, List.mem_of_getElem? (i := 538) (by decide +kernel), List.mem_of_getElem? (i := 758) (by decide +kernel), List.mem_of_getElem? (i := 759) (by decide +kernel)⟩
def lw_privs_3 : List (MethodName × Nat) := [(⟨"FlakePost$Day", "dreamYear", "(LFlakePost$Yard;II)V"⟩, 5), (⟨"FlakePost", "toldOfOne", "(II)I"⟩, 8), (⟨"FlakePost", "toldOfFlake", "(II)I"⟩, 8), (⟨"FlakePostModel", "isFlake", "(I)Z"⟩, 35), (⟨"FlakePostModel", "readOn", "(II)I"⟩, 35), (⟨"FlakePostModel", "close", "(I)I"⟩, 35), (⟨"FlakePostModel", "refusal", "()I"⟩, 35), (⟨"FlakePostModel", "keepNow", "()V"⟩, 35), (⟨"FlakePostModel", "goDays", "()V"⟩, 35), (⟨"FlakePostModel", "whyNot", "(II)I"⟩, 35), (⟨"FlakePostModel", "aboveMany", "()I"⟩, 35), (⟨"FlakePostModel", "isAbove", "(I)Z"⟩, 35), (⟨"FlakePostModel", "happen", "(II)V"⟩, 35), (⟨"FlakePostModel", "grow", "(I)V"⟩, 35), (⟨"FlakePostModel", "blow", "(I)V"⟩, 35), (⟨"FlakePostModel", "blowOne", "(II)V"⟩, 35)]
theorem lw_r3 : ∀ q ∈ lw_privs_3, lw_okq q := List.forall_mem_cons.mpr ⟨lw_p32, List.forall_mem_cons.mpr ⟨lw_p33, List.forall_mem_cons.mpr ⟨lw_p34, List.forall_mem_cons.mpr ⟨lw_p35, List.forall_mem_cons.mpr ⟨lw_p36, List.forall_mem_cons.mpr ⟨lw_p37, List.forall_mem_cons.mpr ⟨lw_p38, List.forall_mem_cons.mpr ⟨lw_p39, List.forall_mem_cons.mpr ⟨lw_p40, List.forall_mem_cons.mpr ⟨lw_p41, List.forall_mem_cons.mpr ⟨lw_p42, List.forall_mem_cons.mpr ⟨lw_p43, List.forall_mem_cons.mpr ⟨lw_p44, List.forall_mem_cons.mpr ⟨lw_p45, List.forall_mem_cons.mpr ⟨lw_p46, List.forall_mem_cons.mpr ⟨lw_p47, fun _ h => absurd h List.not_mem_nil⟩⟩⟩⟩⟩⟩⟩⟩⟩⟩⟩⟩⟩⟩⟩⟩
theorem lw_p48 : lw_okq (⟨"FlakePostModel", "fall", "()V"⟩, 35) := ⟨⟨by decide +kernel, by decide +kernel⟩, List.mem_of_getElem? (i := 538) (by decide +kernel), List.mem_of_getElem? (i := 762) (by decide +kernel), List.mem_of_getElem? (i := 763) (by decide +kernel)⟩
theorem lw_p49 : lw_okq (⟨"FlakePostModel", "comeDown", "(I)V"⟩, 35) := ⟨⟨by decide +kernel, by decide +kernel⟩, List.mem_of_getElem? (i := 538) (by decide +kernel), List.mem_of_getElem? (i := 766) (by decide +kernel), List.mem_of_getElem? (i := 767) (by decide +kernel)⟩
theorem lw_p50 : lw_okq (⟨"FlakePostModel", "back", "(I)I"⟩, 35) := ⟨⟨by decide +kernel, by decide +kernel⟩, List.mem_of_getElem? (i := 538) (by decide +kernel), List.mem_of_getElem? (i := 770) (by decide +kernel), List.mem_of_getElem? (i := 771) (by decide +kernel)⟩
theorem lw_p51 : lw_okq (⟨"FlakePostModel", "ofFlake", "(II)I"⟩, 35) := ⟨⟨by decide +kernel, by decide +kernel⟩, List.mem_of_getElem? (i := 538) (by decide +kernel), List.mem_of_getElem? (i := 779) (by decide +kernel), List.mem_of_getElem? (i := 780) (by decide +kernel)⟩
theorem lw_p52 : lw_okq (⟨"FlakePostModel", "flakesOf", "(I)I"⟩, 35) := ⟨⟨by decide +kernel, by decide +kernel⟩, List.mem_of_getElem? (i := 538) (by decide +kernel), List.mem_of_getElem? (i := 787) (by decide +kernel), List.mem_of_getElem? (i := 788) (by decide +kernel)⟩
theorem lw_p53 : lw_okq (⟨"FlakePostModel", "postedNow", "()I"⟩, 35) := ⟨⟨by decide +kernel, by decide +kernel⟩, List.mem_of_getElem? (i := 538) (by decide +kernel), List.mem_of_getElem? (i := 795) (by decide +kernel), List.mem_of_getElem? (i := 796) (by decide +kernel)⟩
theorem lw_p54 : lw_okq (⟨"FlakePostModel", "riverNow", "()I"⟩, 35) := ⟨⟨by decide +kernel, by decide +kernel⟩, List.mem_of_getElem? (i := 538) (by decide +kernel), List.mem_of_getElem? (i := 799) (by decide +kernel), List.mem_of_getElem? (i := 800) (by decide +kernel)⟩
theorem lw_p55 : lw_okq (⟨"FlakePostModel", "findWays", "(II)V"⟩, 35) := ⟨⟨by decide +kernel, by decide +kernel⟩, List.mem_of_getElem? (i := 538) (by decide +kernel), List.mem_of_getElem? (i := 817) (by decide +kernel), List.mem_of_getElem? (i := 818) (by decide +kernel)⟩
theorem lw_p56 : lw_okq (⟨"FlakePostModel", "firstAirs", "(II)J"⟩, 35) := ⟨⟨by decide +kernel, by decide +kernel⟩, List.mem_of_getElem? (i := 538) (by decide +kernel), List.mem_of_getElem? (i := 822) (by decide +kernel), List.mem_of_getElem? (i := 823) (by decide +kernel)⟩
theorem lw_p57 : lw_okq (⟨"FlakePostModel", "findOff", "(I)Z"⟩, 35) := ⟨⟨by decide +kernel, by decide +kernel⟩, List.mem_of_getElem? (i := 538) (by decide +kernel), List.mem_of_getElem? (i := 830) (by decide +kernel), List.mem_of_getElem? (i := 831) (by decide +kernel)⟩
theorem lw_p58 : lw_okq (⟨"FlakePostModel", "canGetOwn", "(I)Z"⟩, 35) := ⟨⟨by decide +kernel, by decide +kernel⟩, List.mem_of_getElem? (i := 538) (by decide +kernel), List.mem_of_getElem? (i := 838) (by decide +kernel), List.mem_of_getElem? (i := 839) (by decide +kernel)⟩
theorem lw_p59 : lw_okq (⟨"FlakePostModel", "canGet", "(II)Z"⟩, 35) := ⟨⟨by decide +kernel, by decide +kernel⟩, List.mem_of_getElem? (i := 538) (by decide +kernel), List.mem_of_getElem? (i := 842) (by decide +kernel), List.mem_of_getElem? (i := 843) (by decide +kernel)⟩
theorem lw_p60 : lw_okq (⟨"FlakePostModel", "addFlake", "(I)V"⟩, 35) := ⟨⟨by decide +kernel, by decide +kernel⟩, List.mem_of_getElem? (i := 538) (by decide +kernel), List.mem_of_getElem? (i := 846) (by decide +kernel), List.mem_of_getElem? (i := 847) (by decide +kernel)⟩
theorem lw_p61 : lw_okq (⟨"FlakePostModel", "isFree", "(I)Z"⟩, 35) := ⟨⟨by decide +kernel, by decide +kernel⟩, List.mem_of_getElem? (i := 538) (by decide +kernel), List.mem_of_getElem? (i := 854) (by decide +kernel), List.mem_of_getElem? (i := 855) (by decide +kernel)⟩
theorem lw_p62 : lw_okq (⟨"FlakePostModel", "fits", "(I)Z"⟩, 35) := ⟨⟨by decide +kernel, by decide +kernel⟩, List.mem_of_getElem? (i := 538) (by decide +kernel), List.mem_of_getElem? (i := 870) (by decide +kernel), List.mem_of_getElem? (i := 871) (by decide +kernel)⟩
theorem lw_p63 : lw_okq (⟨"FlakePostModel", "mostLeft", "(I)I"⟩, 35) := ⟨⟨by decide +kernel, by decide +kernel⟩, List.mem_of_getElem? (i := 538) (by decide +kernel), List.mem_of_getElem? (i := 878) (by decide +kernel), List.mem_of_getElem? (i := 879) (by decide +kernel)⟩
def lw_privs_4 : List (MethodName × Nat) := [(⟨"FlakePostModel", "fall", "()V"⟩, 35), (⟨"FlakePostModel", "comeDown", "(I)V"⟩, 35), (⟨"FlakePostModel", "back", "(I)I"⟩, 35), (⟨"FlakePostModel", "ofFlake", "(II)I"⟩, 35), (⟨"FlakePostModel", "flakesOf", "(I)I"⟩, 35), (⟨"FlakePostModel", "postedNow", "()I"⟩, 35), (⟨"FlakePostModel", "riverNow", "()I"⟩, 35), (⟨"FlakePostModel", "findWays", "(II)V"⟩, 35), (⟨"FlakePostModel", "firstAirs", "(II)J"⟩, 35), (⟨"FlakePostModel", "findOff", "(I)Z"⟩, 35), (⟨"FlakePostModel", "canGetOwn", "(I)Z"⟩, 35), (⟨"FlakePostModel", "canGet", "(II)Z"⟩, 35), (⟨"FlakePostModel", "addFlake", "(I)V"⟩, 35), (⟨"FlakePostModel", "isFree", "(I)Z"⟩, 35), (⟨"FlakePostModel", "fits", "(I)Z"⟩, 35), (⟨"FlakePostModel", "mostLeft", "(I)I"⟩, 35)]
theorem lw_r4 : ∀ q ∈ lw_privs_4, lw_okq q := List.forall_mem_cons.mpr ⟨lw_p48, List.forall_mem_cons.mpr ⟨lw_p49, List.forall_mem_cons.mpr ⟨lw_p50, List.forall_mem_cons.mpr ⟨lw_p51, List.forall_mem_cons.mpr ⟨lw_p52, List.forall_mem_cons.mpr ⟨lw_p53, List.forall_mem_cons.mpr ⟨lw_p54, List.forall_mem_cons.mpr ⟨lw_p55, List.forall_mem_cons.mpr ⟨lw_p56, List.forall_mem_cons.mpr ⟨lw_p57, List.forall_mem_cons.mpr ⟨lw_p58, List.forall_mem_cons.mpr ⟨lw_p59, List.forall_mem_cons.mpr ⟨lw_p60, List.forall_mem_cons.mpr ⟨lw_p61, List.forall_mem_cons.mpr ⟨lw_p62, List.forall_mem_cons.mpr ⟨lw_p63, fun _ h => absurd h List.not_mem_nil⟩⟩⟩⟩⟩⟩⟩⟩⟩⟩⟩⟩⟩⟩⟩⟩
theorem lw_p64 : lw_okq (⟨"FlakePostModel", "gust", "(II)V"⟩, 35) := ⟨⟨by decide +kernel, by decide +kernel⟩, List.mem_of_getElem? (i := 538) (by decide +kernel), List.mem_of_getElem? (i := 892) (by decide +kernel), List.mem_of_getElem? (i := 893) (by decide +kernel)⟩
theorem lw_p65 : lw_okq (⟨"FlakePostModel", "bestTake", "(II)I"⟩, 35) := ⟨⟨by decide +kernel, by decide +kernel⟩, List.mem_of_getElem? (i := 538) (by decide +kernel), List.mem_of_getElem? (i := 904) (by decide +kernel), List.mem_of_getElem? (i := 905) (by decide +kernel)⟩
theorem lw_p66 : lw_okq (⟨"FlakePostModel", "passAll", "()V"⟩, 35) := ⟨⟨by decide +kernel, by decide +kernel⟩, List.mem_of_getElem? (i := 538) (by decide +kernel), List.mem_of_getElem? (i := 921) (by decide +kernel), List.mem_of_getElem? (i := 922) (by decide +kernel)⟩
theorem lw_p67 : lw_okq (⟨"FlakePostModel", "pass", "(I)I"⟩, 35) := ⟨⟨by decide +kernel, by decide +kernel⟩, List.mem_of_getElem? (i := 538) (by decide +kernel), List.mem_of_getElem? (i := 925) (by decide +kernel), List.mem_of_getElem? (i := 926) (by decide +kernel)⟩
theorem lw_p68 : lw_okq (⟨"FlakePostModel", "passRow", "([II)V"⟩, 35) := ⟨⟨by decide +kernel, by decide +kernel⟩, List.mem_of_getElem? (i := 538) (by decide +kernel), List.mem_of_getElem? (i := 929) (by decide +kernel), List.mem_of_getElem? (i := 930) (by decide +kernel)⟩
theorem lw_p69 : lw_okq (⟨"FlakePostModel", "toldOf", "(II)I"⟩, 35) := ⟨⟨by decide +kernel, by decide +kernel⟩, List.mem_of_getElem? (i := 538) (by decide +kernel), List.mem_of_getElem? (i := 944) (by decide +kernel), List.mem_of_getElem? (i := 945) (by decide +kernel)⟩
def lw_privs_5 : List (MethodName × Nat) := [(⟨"FlakePostModel", "gust", "(II)V"⟩, 35), (⟨"FlakePostModel", "bestTake", "(II)I"⟩, 35), (⟨"FlakePostModel", "passAll", "()V"⟩, 35), (⟨"FlakePostModel", "pass", "(I)I"⟩, 35), (⟨"FlakePostModel", "passRow", "([II)V"⟩, 35), (⟨"FlakePostModel", "toldOf", "(II)I"⟩, 35)]
theorem lw_r5 : ∀ q ∈ lw_privs_5, lw_okq q := List.forall_mem_cons.mpr ⟨lw_p64, List.forall_mem_cons.mpr ⟨lw_p65, List.forall_mem_cons.mpr ⟨lw_p66, List.forall_mem_cons.mpr ⟨lw_p67, List.forall_mem_cons.mpr ⟨lw_p68, List.forall_mem_cons.mpr ⟨lw_p69, fun _ h => absurd h List.not_mem_nil⟩⟩⟩⟩⟩⟩
def lw_privs : List (MethodName × Nat) := lw_privs_1 ++ (lw_privs_2 ++ (lw_privs_3 ++ (lw_privs_4 ++ (lw_privs_5))))
def lw_tbl : List Cond := k2_sels lw_privs ++ tables_1
theorem lw_privs_ok : ∀ q ∈ lw_privs, lw_okq q := by
  show ∀ q ∈ lw_privs_1 ++ (lw_privs_2 ++ (lw_privs_3 ++ (lw_privs_4 ++ (lw_privs_5)))), lw_okq q
  exact List.forall_mem_append.mpr ⟨lw_r1, List.forall_mem_append.mpr ⟨lw_r2, List.forall_mem_append.mpr ⟨lw_r3, List.forall_mem_append.mpr ⟨lw_r4, lw_r5⟩⟩⟩⟩
-- ===== end of PART A; then your names; then what follows =====
theorem goodIn_r {big : List Cond} (ws : List Cond) (ps : List Nat) (hp : ws = ps.filterMap (fun i => big[i]?)) (h : ws.all goodWord = true) : GoodIn big ws := by
  intro w hw
  have h1 := List.all_eq_true.mp h w hw
  rw [hp] at hw
  obtain ⟨i, -, hi⟩ := List.mem_filterMap.mp hw
  have hm : w ∈ big := by first | exact List.mem_of_getElem? hi | exact List.getElem?_mem hi
  exact ⟨hm, good_of_word h1⟩
theorem goodIn_app {big a b : List Cond} (ha : GoodIn big a) (hb : GoodIn big b) : GoodIn big (a ++ b) := fun w h => (List.mem_append.mp h).elim (ha w) (hb w)
theorem goodIn_ca {big a b : List Cond} {c : Cond} (ha : GoodIn big (c :: a)) (hb : GoodIn big b) : GoodIn big (c :: (a ++ b)) := fun w h => (List.mem_cons.mp h).elim (fun e => ha w (List.mem_cons.mpr (Or.inl e))) (fun h => (List.mem_append.mp h).elim (fun h => ha w (List.mem_cons.mpr (Or.inr h))) (hb w))
theorem goodIn_sub {big ws : List Cond} (hm : ∀ w ∈ ws, w ∈ big) (h : ws.all goodWord = true) : GoodIn big ws := fun w hw => ⟨hm w hw, good_of_word (List.all_eq_true.mp h w hw)⟩
def RX0 : String := "FlakePost$AirSearch"
def TX0 : u_T := fun k => match k with
  | 0 => ("FlakePost$AirSearch", "airs", "[I", true)
  | 1 => ("FlakePost$AirSearch", "queue", "[I", true)
  | _ => ("FlakePost$AirSearch", "waiting", "I", false)
def tyX0 : Nat → FieldType := fun k => match k with
  | 0 => .array .int
  | 1 => .array .int
  | _ => .int
abbrev wsX00 : List Cond := u_ws RX0 TX0 3
theorem nmX0 : ∀ a, a < 3 → ∀ b, b < 3 → a ≠ b → (TX0 a).2.1 ≠ (TX0 b).2.1 := by decide +kernel
theorem tyX0_ok : ∀ k, k < 3 → parseFieldDescriptor (TX0 k).2.2.1 = some (tyX0 k) := by decide +kernel
abbrev cX0_init : ByteArray := prog_2_method_1_code
def yX0_init : MethodName := ⟨RX0, "<init>", "()V"⟩
abbrev cX0_fewestAirs : ByteArray := prog_2_method_2_code
def yX0_fewestAirs : MethodName := ⟨RX0, "fewestAirs", "(IIII)I"⟩
abbrev cX0_reach : ByteArray := prog_2_method_3_code
def yX0_reach : MethodName := ⟨RX0, "reach", "(II)V"⟩
def RX1 : String := "FlakePost$Catches"
def TX1 : u_T := fun k => match k with
  | _ => ("", "", "", false)
def tyX1 : Nat → FieldType := fun k => match k with
  | _ => .int
abbrev wsX10 : List Cond := u_ws RX1 TX1 0
theorem nmX1 : ∀ a, a < 0 → ∀ b, b < 0 → a ≠ b → (TX1 a).2.1 ≠ (TX1 b).2.1 := by decide +kernel
theorem tyX1_ok : ∀ k, k < 0 → parseFieldDescriptor (TX1 k).2.2.1 = some (tyX1 k) := by decide +kernel
abbrev cX1_canGet : ByteArray := prog_3_method_2_code
def yX1_canGet : MethodName := ⟨RX1, "canGet", "(LFlakePost$Yard;II)Z"⟩
abbrev cX1_byAddressees : ByteArray := prog_3_method_3_code
def yX1_byAddressees : MethodName := ⟨RX1, "byAddressees", "(LFlakePost$Yard;)I"⟩
abbrev cX1_byWhoever : ByteArray := prog_3_method_4_code
def yX1_byWhoever : MethodName := ⟨RX1, "byWhoever", "(LFlakePost$Yard;)I"⟩
abbrev cX1_joinedBy : ByteArray := prog_3_method_5_code
def yX1_joinedBy : MethodName := ⟨RX1, "joinedBy", "(IJ)J"⟩
def RX2 : String := "FlakePost$Day"
def TX2 : u_T := fun k => match k with
  | 0 => ("FlakePost$Day", "after", "LFlakePost$Yard;", true)
  | 1 => ("FlakePost$Day", "badAct", "I", false)
  | 2 => ("FlakePost$Day", "badWhy", "I", false)
  | 3 => ("FlakePost$Day", "firstDelivery", "I", false)
  | _ => ("FlakePost$Day", "downAtFirst", "I", false)
def tyX2 : Nat → FieldType := fun k => match k with
  | 0 => .object "FlakePost$Yard"
  | 1 => .int
  | 2 => .int
  | 3 => .int
  | _ => .int
abbrev wsX20 : List Cond := u_ws RX2 TX2 5
theorem nmX2 : ∀ a, a < 5 → ∀ b, b < 5 → a ≠ b → (TX2 a).2.1 ≠ (TX2 b).2.1 := by decide +kernel
theorem tyX2_ok : ∀ k, k < 5 → parseFieldDescriptor (TX2 k).2.2.1 = some (tyX2 k) := by decide +kernel
abbrev cX2_init : ByteArray := prog_4_method_1_code
def yX2_init : MethodName := ⟨RX2, "<init>", "()V"⟩
abbrev cX2_live : ByteArray := prog_4_method_2_code
def yX2_live : MethodName := ⟨RX2, "live", "(LFlakePost$Yard;LFlakePost$Pad;)V"⟩
abbrev cX2_begin : ByteArray := prog_4_method_3_code
def yX2_begin : MethodName := ⟨RX2, "begin", "(LFlakePost$Yard;)V"⟩
abbrev cX2_cameDown : ByteArray := prog_4_method_4_code
def yX2_cameDown : MethodName := ⟨RX2, "cameDown", "()I"⟩
abbrev cX2_dreamYear : ByteArray := prog_4_method_5_code
def yX2_dreamYear : MethodName := ⟨RX2, "dreamYear", "(LFlakePost$Yard;II)V"⟩
def RX3 : String := "FlakePost$Growth"
def TX3 : u_T := fun k => match k with
  | _ => ("", "", "", false)
def tyX3 : Nat → FieldType := fun k => match k with
  | _ => .int
abbrev wsX30 : List Cond := u_ws RX3 TX3 0
theorem nmX3 : ∀ a, a < 0 → ∀ b, b < 0 → a ≠ b → (TX3 a).2.1 ≠ (TX3 b).2.1 := by decide +kernel
theorem tyX3_ok : ∀ k, k < 0 → parseFieldDescriptor (TX3 k).2.2.1 = some (tyX3 k) := by decide +kernel
abbrev cX3_around : ByteArray := prog_5_method_2_code
def yX3_around : MethodName := ⟨RX3, "around", "(II)I"⟩
abbrev cX3_grown : ByteArray := prog_5_method_3_code
def yX3_grown : MethodName := ⟨RX3, "grown", "(II)I"⟩
abbrev cX3_readAloud : ByteArray := prog_5_method_4_code
def yX3_readAloud : MethodName := ⟨RX3, "readAloud", "(I)I"⟩
abbrev cX3_rows : ByteArray := prog_5_method_5_code
def yX3_rows : MethodName := ⟨RX3, "rows", "(IIIII)I"⟩
abbrev cX3_firstRow : ByteArray := prog_5_method_6_code
def yX3_firstRow : MethodName := ⟨RX3, "firstRow", "(IIIII)J"⟩
def RX4 : String := "FlakePost$GustRow"
def TX4 : u_T := fun k => match k with
  | _ => ("FlakePost$GustRow", "ways", "[I", true)
def tyX4 : Nat → FieldType := fun k => match k with
  | _ => .array .int
abbrev wsX40 : List Cond := u_ws RX4 TX4 1
theorem nmX4 : ∀ a, a < 1 → ∀ b, b < 1 → a ≠ b → (TX4 a).2.1 ≠ (TX4 b).2.1 := by decide +kernel
theorem tyX4_ok : ∀ k, k < 1 → parseFieldDescriptor (TX4 k).2.2.1 = some (tyX4 k) := by decide +kernel
abbrev cX4_init : ByteArray := prog_6_method_1_code
def yX4_init : MethodName := ⟨RX4, "<init>", "()V"⟩
abbrev cX4_fall : ByteArray := prog_6_method_2_code
def yX4_fall : MethodName := ⟨RX4, "fall", "(IIII)V"⟩
abbrev cX4_chance : ByteArray := prog_6_method_3_code
def yX4_chance : MethodName := ⟨RX4, "chance", "(III)J"⟩
abbrev cX4_all : ByteArray := prog_6_method_4_code
def yX4_all : MethodName := ⟨RX4, "all", "()I"⟩
def RX5 : String := "FlakePost$Pad"
def TX5 : u_T := fun k => match k with
  | 0 => ("FlakePost$Pad", "signs", "[I", true)
  | 1 => ("FlakePost$Pad", "count", "I", false)
  | 2 => ("FlakePost$Pad", "kinds", "[I", true)
  | 3 => ("FlakePost$Pad", "ones", "[I", true)
  | _ => ("FlakePost$Pad", "acts", "I", false)
def tyX5 : Nat → FieldType := fun k => match k with
  | 0 => .array .int
  | 1 => .int
  | 2 => .array .int
  | 3 => .array .int
  | _ => .int
abbrev wsX50 : List Cond := u_ws RX5 TX5 5
theorem nmX5 : ∀ a, a < 5 → ∀ b, b < 5 → a ≠ b → (TX5 a).2.1 ≠ (TX5 b).2.1 := by decide +kernel
theorem tyX5_ok : ∀ k, k < 5 → parseFieldDescriptor (TX5 k).2.2.1 = some (tyX5 k) := by decide +kernel
abbrev cX5_init : ByteArray := prog_7_method_1_code
def yX5_init : MethodName := ⟨RX5, "<init>", "()V"⟩
abbrev cX5_add : ByteArray := prog_7_method_2_code
def yX5_add : MethodName := ⟨RX5, "add", "(I)Z"⟩
abbrev cX5_readActs : ByteArray := prog_7_method_3_code
def yX5_readActs : MethodName := ⟨RX5, "readActs", "()I"⟩
abbrev cX5_oneOf : ByteArray := prog_7_method_4_code
def yX5_oneOf : MethodName := ⟨RX5, "oneOf", "(I)I"⟩
abbrev cX5_weatherOf : ByteArray := prog_7_method_5_code
def yX5_weatherOf : MethodName := ⟨RX5, "weatherOf", "(I)I"⟩
abbrev cX5_deedOf : ByteArray := prog_7_method_6_code
def yX5_deedOf : MethodName := ⟨RX5, "deedOf", "(I)I"⟩
def RX6 : String := "FlakePost$SpoonTable"
def TX6 : u_T := fun k => match k with
  | _ => ("FlakePost$SpoonTable", "wins", "[I", true)
def tyX6 : Nat → FieldType := fun k => match k with
  | _ => .array .int
abbrev wsX60 : List Cond := u_ws RX6 TX6 1
theorem nmX6 : ∀ a, a < 1 → ∀ b, b < 1 → a ≠ b → (TX6 a).2.1 ≠ (TX6 b).2.1 := by decide +kernel
theorem tyX6_ok : ∀ k, k < 1 → parseFieldDescriptor (TX6 k).2.2.1 = some (tyX6 k) := by decide +kernel
abbrev cX6_init : ByteArray := prog_8_method_1_code
def yX6_init : MethodName := ⟨RX6, "<init>", "()V"⟩
abbrev cX6_winningTake : ByteArray := prog_8_method_2_code
def yX6_winningTake : MethodName := ⟨RX6, "winningTake", "(II)I"⟩
def RX7 : String := "FlakePost$Yard"
def TX7 : u_T := fun k => match k with
  | 0 => ("FlakePost$Yard", "there", "I", false)
  | 1 => ("FlakePost$Yard", "arm", "[I", true)
  | 2 => ("FlakePost$Yard", "place", "[I", true)
  | 3 => ("FlakePost$Yard", "height", "[I", true)
  | 4 => ("FlakePost$Yard", "addressee", "[I", true)
  | 5 => ("FlakePost$Yard", "with", "[I", true)
  | 6 => ("FlakePost$Yard", "standing", "[I", true)
  | 7 => ("FlakePost$Yard", "umbrellas", "I", false)
  | 8 => ("FlakePost$Yard", "coldLaw", "I", false)
  | 9 => ("FlakePost$Yard", "dampLaw", "I", false)
  | 10 => ("FlakePost$Yard", "sights", "I", false)
  | 11 => ("FlakePost$Yard", "lawHas", "I", false)
  | _ => ("FlakePost$Yard", "lawLacks", "I", false)
def tyX7 : Nat → FieldType := fun k => match k with
  | 0 => .int
  | 1 => .array .int
  | 2 => .array .int
  | 3 => .array .int
  | 4 => .array .int
  | 5 => .array .int
  | 6 => .array .int
  | 7 => .int
  | 8 => .int
  | 9 => .int
  | 10 => .int
  | 11 => .int
  | _ => .int
abbrev wsX70 : List Cond := u_ws RX7 TX7 13
theorem nmX7 : ∀ a, a < 13 → ∀ b, b < 13 → a ≠ b → (TX7 a).2.1 ≠ (TX7 b).2.1 := by decide +kernel
theorem tyX7_ok : ∀ k, k < 13 → parseFieldDescriptor (TX7 k).2.2.1 = some (tyX7 k) := by decide +kernel
abbrev cX7_init : ByteArray := prog_9_method_1_code
def yX7_init : MethodName := ⟨RX7, "<init>", "()V"⟩
abbrev cX7_copy : ByteArray := prog_9_method_2_code
def yX7_copy : MethodName := ⟨RX7, "copy", "(LFlakePost$Yard;)V"⟩
abbrev cX7_has : ByteArray := prog_9_method_3_code
def yX7_has : MethodName := ⟨RX7, "has", "(I)Z"⟩
abbrev cX7_putFlake : ByteArray := prog_9_method_4_code
def yX7_putFlake : MethodName := ⟨RX7, "putFlake", "(IIIII)V"⟩
abbrev cX7_removeFlake : ByteArray := prog_9_method_5_code
def yX7_removeFlake : MethodName := ⟨RX7, "removeFlake", "(I)V"⟩
abbrev cX7_falling : ByteArray := prog_9_method_6_code
def yX7_falling : MethodName := ⟨RX7, "falling", "()I"⟩
abbrev cX7_inRiver : ByteArray := prog_9_method_7_code
def yX7_inRiver : MethodName := ⟨RX7, "inRiver", "()I"⟩
abbrev cX7_down : ByteArray := prog_9_method_8_code
def yX7_down : MethodName := ⟨RX7, "down", "()I"⟩
abbrev cX7_flakesWith : ByteArray := prog_9_method_9_code
def yX7_flakesWith : MethodName := ⟨RX7, "flakesWith", "(I)I"⟩
abbrev cX7_delivered : ByteArray := prog_9_method_10_code
def yX7_delivered : MethodName := ⟨RX7, "delivered", "()I"⟩
abbrev cX7_trodden : ByteArray := prog_9_method_11_code
def yX7_trodden : MethodName := ⟨RX7, "trodden", "()I"⟩
abbrev cX7_whyNot : ByteArray := prog_9_method_12_code
def yX7_whyNot : MethodName := ⟨RX7, "whyNot", "(II)I"⟩
abbrev cX7_carryOut : ByteArray := prog_9_method_13_code
def yX7_carryOut : MethodName := ⟨RX7, "carryOut", "(II)V"⟩
abbrev cX7_growAll : ByteArray := prog_9_method_14_code
def yX7_growAll : MethodName := ⟨RX7, "growAll", "(I)V"⟩
abbrev cX7_blowAll : ByteArray := prog_9_method_15_code
def yX7_blowAll : MethodName := ⟨RX7, "blowAll", "(I)V"⟩
abbrev cX7_blow : ByteArray := prog_9_method_16_code
def yX7_blow : MethodName := ⟨RX7, "blow", "(II)V"⟩
abbrev cX7_lowerAll : ByteArray := prog_9_method_17_code
def yX7_lowerAll : MethodName := ⟨RX7, "lowerAll", "()V"⟩
abbrev cX7_catcherAt : ByteArray := prog_9_method_18_code
def yX7_catcherAt : MethodName := ⟨RX7, "catcherAt", "(I)I"⟩
abbrev cX7_addSight : ByteArray := prog_9_method_19_code
def yX7_addSight : MethodName := ⟨RX7, "addSight", "(II)V"⟩
abbrev cX7_fits : ByteArray := prog_9_method_20_code
def yX7_fits : MethodName := ⟨RX7, "fits", "(I)Z"⟩
abbrev cX7_lawsLeftBy : ByteArray := prog_9_method_21_code
def yX7_lawsLeftBy : MethodName := ⟨RX7, "lawsLeftBy", "(I)I"⟩
def RX8 : String := "FlakePost"
def TX8 : u_T := fun k => match k with
  | 0 => ("FlakePost", "now", "LFlakePost$Yard;", true)
  | 1 => ("FlakePost", "images", "[LFlakePost$Yard;", true)
  | 2 => ("FlakePost", "imagesKept", "I", false)
  | 3 => ("FlakePost", "pad", "LFlakePost$Pad;", true)
  | 4 => ("FlakePost", "day", "LFlakePost$Day;", true)
  | 5 => ("FlakePost", "search", "LFlakePost$AirSearch;", true)
  | 6 => ("FlakePost", "gustRow", "LFlakePost$GustRow;", true)
  | _ => ("FlakePost", "spoons", "LFlakePost$SpoonTable;", true)
def tyX8 : Nat → FieldType := fun k => match k with
  | 0 => .object "FlakePost$Yard"
  | 1 => .array (.object "FlakePost$Yard")
  | 2 => .int
  | 3 => .object "FlakePost$Pad"
  | 4 => .object "FlakePost$Day"
  | 5 => .object "FlakePost$AirSearch"
  | 6 => .object "FlakePost$GustRow"
  | _ => .object "FlakePost$SpoonTable"
abbrev wsX80 : List Cond := u_ws RX8 TX8 8
theorem nmX8 : ∀ a, a < 8 → ∀ b, b < 8 → a ≠ b → (TX8 a).2.1 ≠ (TX8 b).2.1 := by decide +kernel
theorem tyX8_ok : ∀ k, k < 8 → parseFieldDescriptor (TX8 k).2.2.1 = some (tyX8 k) := by decide +kernel
abbrev cX8_init : ByteArray := prog_1_method_1_code
def yX8_init : MethodName := ⟨RX8, "<init>", "()V"⟩
abbrev cX8_flake : ByteArray := prog_1_method_2_code
def yX8_flake : MethodName := ⟨RX8, "flake", "(IIIII)I"⟩
abbrev cX8_melt : ByteArray := prog_1_method_3_code
def yX8_melt : MethodName := ⟨RX8, "melt", "(I)I"⟩
abbrev cX8_stand : ByteArray := prog_1_method_4_code
def yX8_stand : MethodName := ⟨RX8, "stand", "(II)I"⟩
abbrev cX8_air : ByteArray := prog_1_method_5_code
def yX8_air : MethodName := ⟨RX8, "air", "(II)I"⟩
abbrev cX8_say : ByteArray := prog_1_method_6_code
def yX8_say : MethodName := ⟨RX8, "say", "(I)I"⟩
abbrev cX8_wipe : ByteArray := prog_1_method_7_code
def yX8_wipe : MethodName := ⟨RX8, "wipe", "()I"⟩
abbrev cX8_fault : ByteArray := prog_1_method_8_code
def yX8_fault : MethodName := ⟨RX8, "fault", "()I"⟩
abbrev cX8_judge : ByteArray := prog_1_method_9_code
def yX8_judge : MethodName := ⟨RX8, "judge", "(I)I"⟩
abbrev cX8_behind : ByteArray := prog_1_method_10_code
def yX8_behind : MethodName := ⟨RX8, "behind", "(II)I"⟩
abbrev cX8_stands : ByteArray := prog_1_method_11_code
def yX8_stands : MethodName := ⟨RX8, "stands", "(II)I"⟩
abbrev cX8_posted : ByteArray := prog_1_method_12_code
def yX8_posted : MethodName := ⟨RX8, "posted", "(I)I"⟩
abbrev cX8_done : ByteArray := prog_1_method_13_code
def yX8_done : MethodName := ⟨RX8, "done", "()I"⟩
abbrev cX8_says : ByteArray := prog_1_method_14_code
def yX8_says : MethodName := ⟨RX8, "says", "(I)I"⟩
abbrev cX8_grew : ByteArray := prog_1_method_15_code
def yX8_grew : MethodName := ⟨RX8, "grew", "(IIII)J"⟩
abbrev cX8_soon : ByteArray := prog_1_method_16_code
def yX8_soon : MethodName := ⟨RX8, "soon", "(II)I"⟩
abbrev cX8_most : ByteArray := prog_1_method_17_code
def yX8_most : MethodName := ⟨RX8, "most", "(I)I"⟩
abbrev cX8_patch : ByteArray := prog_1_method_18_code
def yX8_patch : MethodName := ⟨RX8, "patch", "(I)I"⟩
abbrev cX8_seen : ByteArray := prog_1_method_19_code
def yX8_seen : MethodName := ⟨RX8, "seen", "(II)I"⟩
abbrev cX8_forget : ByteArray := prog_1_method_20_code
def yX8_forget : MethodName := ⟨RX8, "forget", "()I"⟩
abbrev cX8_laws : ByteArray := prog_1_method_21_code
def yX8_laws : MethodName := ⟨RX8, "laws", "(I)I"⟩
abbrev cX8_look : ByteArray := prog_1_method_22_code
def yX8_look : MethodName := ⟨RX8, "look", "(I)I"⟩
abbrev cX8_gusts : ByteArray := prog_1_method_23_code
def yX8_gusts : MethodName := ⟨RX8, "gusts", "(IIIIII)J"⟩
abbrev cX8_spoon : ByteArray := prog_1_method_24_code
def yX8_spoon : MethodName := ⟨RX8, "spoon", "(II)I"⟩
abbrev cX8_year : ByteArray := prog_1_method_25_code
def yX8_year : MethodName := ⟨RX8, "year", "(III)I"⟩
abbrev cX8_image : ByteArray := prog_1_method_26_code
def yX8_image : MethodName := ⟨RX8, "image", "(I)I"⟩
abbrev cX8_restore : ByteArray := prog_1_method_27_code
def yX8_restore : MethodName := ⟨RX8, "restore", "(I)I"⟩
abbrev cX8_told : ByteArray := prog_1_method_28_code
def yX8_told : MethodName := ⟨RX8, "told", "(I)I"⟩
abbrev cX8_toldOfFlake : ByteArray := prog_1_method_29_code
def yX8_toldOfFlake : MethodName := ⟨RX8, "toldOfFlake", "(II)I"⟩
abbrev cX8_toldOfOne : ByteArray := prog_1_method_30_code
def yX8_toldOfOne : MethodName := ⟨RX8, "toldOfOne", "(II)I"⟩
abbrev cX8_refusalOfDays : ByteArray := prog_1_method_31_code
def yX8_refusalOfDays : MethodName := ⟨RX8, "refusalOfDays", "()I"⟩
abbrev cX8_isBelow : ByteArray := prog_1_method_32_code
def yX8_isBelow : MethodName := ⟨RX8, "isBelow", "(II)Z"⟩
abbrev cX8_bit : ByteArray := prog_1_method_33_code
def yX8_bit : MethodName := ⟨RX8, "bit", "(II)I"⟩
def RX9 : String := "FlakePostModel"
def TX9 : u_T := fun k => match k with
  | 0 => ("FlakePostModel", "there", "I", false)
  | 1 => ("FlakePostModel", "arm", "[I", true)
  | 2 => ("FlakePostModel", "place", "[I", true)
  | 3 => ("FlakePostModel", "height", "[I", true)
  | 4 => ("FlakePostModel", "meant", "[I", true)
  | 5 => ("FlakePostModel", "with", "[I", true)
  | 6 => ("FlakePostModel", "stood", "[I", true)
  | 7 => ("FlakePostModel", "covered", "[I", true)
  | 8 => ("FlakePostModel", "airs", "[I", true)
  | 9 => ("FlakePostModel", "sightFrom", "[I", true)
  | 10 => ("FlakePostModel", "sightTo", "[I", true)
  | 11 => ("FlakePostModel", "sights", "I", false)
  | 12 => ("FlakePostModel", "pad", "[I", true)
  | 13 => ("FlakePostModel", "padMany", "I", false)
  | 14 => ("FlakePostModel", "act", "[I", true)
  | 15 => ("FlakePostModel", "who", "[I", true)
  | 16 => ("FlakePostModel", "acts", "I", false)
  | 17 => ("FlakePostModel", "downMany", "I", false)
  | 18 => ("FlakePostModel", "firstPosted", "I", false)
  | 19 => ("FlakePostModel", "actNow", "I", false)
  | 20 => ("FlakePostModel", "had", "[I", true)
  | 21 => ("FlakePostModel", "badAct", "I", false)
  | 22 => ("FlakePostModel", "badWhy", "I", false)
  | 23 => ("FlakePostModel", "ways", "[J", true)
  | 24 => ("FlakePostModel", "off", "[I", true)
  | 25 => ("FlakePostModel", "mostBy", "[I", true)
  | 26 => ("FlakePostModel", "byArm", "[I", true)
  | 27 => ("FlakePostModel", "isLaw", "[Z", true)
  | 28 => ("FlakePostModel", "parts", "[J", true)
  | 29 => ("FlakePostModel", "partsThen", "[J", true)
  | 30 => ("FlakePostModel", "takes", "[I", true)
  | 31 => ("FlakePostModel", "kept", "[I", true)
  | 32 => ("FlakePostModel", "isKept", "[Z", true)
  | 33 => ("FlakePostModel", "keptAt", "I", false)
  | _ => ("FlakePostModel", "isWriting", "Z", false)
def tyX9 : Nat → FieldType := fun k => match k with
  | 0 => .int
  | 1 => .array .int
  | 2 => .array .int
  | 3 => .array .int
  | 4 => .array .int
  | 5 => .array .int
  | 6 => .array .int
  | 7 => .array .int
  | 8 => .array .int
  | 9 => .array .int
  | 10 => .array .int
  | 11 => .int
  | 12 => .array .int
  | 13 => .int
  | 14 => .array .int
  | 15 => .array .int
  | 16 => .int
  | 17 => .int
  | 18 => .int
  | 19 => .int
  | 20 => .array .int
  | 21 => .int
  | 22 => .int
  | 23 => .array .long
  | 24 => .array .int
  | 25 => .array .int
  | 26 => .array .int
  | 27 => .array .boolean
  | 28 => .array .long
  | 29 => .array .long
  | 30 => .array .int
  | 31 => .array .int
  | 32 => .array .boolean
  | 33 => .int
  | _ => .boolean
abbrev wsX90 : List Cond := u_ws RX9 TX9 35
theorem nmX9 : ∀ a, a < 35 → ∀ b, b < 35 → a ≠ b → (TX9 a).2.1 ≠ (TX9 b).2.1 := by decide +kernel
theorem tyX9_ok : ∀ k, k < 35 → parseFieldDescriptor (TX9 k).2.2.1 = some (tyX9 k) := by decide +kernel
abbrev cX9_init : ByteArray := prog_11_method_1_code
def yX9_init : MethodName := ⟨RX9, "<init>", "()V"⟩
abbrev cX9_in : ByteArray := prog_11_method_3_code
def yX9_in : MethodName := ⟨RX9, "in", "(JJJ)Z"⟩
abbrev cX9_bitsOf : ByteArray := prog_11_method_4_code
def yX9_bitsOf : MethodName := ⟨RX9, "bitsOf", "(I)I"⟩
abbrev cX9_isFlake : ByteArray := prog_11_method_5_code
def yX9_isFlake : MethodName := ⟨RX9, "isFlake", "(I)Z"⟩
abbrev cX9_isOne : ByteArray := prog_11_method_6_code
def yX9_isOne : MethodName := ⟨RX9, "isOne", "(I)Z"⟩
abbrev cX9_isArm : ByteArray := prog_11_method_7_code
def yX9_isArm : MethodName := ⟨RX9, "isArm", "(I)Z"⟩
abbrev cX9_flake : ByteArray := prog_11_method_8_code
def yX9_flake : MethodName := ⟨RX9, "flake", "(IIIII)I"⟩
abbrev cX9_melt : ByteArray := prog_11_method_9_code
def yX9_melt : MethodName := ⟨RX9, "melt", "(I)I"⟩
abbrev cX9_stand : ByteArray := prog_11_method_10_code
def yX9_stand : MethodName := ⟨RX9, "stand", "(II)I"⟩
abbrev cX9_air : ByteArray := prog_11_method_11_code
def yX9_air : MethodName := ⟨RX9, "air", "(II)I"⟩
abbrev cX9_say : ByteArray := prog_11_method_12_code
def yX9_say : MethodName := ⟨RX9, "say", "(I)I"⟩
abbrev cX9_wipe : ByteArray := prog_11_method_13_code
def yX9_wipe : MethodName := ⟨RX9, "wipe", "()I"⟩
abbrev cX9_close : ByteArray := prog_11_method_14_code
def yX9_close : MethodName := ⟨RX9, "close", "(I)I"⟩
abbrev cX9_readOn : ByteArray := prog_11_method_15_code
def yX9_readOn : MethodName := ⟨RX9, "readOn", "(II)I"⟩
abbrev cX9_fault : ByteArray := prog_11_method_16_code
def yX9_fault : MethodName := ⟨RX9, "fault", "()I"⟩
abbrev cX9_isAbove : ByteArray := prog_11_method_17_code
def yX9_isAbove : MethodName := ⟨RX9, "isAbove", "(I)Z"⟩
abbrev cX9_aboveMany : ByteArray := prog_11_method_18_code
def yX9_aboveMany : MethodName := ⟨RX9, "aboveMany", "()I"⟩
abbrev cX9_whyNot : ByteArray := prog_11_method_19_code
def yX9_whyNot : MethodName := ⟨RX9, "whyNot", "(II)I"⟩
abbrev cX9_grown : ByteArray := prog_11_method_20_code
def yX9_grown : MethodName := ⟨RX9, "grown", "(II)I"⟩
abbrev cX9_grow : ByteArray := prog_11_method_21_code
def yX9_grow : MethodName := ⟨RX9, "grow", "(I)V"⟩
abbrev cX9_blowOne : ByteArray := prog_11_method_22_code
def yX9_blowOne : MethodName := ⟨RX9, "blowOne", "(II)V"⟩
abbrev cX9_blow : ByteArray := prog_11_method_23_code
def yX9_blow : MethodName := ⟨RX9, "blow", "(I)V"⟩
abbrev cX9_comeDown : ByteArray := prog_11_method_24_code
def yX9_comeDown : MethodName := ⟨RX9, "comeDown", "(I)V"⟩
abbrev cX9_fall : ByteArray := prog_11_method_25_code
def yX9_fall : MethodName := ⟨RX9, "fall", "()V"⟩
abbrev cX9_happen : ByteArray := prog_11_method_26_code
def yX9_happen : MethodName := ⟨RX9, "happen", "(II)V"⟩
abbrev cX9_keepNow : ByteArray := prog_11_method_27_code
def yX9_keepNow : MethodName := ⟨RX9, "keepNow", "()V"⟩
abbrev cX9_back : ByteArray := prog_11_method_28_code
def yX9_back : MethodName := ⟨RX9, "back", "(I)I"⟩
abbrev cX9_goDays : ByteArray := prog_11_method_29_code
def yX9_goDays : MethodName := ⟨RX9, "goDays", "()V"⟩
abbrev cX9_refusal : ByteArray := prog_11_method_30_code
def yX9_refusal : MethodName := ⟨RX9, "refusal", "()I"⟩
abbrev cX9_judge : ByteArray := prog_11_method_31_code
def yX9_judge : MethodName := ⟨RX9, "judge", "(I)I"⟩
abbrev cX9_ofFlake : ByteArray := prog_11_method_32_code
def yX9_ofFlake : MethodName := ⟨RX9, "ofFlake", "(II)I"⟩
abbrev cX9_behind : ByteArray := prog_11_method_33_code
def yX9_behind : MethodName := ⟨RX9, "behind", "(II)I"⟩
abbrev cX9_flakesOf : ByteArray := prog_11_method_34_code
def yX9_flakesOf : MethodName := ⟨RX9, "flakesOf", "(I)I"⟩
abbrev cX9_stands : ByteArray := prog_11_method_35_code
def yX9_stands : MethodName := ⟨RX9, "stands", "(II)I"⟩
abbrev cX9_postedNow : ByteArray := prog_11_method_36_code
def yX9_postedNow : MethodName := ⟨RX9, "postedNow", "()I"⟩
abbrev cX9_riverNow : ByteArray := prog_11_method_37_code
def yX9_riverNow : MethodName := ⟨RX9, "riverNow", "()I"⟩
abbrev cX9_posted : ByteArray := prog_11_method_38_code
def yX9_posted : MethodName := ⟨RX9, "posted", "(I)I"⟩
abbrev cX9_done : ByteArray := prog_11_method_39_code
def yX9_done : MethodName := ⟨RX9, "done", "()I"⟩
abbrev cX9_says : ByteArray := prog_11_method_40_code
def yX9_says : MethodName := ⟨RX9, "says", "(I)I"⟩
abbrev cX9_findWays : ByteArray := prog_11_method_41_code
def yX9_findWays : MethodName := ⟨RX9, "findWays", "(II)V"⟩
abbrev cX9_firstAirs : ByteArray := prog_11_method_42_code
def yX9_firstAirs : MethodName := ⟨RX9, "firstAirs", "(II)J"⟩
abbrev cX9_grew : ByteArray := prog_11_method_43_code
def yX9_grew : MethodName := ⟨RX9, "grew", "(IIII)J"⟩
abbrev cX9_findOff : ByteArray := prog_11_method_44_code
def yX9_findOff : MethodName := ⟨RX9, "findOff", "(I)Z"⟩
abbrev cX9_soon : ByteArray := prog_11_method_45_code
def yX9_soon : MethodName := ⟨RX9, "soon", "(II)I"⟩
abbrev cX9_canGet : ByteArray := prog_11_method_46_code
def yX9_canGet : MethodName := ⟨RX9, "canGet", "(II)Z"⟩
abbrev cX9_canGetOwn : ByteArray := prog_11_method_47_code
def yX9_canGetOwn : MethodName := ⟨RX9, "canGetOwn", "(I)Z"⟩
abbrev cX9_addFlake : ByteArray := prog_11_method_48_code
def yX9_addFlake : MethodName := ⟨RX9, "addFlake", "(I)V"⟩
abbrev cX9_most : ByteArray := prog_11_method_49_code
def yX9_most : MethodName := ⟨RX9, "most", "(I)I"⟩
abbrev cX9_isFree : ByteArray := prog_11_method_50_code
def yX9_isFree : MethodName := ⟨RX9, "isFree", "(I)Z"⟩
abbrev cX9_patch : ByteArray := prog_11_method_51_code
def yX9_patch : MethodName := ⟨RX9, "patch", "(I)I"⟩
abbrev cX9_seen : ByteArray := prog_11_method_52_code
def yX9_seen : MethodName := ⟨RX9, "seen", "(II)I"⟩
abbrev cX9_forget : ByteArray := prog_11_method_53_code
def yX9_forget : MethodName := ⟨RX9, "forget", "()I"⟩
abbrev cX9_fits : ByteArray := prog_11_method_54_code
def yX9_fits : MethodName := ⟨RX9, "fits", "(I)Z"⟩
abbrev cX9_laws : ByteArray := prog_11_method_55_code
def yX9_laws : MethodName := ⟨RX9, "laws", "(I)I"⟩
abbrev cX9_mostLeft : ByteArray := prog_11_method_56_code
def yX9_mostLeft : MethodName := ⟨RX9, "mostLeft", "(I)I"⟩
abbrev cX9_look : ByteArray := prog_11_method_57_code
def yX9_look : MethodName := ⟨RX9, "look", "(I)I"⟩
abbrev cX9_gust : ByteArray := prog_11_method_58_code
def yX9_gust : MethodName := ⟨RX9, "gust", "(II)V"⟩
abbrev cX9_lowest : ByteArray := prog_11_method_59_code
def yX9_lowest : MethodName := ⟨RX9, "lowest", "(JJI)J"⟩
abbrev cX9_areGusts : ByteArray := prog_11_method_60_code
def yX9_areGusts : MethodName := ⟨RX9, "areGusts", "(IIIII)Z"⟩
abbrev cX9_gusts : ByteArray := prog_11_method_61_code
def yX9_gusts : MethodName := ⟨RX9, "gusts", "(IIIIII)J"⟩
abbrev cX9_bestTake : ByteArray := prog_11_method_62_code
def yX9_bestTake : MethodName := ⟨RX9, "bestTake", "(II)I"⟩
abbrev cX9_spoon : ByteArray := prog_11_method_63_code
def yX9_spoon : MethodName := ⟨RX9, "spoon", "(II)I"⟩
abbrev cX9_year : ByteArray := prog_11_method_64_code
def yX9_year : MethodName := ⟨RX9, "year", "(III)I"⟩
abbrev cX9_pass : ByteArray := prog_11_method_65_code
def yX9_pass : MethodName := ⟨RX9, "pass", "(I)I"⟩
abbrev cX9_passRow : ByteArray := prog_11_method_66_code
def yX9_passRow : MethodName := ⟨RX9, "passRow", "([II)V"⟩
abbrev cX9_passAll : ByteArray := prog_11_method_67_code
def yX9_passAll : MethodName := ⟨RX9, "passAll", "()V"⟩
abbrev cX9_image : ByteArray := prog_11_method_68_code
def yX9_image : MethodName := ⟨RX9, "image", "(I)I"⟩
abbrev cX9_restore : ByteArray := prog_11_method_69_code
def yX9_restore : MethodName := ⟨RX9, "restore", "(I)I"⟩
abbrev cX9_toldOf : ByteArray := prog_11_method_70_code
def yX9_toldOf : MethodName := ⟨RX9, "toldOf", "(II)I"⟩
abbrev cX9_told : ByteArray := prog_11_method_71_code
def yX9_told : MethodName := ⟨RX9, "told", "(I)I"⟩
def RJ6 : String := "java/lang/Integer"
def TJ6 : u_T := fun k => match k with
  | _ => ("", "", "", false)
def tyJ6 : Nat → FieldType := fun k => match k with
  | _ => .int
abbrev wsJ60 : List Cond := u_ws RJ6 TJ6 0
theorem nmJ6 : ∀ a, a < 0 → ∀ b, b < 0 → a ≠ b → (TJ6 a).2.1 ≠ (TJ6 b).2.1 := by decide +kernel
theorem tyJ6_ok : ∀ k, k < 0 → parseFieldDescriptor (TJ6 k).2.2.1 = some (tyJ6 k) := by decide +kernel
abbrev cJ6_bitCount_0f7a4 : ByteArray := prog_12_method_49_code
def yJ6_bitCount_0f7a4 : MethodName := ⟨RJ6, "bitCount", "(I)I"⟩
def RJ9 : String := "java/lang/Math"
def TJ9 : u_T := fun k => match k with
  | _ => ("", "", "", false)
def tyJ9 : Nat → FieldType := fun k => match k with
  | _ => .int
abbrev wsJ90 : List Cond := u_ws RJ9 TJ9 0
theorem nmJ9 : ∀ a, a < 0 → ∀ b, b < 0 → a ≠ b → (TJ9 a).2.1 ≠ (TJ9 b).2.1 := by decide +kernel
theorem tyJ9_ok : ∀ k, k < 0 → parseFieldDescriptor (TJ9 k).2.2.1 = some (tyJ9 k) := by decide +kernel
abbrev cJ9_abs_0f7a4 : ByteArray := prog_13_method_59_code
def yJ9_abs_0f7a4 : MethodName := ⟨RJ9, "abs", "(I)I"⟩
abbrev cJ9_max_7cf53 : ByteArray := prog_13_method_65_code
def yJ9_max_7cf53 : MethodName := ⟨RJ9, "max", "(II)I"⟩
def RJ10 : String := "java/lang/System"
def TJ10 : u_T := fun k => match k with
  | _ => ("", "", "", false)
def tyJ10 : Nat → FieldType := fun k => match k with
  | _ => .int
abbrev wsJ100 : List Cond := u_ws RJ10 TJ10 0
theorem nmJ10 : ∀ a, a < 0 → ∀ b, b < 0 → a ≠ b → (TJ10 a).2.1 ≠ (TJ10 b).2.1 := by decide +kernel
theorem tyJ10_ok : ∀ k, k < 0 → parseFieldDescriptor (TJ10 k).2.2.1 = some (tyJ10 k) := by decide +kernel
def RJ7 : String := "java/util/Arrays"
def TJ7 : u_T := fun k => match k with
  | _ => ("", "", "", false)
def tyJ7 : Nat → FieldType := fun k => match k with
  | _ => .int
abbrev wsJ70 : List Cond := u_ws RJ7 TJ7 0
theorem nmJ7 : ∀ a, a < 0 → ∀ b, b < 0 → a ≠ b → (TJ7 a).2.1 ≠ (TJ7 b).2.1 := by decide +kernel
theorem tyJ7_ok : ∀ k, k < 0 → parseFieldDescriptor (TJ7 k).2.2.1 = some (tyJ7 k) := by decide +kernel
abbrev cJ7_fill_53178 : ByteArray := prog_15_method_103_code
def yJ7_fill_53178 : MethodName := ⟨RJ7, "fill", "([II)V"⟩
def RL : String := "FlakePostLaw"
abbrev cL_law : ByteArray := code
def yL_law : MethodName := ⟨RL, "law", "([I)Z"⟩
abbrev vwCl : List vw_C := [(RX0, TX0, 3), (RX2, TX2, 5), (RX4, TX4, 1), (RX5, TX5, 5), (RX6, TX6, 1), (RX7, TX7, 13), (RX8, TX8, 8), (RX9, TX9, 35)]
end
section
/-! the words: zG, those of the tables that every state keeps; zN, those of nest mates -/
def zG : List Cond := lw_tbl.filter goodWord
theorem z_t0 {w : Cond} (h : w ∈ tables_1) (hg : goodWord w = true) : w ∈ zG := List.mem_filter.mpr ⟨List.mem_append_right _ h, hg⟩
theorem z_t1 {w : Cond} (i : Nat) (h : tables_1_1[i]? = some w) (hg : goodWord w = true) : w ∈ zG := z_t0 (List.mem_append_left _ (List.mem_of_getElem? h)) hg
theorem z_t2 {w : Cond} (i : Nat) (h : tables_1_2[i]? = some w) (hg : goodWord w = true) : w ∈ zG := z_t0 (List.mem_append_right _ (List.mem_append_left _ (List.mem_of_getElem? h))) hg
theorem z_t3 {w : Cond} (i : Nat) (h : tables_1_3[i]? = some w) (hg : goodWord w = true) : w ∈ zG := z_t0 (List.mem_append_right _ (List.mem_append_right _ (List.mem_append_left _ (List.mem_of_getElem? h)))) hg
theorem z_t4 {w : Cond} (i : Nat) (h : tables_1_4[i]? = some w) (hg : goodWord w = true) : w ∈ zG := z_t0 (List.mem_append_right _ (List.mem_append_right _ (List.mem_append_right _ (List.mem_of_getElem? h)))) hg
theorem z_grow : GoodIn zG zG := fun w h => ⟨h, good_of_word (List.mem_filter.mp h).2⟩
theorem z_inT {w : Cond} (h : w ∈ zG) : w ∈ lw_tbl := (List.mem_filter.mp h).1
theorem z_good {y : MethodName} {b : ByteArray} {n : Nat} {r : Option FieldType} (h : Cond.code y b n r ∈ zG) : GoodIn zG (.code y b n r :: zG) := by
  intro w hw
  rcases List.mem_cons.mp hw with e | h1
  · rw [e]; exact z_grow _ h
  · exact z_grow _ h1
theorem z_sel {y : MethodName} {n : Nat} (h : (y, n) ∈ lw_privs) : Cond.selects y.cls y y ∈ zG := List.mem_filter.mpr ⟨List.mem_append_left _ (List.mem_map.mpr ⟨_, h, rfl⟩), rfl⟩
theorem z_p1 {q : MethodName × Nat} (i : Nat) (h : lw_privs_1[i]? = some q) : q ∈ lw_privs := List.mem_append_left _ (List.mem_of_getElem? h)
theorem z_p2 {q : MethodName × Nat} (i : Nat) (h : lw_privs_2[i]? = some q) : q ∈ lw_privs := List.mem_append_right _ (List.mem_append_left _ (List.mem_of_getElem? h))
theorem z_p3 {q : MethodName × Nat} (i : Nat) (h : lw_privs_3[i]? = some q) : q ∈ lw_privs := List.mem_append_right _ (List.mem_append_right _ (List.mem_append_left _ (List.mem_of_getElem? h)))
theorem z_p4 {q : MethodName × Nat} (i : Nat) (h : lw_privs_4[i]? = some q) : q ∈ lw_privs := List.mem_append_right _ (List.mem_append_right _ (List.mem_append_right _ (List.mem_append_left _ (List.mem_of_getElem? h))))
theorem z_p5 {q : MethodName × Nat} (i : Nat) (h : lw_privs_5[i]? = some q) : q ∈ lw_privs := List.mem_append_right _ (List.mem_append_right _ (List.mem_append_right _ (List.mem_append_right _ (List.mem_of_getElem? h))))
/-- a method: its code, that its class is initialised -/
def zCal (y : MethodName) (b : ByteArray) (n : Nat) (r : Option FieldType) : Prop := Cond.code y b n r ∈ zG ∧ Cond.initialized y.cls ∈ zG ∧ y.cls ≠ "java/lang/invoke/MethodHandle" ∧ y.cls ≠ "java/lang/invoke/VarHandle"
def zSel (y : MethodName) : Prop := Cond.instanceMethod y ∈ zG ∧ Cond.selects y.cls y y ∈ zG
theorem zc_X0_init : zCal yX0_init cX0_init 1 none := ⟨z_t1 147 rfl rfl, z_t1 5 rfl rfl, by decide +kernel, by decide +kernel⟩
theorem zi_X0_init : Cond.instanceMethod yX0_init ∈ zG := z_t1 146 rfl rfl
theorem zc_X0_fewestAirs : zCal yX0_fewestAirs cX0_fewestAirs 7 (some .int) := ⟨z_t2 171 rfl rfl, z_t1 5 rfl rfl, by decide +kernel, by decide +kernel⟩
theorem zs_X0_fewestAirs : zSel yX0_fewestAirs := ⟨z_t2 170 rfl rfl, z_sel (z_p2 7 rfl)⟩
theorem zc_X0_reach : zCal yX0_reach cX0_reach 3 none := ⟨z_t2 178 rfl rfl, z_t1 5 rfl rfl, by decide +kernel, by decide +kernel⟩
theorem zs_X0_reach : zSel yX0_reach := ⟨z_t2 177 rfl rfl, z_sel (z_p2 8 rfl)⟩
theorem zc_X1_canGet : zCal yX1_canGet cX1_canGet 4 (some .boolean) := ⟨z_t2 189 rfl rfl, z_t1 13 rfl rfl, by decide +kernel, by decide +kernel⟩
theorem zt_X1_canGet : Cond.static yX1_canGet ∈ zG := z_t2 188 rfl rfl
theorem zc_X1_byAddressees : zCal yX1_byAddressees cX1_byAddressees 4 (some .int) := ⟨z_t2 186 rfl rfl, z_t1 13 rfl rfl, by decide +kernel, by decide +kernel⟩
theorem zt_X1_byAddressees : Cond.static yX1_byAddressees ∈ zG := z_t2 185 rfl rfl
theorem zc_X1_byWhoever : zCal yX1_byWhoever cX1_byWhoever 7 (some .int) := ⟨z_t2 196 rfl rfl, z_t1 13 rfl rfl, by decide +kernel, by decide +kernel⟩
theorem zt_X1_byWhoever : Cond.static yX1_byWhoever ∈ zG := z_t2 195 rfl rfl
theorem zc_X1_joinedBy : zCal yX1_joinedBy cX1_joinedBy 6 (some .long) := ⟨z_t2 199 rfl rfl, z_t1 13 rfl rfl, by decide +kernel, by decide +kernel⟩
theorem zt_X1_joinedBy : Cond.static yX1_joinedBy ∈ zG := z_t2 198 rfl rfl
theorem zc_X2_init : zCal yX2_init cX2_init 1 none := ⟨z_t1 119 rfl rfl, z_t1 4 rfl rfl, by decide +kernel, by decide +kernel⟩
theorem zi_X2_init : Cond.instanceMethod yX2_init ∈ zG := z_t1 118 rfl rfl
theorem zc_X2_live : zCal yX2_live cX2_live 6 none := ⟨z_t2 50 rfl rfl, z_t1 4 rfl rfl, by decide +kernel, by decide +kernel⟩
theorem zs_X2_live : zSel yX2_live := ⟨z_t2 49 rfl rfl, z_sel (z_p1 7 rfl)⟩
theorem zc_X2_begin : zCal yX2_begin cX2_begin 2 none := ⟨z_t2 54 rfl rfl, z_t1 4 rfl rfl, by decide +kernel, by decide +kernel⟩
theorem zs_X2_begin : zSel yX2_begin := ⟨z_t2 53 rfl rfl, z_sel (z_p1 8 rfl)⟩
theorem zc_X2_cameDown : zCal yX2_cameDown cX2_cameDown 1 (some .int) := ⟨z_t2 116 rfl rfl, z_t1 4 rfl rfl, by decide +kernel, by decide +kernel⟩
theorem zs_X2_cameDown : zSel yX2_cameDown := ⟨z_t2 115 rfl rfl, z_sel (z_p2 5 rfl)⟩
theorem zc_X2_dreamYear : zCal yX2_dreamYear cX2_dreamYear 8 none := ⟨z_t3 34 rfl rfl, z_t1 4 rfl rfl, by decide +kernel, by decide +kernel⟩
theorem zs_X2_dreamYear : zSel yX2_dreamYear := ⟨z_t3 33 rfl rfl, z_sel (z_p3 0 rfl)⟩
theorem zc_X3_around : zCal yX3_around cX3_around 2 (some .int) := ⟨z_t2 95 rfl rfl, z_t1 11 rfl rfl, by decide +kernel, by decide +kernel⟩
theorem zt_X3_around : Cond.static yX3_around ∈ zG := z_t2 94 rfl rfl
theorem zc_X3_grown : zCal yX3_grown cX3_grown 4 (some .int) := ⟨z_t2 92 rfl rfl, z_t1 11 rfl rfl, by decide +kernel, by decide +kernel⟩
theorem zt_X3_grown : Cond.static yX3_grown ∈ zG := z_t2 91 rfl rfl
theorem zc_X3_readAloud : zCal yX3_readAloud cX3_readAloud 4 (some .int) := ⟨z_t2 148 rfl rfl, z_t1 11 rfl rfl, by decide +kernel, by decide +kernel⟩
theorem zt_X3_readAloud : Cond.static yX3_readAloud ∈ zG := z_t2 147 rfl rfl
theorem zc_X3_rows : zCal yX3_rows cX3_rows 5 (some .int) := ⟨z_t2 156 rfl rfl, z_t1 11 rfl rfl, by decide +kernel, by decide +kernel⟩
theorem zt_X3_rows : Cond.static yX3_rows ∈ zG := z_t2 155 rfl rfl
theorem zc_X3_firstRow : zCal yX3_firstRow cX3_firstRow 11 (some .long) := ⟨z_t2 161 rfl rfl, z_t1 11 rfl rfl, by decide +kernel, by decide +kernel⟩
theorem zt_X3_firstRow : Cond.static yX3_firstRow ∈ zG := z_t2 160 rfl rfl
theorem zc_X4_init : zCal yX4_init cX4_init 1 none := ⟨z_t1 163 rfl rfl, z_t1 6 rfl rfl, by decide +kernel, by decide +kernel⟩
theorem zi_X4_init : Cond.instanceMethod yX4_init ∈ zG := z_t1 162 rfl rfl
theorem zc_X4_fall : zCal yX4_fall cX4_fall 10 none := ⟨z_t3 12 rfl rfl, z_t1 6 rfl rfl, by decide +kernel, by decide +kernel⟩
theorem zs_X4_fall : zSel yX4_fall := ⟨z_t3 11 rfl rfl, z_sel (z_p2 13 rfl)⟩
theorem zc_X4_chance : zCal yX4_chance cX4_chance 7 (some .long) := ⟨z_t3 17 rfl rfl, z_t1 6 rfl rfl, by decide +kernel, by decide +kernel⟩
theorem zs_X4_chance : zSel yX4_chance := ⟨z_t3 16 rfl rfl, z_sel (z_p2 14 rfl)⟩
theorem zc_X4_all : zCal yX4_all cX4_all 3 (some .int) := ⟨z_t3 21 rfl rfl, z_t1 6 rfl rfl, by decide +kernel, by decide +kernel⟩
theorem zs_X4_all : zSel yX4_all := ⟨z_t3 20 rfl rfl, z_sel (z_p2 15 rfl)⟩
theorem zc_X5_init : zCal yX5_init cX5_init 1 none := ⟨z_t1 92 rfl rfl, z_t1 3 rfl rfl, by decide +kernel, by decide +kernel⟩
theorem zi_X5_init : Cond.instanceMethod yX5_init ∈ zG := z_t1 91 rfl rfl
theorem zc_X5_add : zCal yX5_add cX5_add 2 (some .boolean) := ⟨z_t2 17 rfl rfl, z_t1 3 rfl rfl, by decide +kernel, by decide +kernel⟩
theorem zs_X5_add : zSel yX5_add := ⟨z_t2 16 rfl rfl, z_sel (z_p1 4 rfl)⟩
theorem zc_X5_readActs : zCal yX5_readActs cX5_readActs 4 (some .int) := ⟨z_t2 29 rfl rfl, z_t1 3 rfl rfl, by decide +kernel, by decide +kernel⟩
theorem zs_X5_readActs : zSel yX5_readActs := ⟨z_t2 28 rfl rfl, z_sel (z_p1 5 rfl)⟩
theorem zc_X5_oneOf : zCal yX5_oneOf cX5_oneOf 1 (some .int) := ⟨z_t2 32 rfl rfl, z_t1 3 rfl rfl, by decide +kernel, by decide +kernel⟩
theorem zt_X5_oneOf : Cond.static yX5_oneOf ∈ zG := z_t2 31 rfl rfl
theorem zc_X5_weatherOf : zCal yX5_weatherOf cX5_weatherOf 1 (some .int) := ⟨z_t2 35 rfl rfl, z_t1 3 rfl rfl, by decide +kernel, by decide +kernel⟩
theorem zt_X5_weatherOf : Cond.static yX5_weatherOf ∈ zG := z_t2 34 rfl rfl
theorem zc_X5_deedOf : zCal yX5_deedOf cX5_deedOf 1 (some .int) := ⟨z_t2 38 rfl rfl, z_t1 3 rfl rfl, by decide +kernel, by decide +kernel⟩
theorem zt_X5_deedOf : Cond.static yX5_deedOf ∈ zG := z_t2 37 rfl rfl
theorem zc_X6_init : zCal yX6_init cX6_init 3 none := ⟨z_t1 173 rfl rfl, z_t1 7 rfl rfl, by decide +kernel, by decide +kernel⟩
theorem zi_X6_init : Cond.instanceMethod yX6_init ∈ zG := z_t1 172 rfl rfl
theorem zc_X6_winningTake : zCal yX6_winningTake cX6_winningTake 4 (some .int) := ⟨z_t1 178 rfl rfl, z_t1 7 rfl rfl, by decide +kernel, by decide +kernel⟩
theorem zs_X6_winningTake : zSel yX6_winningTake := ⟨z_t1 177 rfl rfl, z_sel (z_p1 0 rfl)⟩
theorem zc_X7_init : zCal yX7_init cX7_init 2 none := ⟨z_t1 27 rfl rfl, z_t1 2 rfl rfl, by decide +kernel, by decide +kernel⟩
theorem zi_X7_init : Cond.instanceMethod yX7_init ∈ zG := z_t1 26 rfl rfl
theorem zc_X7_copy : zCal yX7_copy cX7_copy 2 none := ⟨z_t2 58 rfl rfl, z_t1 2 rfl rfl, by decide +kernel, by decide +kernel⟩
theorem zs_X7_copy : zSel yX7_copy := ⟨z_t2 57 rfl rfl, z_sel (z_p1 9 rfl)⟩
theorem zc_X7_has : zCal yX7_has cX7_has 2 (some .boolean) := ⟨z_t1 235 rfl rfl, z_t1 2 rfl rfl, by decide +kernel, by decide +kernel⟩
theorem zs_X7_has : zSel yX7_has := ⟨z_t1 234 rfl rfl, z_sel (z_p1 2 rfl)⟩
theorem zc_X7_putFlake : zCal yX7_putFlake cX7_putFlake 6 none := ⟨z_t1 221 rfl rfl, z_t1 2 rfl rfl, by decide +kernel, by decide +kernel⟩
theorem zs_X7_putFlake : zSel yX7_putFlake := ⟨z_t1 220 rfl rfl, z_sel (z_p1 1 rfl)⟩
theorem zc_X7_removeFlake : zCal yX7_removeFlake cX7_removeFlake 2 none := ⟨z_t2 1 rfl rfl, z_t1 2 rfl rfl, by decide +kernel, by decide +kernel⟩
theorem zs_X7_removeFlake : zSel yX7_removeFlake := ⟨z_t2 0 rfl rfl, z_sel (z_p1 3 rfl)⟩
theorem zc_X7_falling : zCal yX7_falling cX7_falling 3 (some .int) := ⟨z_t2 69 rfl rfl, z_t1 2 rfl rfl, by decide +kernel, by decide +kernel⟩
theorem zs_X7_falling : zSel yX7_falling := ⟨z_t2 68 rfl rfl, z_sel (z_p1 11 rfl)⟩
theorem zc_X7_inRiver : zCal yX7_inRiver cX7_inRiver 3 (some .int) := ⟨z_t2 73 rfl rfl, z_t1 2 rfl rfl, by decide +kernel, by decide +kernel⟩
theorem zs_X7_inRiver : zSel yX7_inRiver := ⟨z_t2 72 rfl rfl, z_sel (z_p1 12 rfl)⟩
theorem zc_X7_down : zCal yX7_down cX7_down 1 (some .int) := ⟨z_t2 65 rfl rfl, z_t1 2 rfl rfl, by decide +kernel, by decide +kernel⟩
theorem zs_X7_down : zSel yX7_down := ⟨z_t2 64 rfl rfl, z_sel (z_p1 10 rfl)⟩
theorem zc_X7_flakesWith : zCal yX7_flakesWith cX7_flakesWith 4 (some .int) := ⟨z_t2 130 rfl rfl, z_t1 2 rfl rfl, by decide +kernel, by decide +kernel⟩
theorem zs_X7_flakesWith : zSel yX7_flakesWith := ⟨z_t2 129 rfl rfl, z_sel (z_p2 6 rfl)⟩
theorem zc_X7_delivered : zCal yX7_delivered cX7_delivered 3 (some .int) := ⟨z_t2 81 rfl rfl, z_t1 2 rfl rfl, by decide +kernel, by decide +kernel⟩
theorem zs_X7_delivered : zSel yX7_delivered := ⟨z_t2 80 rfl rfl, z_sel (z_p1 14 rfl)⟩
theorem zc_X7_trodden : zCal yX7_trodden cX7_trodden 4 (some .int) := ⟨z_t2 211 rfl rfl, z_t1 2 rfl rfl, by decide +kernel, by decide +kernel⟩
theorem zs_X7_trodden : zSel yX7_trodden := ⟨z_t2 210 rfl rfl, z_sel (z_p2 9 rfl)⟩
theorem zc_X7_whyNot : zCal yX7_whyNot cX7_whyNot 3 (some .int) := ⟨z_t2 77 rfl rfl, z_t1 2 rfl rfl, by decide +kernel, by decide +kernel⟩
theorem zs_X7_whyNot : zSel yX7_whyNot := ⟨z_t2 76 rfl rfl, z_sel (z_p1 13 rfl)⟩
theorem zc_X7_carryOut : zCal yX7_carryOut cX7_carryOut 3 none := ⟨z_t2 85 rfl rfl, z_t1 2 rfl rfl, by decide +kernel, by decide +kernel⟩
theorem zs_X7_carryOut : zSel yX7_carryOut := ⟨z_t2 84 rfl rfl, z_sel (z_p1 15 rfl)⟩
theorem zc_X7_growAll : zCal yX7_growAll cX7_growAll 3 none := ⟨z_t2 89 rfl rfl, z_t1 2 rfl rfl, by decide +kernel, by decide +kernel⟩
theorem zs_X7_growAll : zSel yX7_growAll := ⟨z_t2 88 rfl rfl, z_sel (z_p2 0 rfl)⟩
theorem zc_X7_blowAll : zCal yX7_blowAll cX7_blowAll 3 none := ⟨z_t2 100 rfl rfl, z_t1 2 rfl rfl, by decide +kernel, by decide +kernel⟩
theorem zs_X7_blowAll : zSel yX7_blowAll := ⟨z_t2 99 rfl rfl, z_sel (z_p2 1 rfl)⟩
theorem zc_X7_blow : zCal yX7_blow cX7_blow 3 none := ⟨z_t2 104 rfl rfl, z_t1 2 rfl rfl, by decide +kernel, by decide +kernel⟩
theorem zs_X7_blow : zSel yX7_blow := ⟨z_t2 103 rfl rfl, z_sel (z_p2 2 rfl)⟩
theorem zc_X7_lowerAll : zCal yX7_lowerAll cX7_lowerAll 2 none := ⟨z_t2 108 rfl rfl, z_t1 2 rfl rfl, by decide +kernel, by decide +kernel⟩
theorem zs_X7_lowerAll : zSel yX7_lowerAll := ⟨z_t2 107 rfl rfl, z_sel (z_p2 3 rfl)⟩
theorem zc_X7_catcherAt : zCal yX7_catcherAt cX7_catcherAt 3 (some .int) := ⟨z_t2 112 rfl rfl, z_t1 2 rfl rfl, by decide +kernel, by decide +kernel⟩
theorem zs_X7_catcherAt : zSel yX7_catcherAt := ⟨z_t2 111 rfl rfl, z_sel (z_p2 4 rfl)⟩
theorem zc_X7_addSight : zCal yX7_addSight cX7_addSight 5 none := ⟨z_t2 221 rfl rfl, z_t1 2 rfl rfl, by decide +kernel, by decide +kernel⟩
theorem zs_X7_addSight : zSel yX7_addSight := ⟨z_t2 220 rfl rfl, z_sel (z_p2 10 rfl)⟩
theorem zc_X7_fits : zCal yX7_fits cX7_fits 2 (some .boolean) := ⟨z_t2 234 rfl rfl, z_t1 2 rfl rfl, by decide +kernel, by decide +kernel⟩
theorem zs_X7_fits : zSel yX7_fits := ⟨z_t2 233 rfl rfl, z_sel (z_p2 11 rfl)⟩
theorem zc_X7_lawsLeftBy : zCal yX7_lawsLeftBy cX7_lawsLeftBy 4 (some .int) := ⟨z_t3 2 rfl rfl, z_t1 2 rfl rfl, by decide +kernel, by decide +kernel⟩
theorem zs_X7_lawsLeftBy : zSel yX7_lawsLeftBy := ⟨z_t3 1 rfl rfl, z_sel (z_p2 12 rfl)⟩
theorem zc_X8_init : zCal yX8_init cX8_init 1 none := ⟨z_t1 19 rfl rfl, z_t1 1 rfl rfl, by decide +kernel, by decide +kernel⟩
theorem zi_X8_init : Cond.instanceMethod yX8_init ∈ zG := z_t1 18 rfl rfl
theorem zc_X8_flake : zCal yX8_flake cX8_flake 6 (some .int) := ⟨z_t1 214 rfl rfl, z_t1 1 rfl rfl, by decide +kernel, by decide +kernel⟩
theorem zs_X8_flake : zSel yX8_flake := ⟨z_t1 212 rfl rfl, z_t1 213 rfl rfl⟩
theorem zc_X8_melt : zCal yX8_melt cX8_melt 2 (some .int) := ⟨z_t1 231 rfl rfl, z_t1 1 rfl rfl, by decide +kernel, by decide +kernel⟩
theorem zs_X8_melt : zSel yX8_melt := ⟨z_t1 229 rfl rfl, z_t1 230 rfl rfl⟩
theorem zc_X8_stand : zCal yX8_stand cX8_stand 4 (some .int) := ⟨z_t2 5 rfl rfl, z_t1 1 rfl rfl, by decide +kernel, by decide +kernel⟩
theorem zs_X8_stand : zSel yX8_stand := ⟨z_t2 3 rfl rfl, z_t2 4 rfl rfl⟩
theorem zc_X8_air : zCal yX8_air cX8_air 4 (some .int) := ⟨z_t2 9 rfl rfl, z_t1 1 rfl rfl, by decide +kernel, by decide +kernel⟩
theorem zs_X8_air : zSel yX8_air := ⟨z_t2 7 rfl rfl, z_t2 8 rfl rfl⟩
theorem zc_X8_say : zCal yX8_say cX8_say 2 (some .int) := ⟨z_t2 13 rfl rfl, z_t1 1 rfl rfl, by decide +kernel, by decide +kernel⟩
theorem zs_X8_say : zSel yX8_say := ⟨z_t2 11 rfl rfl, z_t2 12 rfl rfl⟩
theorem zc_X8_wipe : zCal yX8_wipe cX8_wipe 2 (some .int) := ⟨z_t2 21 rfl rfl, z_t1 1 rfl rfl, by decide +kernel, by decide +kernel⟩
theorem zs_X8_wipe : zSel yX8_wipe := ⟨z_t2 19 rfl rfl, z_t2 20 rfl rfl⟩
theorem zc_X8_fault : zCal yX8_fault cX8_fault 1 (some .int) := ⟨z_t2 25 rfl rfl, z_t1 1 rfl rfl, by decide +kernel, by decide +kernel⟩
theorem zs_X8_fault : zSel yX8_fault := ⟨z_t2 23 rfl rfl, z_t2 24 rfl rfl⟩
theorem zc_X8_judge : zCal yX8_judge cX8_judge 3 (some .int) := ⟨z_t2 42 rfl rfl, z_t1 1 rfl rfl, by decide +kernel, by decide +kernel⟩
theorem zs_X8_judge : zSel yX8_judge := ⟨z_t2 40 rfl rfl, z_t2 41 rfl rfl⟩
theorem zc_X8_behind : zCal yX8_behind cX8_behind 4 (some .int) := ⟨z_t2 121 rfl rfl, z_t1 1 rfl rfl, by decide +kernel, by decide +kernel⟩
theorem zs_X8_behind : zSel yX8_behind := ⟨z_t2 119 rfl rfl, z_t2 120 rfl rfl⟩
theorem zc_X8_stands : zCal yX8_stands cX8_stands 4 (some .int) := ⟨z_t2 125 rfl rfl, z_t1 1 rfl rfl, by decide +kernel, by decide +kernel⟩
theorem zs_X8_stands : zSel yX8_stands := ⟨z_t2 123 rfl rfl, z_t2 124 rfl rfl⟩
theorem zc_X8_posted : zCal yX8_posted cX8_posted 3 (some .int) := ⟨z_t2 134 rfl rfl, z_t1 1 rfl rfl, by decide +kernel, by decide +kernel⟩
theorem zs_X8_posted : zSel yX8_posted := ⟨z_t2 132 rfl rfl, z_t2 133 rfl rfl⟩
theorem zc_X8_done : zCal yX8_done cX8_done 2 (some .int) := ⟨z_t2 140 rfl rfl, z_t1 1 rfl rfl, by decide +kernel, by decide +kernel⟩
theorem zs_X8_done : zSel yX8_done := ⟨z_t2 138 rfl rfl, z_t2 139 rfl rfl⟩
theorem zc_X8_says : zCal yX8_says cX8_says 2 (some .int) := ⟨z_t2 145 rfl rfl, z_t1 1 rfl rfl, by decide +kernel, by decide +kernel⟩
theorem zs_X8_says : zSel yX8_says := ⟨z_t2 143 rfl rfl, z_t2 144 rfl rfl⟩
theorem zc_X8_grew : zCal yX8_grew cX8_grew 5 (some .long) := ⟨z_t2 152 rfl rfl, z_t1 1 rfl rfl, by decide +kernel, by decide +kernel⟩
theorem zs_X8_grew : zSel yX8_grew := ⟨z_t2 150 rfl rfl, z_t2 151 rfl rfl⟩
theorem zc_X8_soon : zCal yX8_soon cX8_soon 3 (some .int) := ⟨z_t2 167 rfl rfl, z_t1 1 rfl rfl, by decide +kernel, by decide +kernel⟩
theorem zs_X8_soon : zSel yX8_soon := ⟨z_t2 165 rfl rfl, z_t2 166 rfl rfl⟩
theorem zc_X8_most : zCal yX8_most cX8_most 2 (some .int) := ⟨z_t2 183 rfl rfl, z_t1 1 rfl rfl, by decide +kernel, by decide +kernel⟩
theorem zs_X8_most : zSel yX8_most := ⟨z_t2 181 rfl rfl, z_t2 182 rfl rfl⟩
theorem zc_X8_patch : zCal yX8_patch cX8_patch 7 (some .int) := ⟨z_t2 207 rfl rfl, z_t1 1 rfl rfl, by decide +kernel, by decide +kernel⟩
theorem zs_X8_patch : zSel yX8_patch := ⟨z_t2 205 rfl rfl, z_t2 206 rfl rfl⟩
theorem zc_X8_seen : zCal yX8_seen cX8_seen 3 (some .int) := ⟨z_t2 217 rfl rfl, z_t1 1 rfl rfl, by decide +kernel, by decide +kernel⟩
theorem zs_X8_seen : zSel yX8_seen := ⟨z_t2 215 rfl rfl, z_t2 216 rfl rfl⟩
theorem zc_X8_forget : zCal yX8_forget cX8_forget 2 (some .int) := ⟨z_t2 226 rfl rfl, z_t1 1 rfl rfl, by decide +kernel, by decide +kernel⟩
theorem zs_X8_forget : zSel yX8_forget := ⟨z_t2 224 rfl rfl, z_t2 225 rfl rfl⟩
theorem zc_X8_laws : zCal yX8_laws cX8_laws 4 (some .int) := ⟨z_t2 230 rfl rfl, z_t1 1 rfl rfl, by decide +kernel, by decide +kernel⟩
theorem zs_X8_laws : zSel yX8_laws := ⟨z_t2 228 rfl rfl, z_t2 229 rfl rfl⟩
theorem zc_X8_look : zCal yX8_look cX8_look 6 (some .int) := ⟨z_t2 238 rfl rfl, z_t1 1 rfl rfl, by decide +kernel, by decide +kernel⟩
theorem zs_X8_look : zSel yX8_look := ⟨z_t2 236 rfl rfl, z_t2 237 rfl rfl⟩
theorem zc_X8_gusts : zCal yX8_gusts cX8_gusts 8 (some .long) := ⟨z_t3 7 rfl rfl, z_t1 1 rfl rfl, by decide +kernel, by decide +kernel⟩
theorem zs_X8_gusts : zSel yX8_gusts := ⟨z_t3 5 rfl rfl, z_t3 6 rfl rfl⟩
theorem zc_X8_spoon : zCal yX8_spoon cX8_spoon 4 (some .int) := ⟨z_t3 25 rfl rfl, z_t1 1 rfl rfl, by decide +kernel, by decide +kernel⟩
theorem zs_X8_spoon : zSel yX8_spoon := ⟨z_t3 23 rfl rfl, z_t3 24 rfl rfl⟩
theorem zc_X8_year : zCal yX8_year cX8_year 4 (some .int) := ⟨z_t3 30 rfl rfl, z_t1 1 rfl rfl, by decide +kernel, by decide +kernel⟩
theorem zs_X8_year : zSel yX8_year := ⟨z_t3 28 rfl rfl, z_t3 29 rfl rfl⟩
theorem zc_X8_image : zCal yX8_image cX8_image 2 (some .int) := ⟨z_t3 40 rfl rfl, z_t1 1 rfl rfl, by decide +kernel, by decide +kernel⟩
theorem zs_X8_image : zSel yX8_image := ⟨z_t3 38 rfl rfl, z_t3 39 rfl rfl⟩
theorem zc_X8_restore : zCal yX8_restore cX8_restore 2 (some .int) := ⟨z_t3 44 rfl rfl, z_t1 1 rfl rfl, by decide +kernel, by decide +kernel⟩
theorem zs_X8_restore : zSel yX8_restore := ⟨z_t3 42 rfl rfl, z_t3 43 rfl rfl⟩
theorem zc_X8_told : zCal yX8_told cX8_told 2 (some .int) := ⟨z_t3 48 rfl rfl, z_t1 1 rfl rfl, by decide +kernel, by decide +kernel⟩
theorem zs_X8_told : zSel yX8_told := ⟨z_t3 46 rfl rfl, z_t3 47 rfl rfl⟩
theorem zc_X8_toldOfFlake : zCal yX8_toldOfFlake cX8_toldOfFlake 3 (some .int) := ⟨z_t3 56 rfl rfl, z_t1 1 rfl rfl, by decide +kernel, by decide +kernel⟩
theorem zs_X8_toldOfFlake : zSel yX8_toldOfFlake := ⟨z_t3 55 rfl rfl, z_sel (z_p3 2 rfl)⟩
theorem zc_X8_toldOfOne : zCal yX8_toldOfOne cX8_toldOfOne 3 (some .int) := ⟨z_t3 52 rfl rfl, z_t1 1 rfl rfl, by decide +kernel, by decide +kernel⟩
theorem zs_X8_toldOfOne : zSel yX8_toldOfOne := ⟨z_t3 51 rfl rfl, z_sel (z_p3 1 rfl)⟩
theorem zc_X8_refusalOfDays : zCal yX8_refusalOfDays cX8_refusalOfDays 1 (some .int) := ⟨z_t2 46 rfl rfl, z_t1 1 rfl rfl, by decide +kernel, by decide +kernel⟩
theorem zs_X8_refusalOfDays : zSel yX8_refusalOfDays := ⟨z_t2 45 rfl rfl, z_sel (z_p1 6 rfl)⟩
theorem zc_X8_isBelow : zCal yX8_isBelow cX8_isBelow 2 (some .boolean) := ⟨z_t1 217 rfl rfl, z_t1 1 rfl rfl, by decide +kernel, by decide +kernel⟩
theorem zt_X8_isBelow : Cond.static yX8_isBelow ∈ zG := z_t1 216 rfl rfl
theorem zc_X8_bit : zCal yX8_bit cX8_bit 2 (some .int) := ⟨z_t1 181 rfl rfl, z_t1 1 rfl rfl, by decide +kernel, by decide +kernel⟩
theorem zt_X8_bit : Cond.static yX8_bit ∈ zG := z_t1 180 rfl rfl
theorem zc_X9_init : zCal yX9_init cX9_init 2 none := ⟨z_t3 61 rfl rfl, z_t1 8 rfl rfl, by decide +kernel, by decide +kernel⟩
theorem zi_X9_init : Cond.instanceMethod yX9_init ∈ zG := z_t3 60 rfl rfl
theorem zc_X9_in : zCal yX9_in cX9_in 6 (some .boolean) := ⟨z_t3 178 rfl rfl, z_t1 8 rfl rfl, by decide +kernel, by decide +kernel⟩
theorem zt_X9_in : Cond.static yX9_in ∈ zG := z_t3 177 rfl rfl
theorem zc_X9_bitsOf : zCal yX9_bitsOf cX9_bitsOf 3 (some .int) := ⟨z_t3 191 rfl rfl, z_t1 8 rfl rfl, by decide +kernel, by decide +kernel⟩
theorem zt_X9_bitsOf : Cond.static yX9_bitsOf ∈ zG := z_t3 190 rfl rfl
theorem zc_X9_isFlake : zCal yX9_isFlake cX9_isFlake 2 (some .boolean) := ⟨z_t3 199 rfl rfl, z_t1 8 rfl rfl, by decide +kernel, by decide +kernel⟩
theorem zs_X9_isFlake : zSel yX9_isFlake := ⟨z_t3 198 rfl rfl, z_sel (z_p3 3 rfl)⟩
theorem zc_X9_isOne : zCal yX9_isOne cX9_isOne 1 (some .boolean) := ⟨z_t3 181 rfl rfl, z_t1 8 rfl rfl, by decide +kernel, by decide +kernel⟩
theorem zt_X9_isOne : Cond.static yX9_isOne ∈ zG := z_t3 180 rfl rfl
theorem zc_X9_isArm : zCal yX9_isArm cX9_isArm 1 (some .boolean) := ⟨z_t3 185 rfl rfl, z_t1 8 rfl rfl, by decide +kernel, by decide +kernel⟩
theorem zt_X9_isArm : Cond.static yX9_isArm ∈ zG := z_t3 184 rfl rfl
theorem zc_X9_flake : zCal yX9_flake cX9_flake 6 (some .int) := ⟨z_t3 174 rfl rfl, z_t1 8 rfl rfl, by decide +kernel, by decide +kernel⟩
theorem zs_X9_flake : zSel yX9_flake := ⟨z_t3 172 rfl rfl, z_t3 173 rfl rfl⟩
theorem zc_X9_melt : zCal yX9_melt cX9_melt 2 (some .int) := ⟨z_t3 195 rfl rfl, z_t1 8 rfl rfl, by decide +kernel, by decide +kernel⟩
theorem zs_X9_melt : zSel yX9_melt := ⟨z_t3 193 rfl rfl, z_t3 194 rfl rfl⟩
theorem zc_X9_stand : zCal yX9_stand cX9_stand 4 (some .int) := ⟨z_t3 203 rfl rfl, z_t1 8 rfl rfl, by decide +kernel, by decide +kernel⟩
theorem zs_X9_stand : zSel yX9_stand := ⟨z_t3 201 rfl rfl, z_t3 202 rfl rfl⟩
theorem zc_X9_air : zCal yX9_air cX9_air 4 (some .int) := ⟨z_t3 207 rfl rfl, z_t1 8 rfl rfl, by decide +kernel, by decide +kernel⟩
theorem zs_X9_air : zSel yX9_air := ⟨z_t3 205 rfl rfl, z_t3 206 rfl rfl⟩
theorem zc_X9_say : zCal yX9_say cX9_say 2 (some .int) := ⟨z_t3 211 rfl rfl, z_t1 8 rfl rfl, by decide +kernel, by decide +kernel⟩
theorem zs_X9_say : zSel yX9_say := ⟨z_t3 209 rfl rfl, z_t3 210 rfl rfl⟩
theorem zc_X9_wipe : zCal yX9_wipe cX9_wipe 2 (some .int) := ⟨z_t3 217 rfl rfl, z_t1 8 rfl rfl, by decide +kernel, by decide +kernel⟩
theorem zs_X9_wipe : zSel yX9_wipe := ⟨z_t3 215 rfl rfl, z_t3 216 rfl rfl⟩
theorem zc_X9_close : zCal yX9_close cX9_close 2 (some .int) := ⟨z_t3 229 rfl rfl, z_t1 8 rfl rfl, by decide +kernel, by decide +kernel⟩
theorem zs_X9_close : zSel yX9_close := ⟨z_t3 228 rfl rfl, z_sel (z_p3 5 rfl)⟩
theorem zc_X9_readOn : zCal yX9_readOn cX9_readOn 4 (some .int) := ⟨z_t3 225 rfl rfl, z_t1 8 rfl rfl, by decide +kernel, by decide +kernel⟩
theorem zs_X9_readOn : zSel yX9_readOn := ⟨z_t3 224 rfl rfl, z_sel (z_p3 4 rfl)⟩
theorem zc_X9_fault : zCal yX9_fault cX9_fault 3 (some .int) := ⟨z_t3 221 rfl rfl, z_t1 8 rfl rfl, by decide +kernel, by decide +kernel⟩
theorem zs_X9_fault : zSel yX9_fault := ⟨z_t3 219 rfl rfl, z_t3 220 rfl rfl⟩
theorem zc_X9_isAbove : zCal yX9_isAbove cX9_isAbove 2 (some .boolean) := ⟨z_t4 21 rfl rfl, z_t1 8 rfl rfl, by decide +kernel, by decide +kernel⟩
theorem zs_X9_isAbove : zSel yX9_isAbove := ⟨z_t4 20 rfl rfl, z_sel (z_p3 11 rfl)⟩
theorem zc_X9_aboveMany : zCal yX9_aboveMany cX9_aboveMany 3 (some .int) := ⟨z_t4 17 rfl rfl, z_t1 8 rfl rfl, by decide +kernel, by decide +kernel⟩
theorem zs_X9_aboveMany : zSel yX9_aboveMany := ⟨z_t4 16 rfl rfl, z_sel (z_p3 10 rfl)⟩
theorem zc_X9_whyNot : zCal yX9_whyNot cX9_whyNot 3 (some .int) := ⟨z_t4 13 rfl rfl, z_t1 8 rfl rfl, by decide +kernel, by decide +kernel⟩
theorem zs_X9_whyNot : zSel yX9_whyNot := ⟨z_t4 12 rfl rfl, z_sel (z_p3 9 rfl)⟩
theorem zc_X9_grown : zCal yX9_grown cX9_grown 8 (some .int) := ⟨z_t4 32 rfl rfl, z_t1 8 rfl rfl, by decide +kernel, by decide +kernel⟩
theorem zt_X9_grown : Cond.static yX9_grown ∈ zG := z_t4 31 rfl rfl
theorem zc_X9_grow : zCal yX9_grow cX9_grow 3 none := ⟨z_t4 29 rfl rfl, z_t1 8 rfl rfl, by decide +kernel, by decide +kernel⟩
theorem zs_X9_grow : zSel yX9_grow := ⟨z_t4 28 rfl rfl, z_sel (z_p3 13 rfl)⟩
theorem zc_X9_blowOne : zCal yX9_blowOne cX9_blowOne 5 none := ⟨z_t4 40 rfl rfl, z_t1 8 rfl rfl, by decide +kernel, by decide +kernel⟩
theorem zs_X9_blowOne : zSel yX9_blowOne := ⟨z_t4 39 rfl rfl, z_sel (z_p3 15 rfl)⟩
theorem zc_X9_blow : zCal yX9_blow cX9_blow 3 none := ⟨z_t4 36 rfl rfl, z_t1 8 rfl rfl, by decide +kernel, by decide +kernel⟩
theorem zs_X9_blow : zSel yX9_blow := ⟨z_t4 35 rfl rfl, z_sel (z_p3 14 rfl)⟩
theorem zc_X9_comeDown : zCal yX9_comeDown cX9_comeDown 3 none := ⟨z_t4 48 rfl rfl, z_t1 8 rfl rfl, by decide +kernel, by decide +kernel⟩
theorem zs_X9_comeDown : zSel yX9_comeDown := ⟨z_t4 47 rfl rfl, z_sel (z_p4 1 rfl)⟩
theorem zc_X9_fall : zCal yX9_fall cX9_fall 2 none := ⟨z_t4 44 rfl rfl, z_t1 8 rfl rfl, by decide +kernel, by decide +kernel⟩
theorem zs_X9_fall : zSel yX9_fall := ⟨z_t4 43 rfl rfl, z_sel (z_p4 0 rfl)⟩
theorem zc_X9_happen : zCal yX9_happen cX9_happen 3 none := ⟨z_t4 25 rfl rfl, z_t1 8 rfl rfl, by decide +kernel, by decide +kernel⟩
theorem zs_X9_happen : zSel yX9_happen := ⟨z_t4 24 rfl rfl, z_sel (z_p3 12 rfl)⟩
theorem zc_X9_keepNow : zCal yX9_keepNow cX9_keepNow 2 none := ⟨z_t4 4 rfl rfl, z_t1 8 rfl rfl, by decide +kernel, by decide +kernel⟩
theorem zs_X9_keepNow : zSel yX9_keepNow := ⟨z_t4 3 rfl rfl, z_sel (z_p3 7 rfl)⟩
theorem zc_X9_back : zCal yX9_back cX9_back 3 (some .int) := ⟨z_t4 52 rfl rfl, z_t1 8 rfl rfl, by decide +kernel, by decide +kernel⟩
theorem zs_X9_back : zSel yX9_back := ⟨z_t4 51 rfl rfl, z_sel (z_p4 2 rfl)⟩
theorem zc_X9_goDays : zCal yX9_goDays cX9_goDays 3 none := ⟨z_t4 9 rfl rfl, z_t1 8 rfl rfl, by decide +kernel, by decide +kernel⟩
theorem zs_X9_goDays : zSel yX9_goDays := ⟨z_t4 8 rfl rfl, z_sel (z_p3 8 rfl)⟩
theorem zc_X9_refusal : zCal yX9_refusal cX9_refusal 1 (some .int) := ⟨z_t4 0 rfl rfl, z_t1 8 rfl rfl, by decide +kernel, by decide +kernel⟩
theorem zs_X9_refusal : zSel yX9_refusal := ⟨z_t3 239 rfl rfl, z_sel (z_p3 6 rfl)⟩
theorem zc_X9_judge : zCal yX9_judge cX9_judge 3 (some .int) := ⟨z_t3 235 rfl rfl, z_t1 8 rfl rfl, by decide +kernel, by decide +kernel⟩
theorem zs_X9_judge : zSel yX9_judge := ⟨z_t3 233 rfl rfl, z_t3 234 rfl rfl⟩
theorem zc_X9_ofFlake : zCal yX9_ofFlake cX9_ofFlake 3 (some .int) := ⟨z_t4 61 rfl rfl, z_t1 8 rfl rfl, by decide +kernel, by decide +kernel⟩
theorem zs_X9_ofFlake : zSel yX9_ofFlake := ⟨z_t4 60 rfl rfl, z_sel (z_p4 3 rfl)⟩
theorem zc_X9_behind : zCal yX9_behind cX9_behind 4 (some .int) := ⟨z_t4 56 rfl rfl, z_t1 8 rfl rfl, by decide +kernel, by decide +kernel⟩
theorem zs_X9_behind : zSel yX9_behind := ⟨z_t4 54 rfl rfl, z_t4 55 rfl rfl⟩
theorem zc_X9_flakesOf : zCal yX9_flakesOf cX9_flakesOf 4 (some .int) := ⟨z_t4 69 rfl rfl, z_t1 8 rfl rfl, by decide +kernel, by decide +kernel⟩
theorem zs_X9_flakesOf : zSel yX9_flakesOf := ⟨z_t4 68 rfl rfl, z_sel (z_p4 4 rfl)⟩
theorem zc_X9_stands : zCal yX9_stands cX9_stands 5 (some .int) := ⟨z_t4 65 rfl rfl, z_t1 8 rfl rfl, by decide +kernel, by decide +kernel⟩
theorem zs_X9_stands : zSel yX9_stands := ⟨z_t4 63 rfl rfl, z_t4 64 rfl rfl⟩
theorem zc_X9_postedNow : zCal yX9_postedNow cX9_postedNow 3 (some .int) := ⟨z_t4 77 rfl rfl, z_t1 8 rfl rfl, by decide +kernel, by decide +kernel⟩
theorem zs_X9_postedNow : zSel yX9_postedNow := ⟨z_t4 76 rfl rfl, z_sel (z_p4 5 rfl)⟩
theorem zc_X9_riverNow : zCal yX9_riverNow cX9_riverNow 3 (some .int) := ⟨z_t4 81 rfl rfl, z_t1 8 rfl rfl, by decide +kernel, by decide +kernel⟩
theorem zs_X9_riverNow : zSel yX9_riverNow := ⟨z_t4 80 rfl rfl, z_sel (z_p4 6 rfl)⟩
theorem zc_X9_posted : zCal yX9_posted cX9_posted 4 (some .int) := ⟨z_t4 73 rfl rfl, z_t1 8 rfl rfl, by decide +kernel, by decide +kernel⟩
theorem zs_X9_posted : zSel yX9_posted := ⟨z_t4 71 rfl rfl, z_t4 72 rfl rfl⟩
theorem zc_X9_done : zCal yX9_done cX9_done 2 (some .int) := ⟨z_t4 85 rfl rfl, z_t1 8 rfl rfl, by decide +kernel, by decide +kernel⟩
theorem zs_X9_done : zSel yX9_done := ⟨z_t4 83 rfl rfl, z_t4 84 rfl rfl⟩
theorem zc_X9_says : zCal yX9_says cX9_says 6 (some .int) := ⟨z_t4 89 rfl rfl, z_t1 8 rfl rfl, by decide +kernel, by decide +kernel⟩
theorem zs_X9_says : zSel yX9_says := ⟨z_t4 87 rfl rfl, z_t4 88 rfl rfl⟩
theorem zc_X9_findWays : zCal yX9_findWays cX9_findWays 6 none := ⟨z_t4 99 rfl rfl, z_t1 8 rfl rfl, by decide +kernel, by decide +kernel⟩
theorem zs_X9_findWays : zSel yX9_findWays := ⟨z_t4 98 rfl rfl, z_sel (z_p4 7 rfl)⟩
theorem zc_X9_firstAirs : zCal yX9_firstAirs cX9_firstAirs 9 (some .long) := ⟨z_t4 104 rfl rfl, z_t1 8 rfl rfl, by decide +kernel, by decide +kernel⟩
theorem zs_X9_firstAirs : zSel yX9_firstAirs := ⟨z_t4 103 rfl rfl, z_sel (z_p4 8 rfl)⟩
theorem zc_X9_grew : zCal yX9_grew cX9_grew 7 (some .long) := ⟨z_t4 93 rfl rfl, z_t1 8 rfl rfl, by decide +kernel, by decide +kernel⟩
theorem zs_X9_grew : zSel yX9_grew := ⟨z_t4 91 rfl rfl, z_t4 92 rfl rfl⟩
theorem zc_X9_findOff : zCal yX9_findOff cX9_findOff 5 (some .boolean) := ⟨z_t4 112 rfl rfl, z_t1 8 rfl rfl, by decide +kernel, by decide +kernel⟩
theorem zs_X9_findOff : zSel yX9_findOff := ⟨z_t4 111 rfl rfl, z_sel (z_p4 9 rfl)⟩
theorem zc_X9_soon : zCal yX9_soon cX9_soon 4 (some .int) := ⟨z_t4 108 rfl rfl, z_t1 8 rfl rfl, by decide +kernel, by decide +kernel⟩
theorem zs_X9_soon : zSel yX9_soon := ⟨z_t4 106 rfl rfl, z_t4 107 rfl rfl⟩
theorem zc_X9_canGet : zCal yX9_canGet cX9_canGet 4 (some .boolean) := ⟨z_t4 124 rfl rfl, z_t1 8 rfl rfl, by decide +kernel, by decide +kernel⟩
theorem zs_X9_canGet : zSel yX9_canGet := ⟨z_t4 123 rfl rfl, z_sel (z_p4 11 rfl)⟩
theorem zc_X9_canGetOwn : zCal yX9_canGetOwn cX9_canGetOwn 4 (some .boolean) := ⟨z_t4 120 rfl rfl, z_t1 8 rfl rfl, by decide +kernel, by decide +kernel⟩
theorem zs_X9_canGetOwn : zSel yX9_canGetOwn := ⟨z_t4 119 rfl rfl, z_sel (z_p4 10 rfl)⟩
theorem zc_X9_addFlake : zCal yX9_addFlake cX9_addFlake 7 none := ⟨z_t4 128 rfl rfl, z_t1 8 rfl rfl, by decide +kernel, by decide +kernel⟩
theorem zs_X9_addFlake : zSel yX9_addFlake := ⟨z_t4 127 rfl rfl, z_sel (z_p4 12 rfl)⟩
theorem zc_X9_most : zCal yX9_most cX9_most 4 (some .int) := ⟨z_t4 116 rfl rfl, z_t1 8 rfl rfl, by decide +kernel, by decide +kernel⟩
theorem zs_X9_most : zSel yX9_most := ⟨z_t4 114 rfl rfl, z_t4 115 rfl rfl⟩
theorem zc_X9_isFree : zCal yX9_isFree cX9_isFree 5 (some .boolean) := ⟨z_t4 136 rfl rfl, z_t1 8 rfl rfl, by decide +kernel, by decide +kernel⟩
theorem zs_X9_isFree : zSel yX9_isFree := ⟨z_t4 135 rfl rfl, z_sel (z_p4 13 rfl)⟩
theorem zc_X9_patch : zCal yX9_patch cX9_patch 6 (some .int) := ⟨z_t4 132 rfl rfl, z_t1 8 rfl rfl, by decide +kernel, by decide +kernel⟩
theorem zs_X9_patch : zSel yX9_patch := ⟨z_t4 130 rfl rfl, z_t4 131 rfl rfl⟩
theorem zc_X9_seen : zCal yX9_seen cX9_seen 3 (some .int) := ⟨z_t4 140 rfl rfl, z_t1 8 rfl rfl, by decide +kernel, by decide +kernel⟩
theorem zs_X9_seen : zSel yX9_seen := ⟨z_t4 138 rfl rfl, z_t4 139 rfl rfl⟩
theorem zc_X9_forget : zCal yX9_forget cX9_forget 2 (some .int) := ⟨z_t4 144 rfl rfl, z_t1 8 rfl rfl, by decide +kernel, by decide +kernel⟩
theorem zs_X9_forget : zSel yX9_forget := ⟨z_t4 142 rfl rfl, z_t4 143 rfl rfl⟩
theorem zc_X9_fits : zCal yX9_fits cX9_fits 4 (some .boolean) := ⟨z_t4 152 rfl rfl, z_t1 8 rfl rfl, by decide +kernel, by decide +kernel⟩
theorem zs_X9_fits : zSel yX9_fits := ⟨z_t4 151 rfl rfl, z_sel (z_p4 14 rfl)⟩
theorem zc_X9_laws : zCal yX9_laws cX9_laws 4 (some .int) := ⟨z_t4 148 rfl rfl, z_t1 8 rfl rfl, by decide +kernel, by decide +kernel⟩
theorem zs_X9_laws : zSel yX9_laws := ⟨z_t4 146 rfl rfl, z_t4 147 rfl rfl⟩
theorem zc_X9_mostLeft : zCal yX9_mostLeft cX9_mostLeft 5 (some .int) := ⟨z_t4 160 rfl rfl, z_t1 8 rfl rfl, by decide +kernel, by decide +kernel⟩
theorem zs_X9_mostLeft : zSel yX9_mostLeft := ⟨z_t4 159 rfl rfl, z_sel (z_p4 15 rfl)⟩
theorem zc_X9_look : zCal yX9_look cX9_look 6 (some .int) := ⟨z_t4 156 rfl rfl, z_t1 8 rfl rfl, by decide +kernel, by decide +kernel⟩
theorem zs_X9_look : zSel yX9_look := ⟨z_t4 154 rfl rfl, z_t4 155 rfl rfl⟩
theorem zc_X9_gust : zCal yX9_gust cX9_gust 4 none := ⟨z_t4 174 rfl rfl, z_t1 8 rfl rfl, by decide +kernel, by decide +kernel⟩
theorem zs_X9_gust : zSel yX9_gust := ⟨z_t4 173 rfl rfl, z_sel (z_p5 0 rfl)⟩
theorem zc_X9_lowest : zCal yX9_lowest cX9_lowest 11 (some .long) := ⟨z_t4 177 rfl rfl, z_t1 8 rfl rfl, by decide +kernel, by decide +kernel⟩
theorem zt_X9_lowest : Cond.static yX9_lowest ∈ zG := z_t4 176 rfl rfl
theorem zc_X9_areGusts : zCal yX9_areGusts cX9_areGusts 5 (some .boolean) := ⟨z_t4 167 rfl rfl, z_t1 8 rfl rfl, by decide +kernel, by decide +kernel⟩
theorem zt_X9_areGusts : Cond.static yX9_areGusts ∈ zG := z_t4 166 rfl rfl
theorem zc_X9_gusts : zCal yX9_gusts cX9_gusts 10 (some .long) := ⟨z_t4 164 rfl rfl, z_t1 8 rfl rfl, by decide +kernel, by decide +kernel⟩
theorem zs_X9_gusts : zSel yX9_gusts := ⟨z_t4 162 rfl rfl, z_t4 163 rfl rfl⟩
theorem zc_X9_bestTake : zCal yX9_bestTake cX9_bestTake 6 (some .int) := ⟨z_t4 186 rfl rfl, z_t1 8 rfl rfl, by decide +kernel, by decide +kernel⟩
theorem zs_X9_bestTake : zSel yX9_bestTake := ⟨z_t4 185 rfl rfl, z_sel (z_p5 1 rfl)⟩
theorem zc_X9_spoon : zCal yX9_spoon cX9_spoon 5 (some .int) := ⟨z_t4 181 rfl rfl, z_t1 8 rfl rfl, by decide +kernel, by decide +kernel⟩
theorem zs_X9_spoon : zSel yX9_spoon := ⟨z_t4 179 rfl rfl, z_t4 180 rfl rfl⟩
theorem zc_X9_year : zCal yX9_year cX9_year 7 (some .int) := ⟨z_t4 190 rfl rfl, z_t1 8 rfl rfl, by decide +kernel, by decide +kernel⟩
theorem zs_X9_year : zSel yX9_year := ⟨z_t4 188 rfl rfl, z_t4 189 rfl rfl⟩
theorem zc_X9_pass : zCal yX9_pass cX9_pass 3 (some .int) := ⟨z_t4 207 rfl rfl, z_t1 8 rfl rfl, by decide +kernel, by decide +kernel⟩
theorem zs_X9_pass : zSel yX9_pass := ⟨z_t4 206 rfl rfl, z_sel (z_p5 3 rfl)⟩
theorem zc_X9_passRow : zCal yX9_passRow cX9_passRow 4 none := ⟨z_t4 211 rfl rfl, z_t1 8 rfl rfl, by decide +kernel, by decide +kernel⟩
theorem zs_X9_passRow : zSel yX9_passRow := ⟨z_t4 210 rfl rfl, z_sel (z_p5 4 rfl)⟩
theorem zc_X9_passAll : zCal yX9_passAll cX9_passAll 1 none := ⟨z_t4 203 rfl rfl, z_t1 8 rfl rfl, by decide +kernel, by decide +kernel⟩
theorem zs_X9_passAll : zSel yX9_passAll := ⟨z_t4 202 rfl rfl, z_sel (z_p5 2 rfl)⟩
theorem zc_X9_image : zCal yX9_image cX9_image 2 (some .int) := ⟨z_t4 199 rfl rfl, z_t1 8 rfl rfl, by decide +kernel, by decide +kernel⟩
theorem zs_X9_image : zSel yX9_image := ⟨z_t4 197 rfl rfl, z_t4 198 rfl rfl⟩
theorem zc_X9_restore : zCal yX9_restore cX9_restore 2 (some .int) := ⟨z_t4 215 rfl rfl, z_t1 8 rfl rfl, by decide +kernel, by decide +kernel⟩
theorem zs_X9_restore : zSel yX9_restore := ⟨z_t4 213 rfl rfl, z_t4 214 rfl rfl⟩
theorem zc_X9_toldOf : zCal yX9_toldOf cX9_toldOf 3 (some .int) := ⟨z_t4 226 rfl rfl, z_t1 8 rfl rfl, by decide +kernel, by decide +kernel⟩
theorem zs_X9_toldOf : zSel yX9_toldOf := ⟨z_t4 225 rfl rfl, z_sel (z_p5 5 rfl)⟩
theorem zc_X9_told : zCal yX9_told cX9_told 3 (some .int) := ⟨z_t4 219 rfl rfl, z_t1 8 rfl rfl, by decide +kernel, by decide +kernel⟩
theorem zs_X9_told : zSel yX9_told := ⟨z_t4 217 rfl rfl, z_t4 218 rfl rfl⟩
theorem zc_J6_bitCount_0f7a4 : zCal yJ6_bitCount_0f7a4 cJ6_bitCount_0f7a4 1 (some .int) := ⟨z_t1 224 rfl rfl, z_t1 9 rfl rfl, by decide +kernel, by decide +kernel⟩
theorem zt_J6_bitCount_0f7a4 : Cond.static yJ6_bitCount_0f7a4 ∈ zG := z_t1 223 rfl rfl
theorem zc_J9_abs_0f7a4 : zCal yJ9_abs_0f7a4 cJ9_abs_0f7a4 1 (some .int) := ⟨z_t2 192 rfl rfl, z_t1 14 rfl rfl, by decide +kernel, by decide +kernel⟩
theorem zt_J9_abs_0f7a4 : Cond.static yJ9_abs_0f7a4 ∈ zG := z_t2 191 rfl rfl
theorem zc_J9_max_7cf53 : zCal yJ9_max_7cf53 cJ9_max_7cf53 2 (some .int) := ⟨z_t2 203 rfl rfl, z_t1 14 rfl rfl, by decide +kernel, by decide +kernel⟩
theorem zt_J9_max_7cf53 : Cond.static yJ9_max_7cf53 ∈ zG := z_t2 202 rfl rfl
theorem zc_J7_fill_53178 : zCal yJ7_fill_53178 cJ7_fill_53178 4 none := ⟨z_t2 174 rfl rfl, z_t1 12 rfl rfl, by decide +kernel, by decide +kernel⟩
theorem zt_J7_fill_53178 : Cond.static yJ7_fill_53178 ∈ zG := z_t2 173 rfl rfl
theorem zd_L_7 : Cond.classLink RL 7 RX8 ∈ zG := z_t1 15 rfl rfl
theorem zx_X8 : Cond.instantiable RX8 8 ∈ zG := z_t1 16 rfl rfl
theorem zl_L_9 : Cond.methodLink RL 9 yX8_init ∈ zG := z_t1 17 rfl rfl
theorem zl_X8_1 : Cond.methodLink RX8 1 objectInit ∈ zG := z_t1 20 rfl rfl
theorem zd_X8_7 : Cond.classLink RX8 7 RX7 ∈ zG := z_t1 23 rfl rfl
theorem zx_X7 : Cond.instantiable RX7 13 ∈ zG := z_t1 24 rfl rfl
theorem zl_X7_3 : Cond.methodLink RX7 3 objectInit ∈ zG := z_t1 28 rfl rfl
theorem zl_X7_9 : Cond.fieldLink RX7 9 "FlakePost$Yard" "there" "I" ∈ zG := z_t1 29 rfl rfl
theorem zl_X7_15 : Cond.fieldLink RX7 15 "FlakePost$Yard" "arm" "[I" ∈ zG := z_t1 31 rfl rfl
theorem zl_X7_19 : Cond.fieldLink RX7 19 "FlakePost$Yard" "place" "[I" ∈ zG := z_t1 33 rfl rfl
theorem zl_X7_22 : Cond.fieldLink RX7 22 "FlakePost$Yard" "height" "[I" ∈ zG := z_t1 36 rfl rfl
theorem zl_X7_25 : Cond.fieldLink RX7 25 "FlakePost$Yard" "addressee" "[I" ∈ zG := z_t1 39 rfl rfl
theorem zl_X7_28 : Cond.fieldLink RX7 28 "FlakePost$Yard" "with" "[I" ∈ zG := z_t1 42 rfl rfl
theorem zl_X7_31 : Cond.fieldLink RX7 31 "FlakePost$Yard" "standing" "[I" ∈ zG := z_t1 44 rfl rfl
theorem zl_X7_34 : Cond.fieldLink RX7 34 "FlakePost$Yard" "umbrellas" "I" ∈ zG := z_t1 47 rfl rfl
theorem zl_X7_37 : Cond.fieldLink RX7 37 "FlakePost$Yard" "coldLaw" "I" ∈ zG := z_t1 49 rfl rfl
theorem zl_X7_40 : Cond.fieldLink RX7 40 "FlakePost$Yard" "dampLaw" "I" ∈ zG := z_t1 51 rfl rfl
theorem zl_X7_43 : Cond.fieldLink RX7 43 "FlakePost$Yard" "sights" "I" ∈ zG := z_t1 53 rfl rfl
theorem zl_X7_46 : Cond.fieldLink RX7 46 "FlakePost$Yard" "lawHas" "I" ∈ zG := z_t1 55 rfl rfl
theorem zl_X7_49 : Cond.fieldLink RX7 49 "FlakePost$Yard" "lawLacks" "I" ∈ zG := z_t1 57 rfl rfl
theorem zd_X8_24 : Cond.classLink RX8 24 RX5 ∈ zG := z_t1 88 rfl rfl
theorem zx_X5 : Cond.instantiable RX5 5 ∈ zG := z_t1 89 rfl rfl
theorem zl_X5_3 : Cond.methodLink RX5 3 objectInit ∈ zG := z_t1 93 rfl rfl
theorem zl_X5_11 : Cond.fieldLink RX5 11 "FlakePost$Pad" "signs" "[I" ∈ zG := z_t1 94 rfl rfl
theorem zl_X5_15 : Cond.fieldLink RX5 15 "FlakePost$Pad" "count" "I" ∈ zG := z_t1 95 rfl rfl
theorem zl_X5_19 : Cond.fieldLink RX5 19 "FlakePost$Pad" "kinds" "[I" ∈ zG := z_t1 97 rfl rfl
theorem zl_X5_22 : Cond.fieldLink RX5 22 "FlakePost$Pad" "ones" "[I" ∈ zG := z_t1 99 rfl rfl
theorem zl_X5_25 : Cond.fieldLink RX5 25 "FlakePost$Pad" "acts" "I" ∈ zG := z_t1 101 rfl rfl
theorem zd_X8_31 : Cond.classLink RX8 31 RX2 ∈ zG := z_t1 115 rfl rfl
theorem zx_X2 : Cond.instantiable RX2 5 ∈ zG := z_t1 116 rfl rfl
theorem zl_X2_3 : Cond.methodLink RX2 3 objectInit ∈ zG := z_t1 120 rfl rfl
theorem zd_X2_9 : Cond.classLink RX2 9 RX7 ∈ zG := z_t1 121 rfl rfl
theorem zl_X2_12 : Cond.fieldLink RX2 12 "FlakePost$Day" "after" "LFlakePost$Yard;" ∈ zG := z_t1 123 rfl rfl
theorem zl_X2_18 : Cond.fieldLink RX2 18 "FlakePost$Day" "badAct" "I" ∈ zG := z_t1 125 rfl rfl
theorem zl_X2_22 : Cond.fieldLink RX2 22 "FlakePost$Day" "badWhy" "I" ∈ zG := z_t1 127 rfl rfl
theorem zl_X2_25 : Cond.fieldLink RX2 25 "FlakePost$Day" "firstDelivery" "I" ∈ zG := z_t1 129 rfl rfl
theorem zl_X2_28 : Cond.fieldLink RX2 28 "FlakePost$Day" "downAtFirst" "I" ∈ zG := z_t1 131 rfl rfl
theorem zd_X8_38 : Cond.classLink RX8 38 RX0 ∈ zG := z_t1 143 rfl rfl
theorem zx_X0 : Cond.instantiable RX0 3 ∈ zG := z_t1 144 rfl rfl
theorem zl_X0_3 : Cond.methodLink RX0 3 objectInit ∈ zG := z_t1 148 rfl rfl
theorem zl_X0_9 : Cond.fieldLink RX0 9 "FlakePost$AirSearch" "airs" "[I" ∈ zG := z_t1 149 rfl rfl
theorem zl_X0_15 : Cond.fieldLink RX0 15 "FlakePost$AirSearch" "queue" "[I" ∈ zG := z_t1 150 rfl rfl
theorem zl_X0_18 : Cond.fieldLink RX0 18 "FlakePost$AirSearch" "waiting" "I" ∈ zG := z_t1 151 rfl rfl
theorem zd_X8_45 : Cond.classLink RX8 45 RX4 ∈ zG := z_t1 159 rfl rfl
theorem zx_X4 : Cond.instantiable RX4 1 ∈ zG := z_t1 160 rfl rfl
theorem zl_X4_3 : Cond.methodLink RX4 3 objectInit ∈ zG := z_t1 164 rfl rfl
theorem zl_X4_9 : Cond.fieldLink RX4 9 "FlakePost$GustRow" "ways" "[I" ∈ zG := z_t1 165 rfl rfl
theorem zd_X8_52 : Cond.classLink RX8 52 RX6 ∈ zG := z_t1 169 rfl rfl
theorem zx_X6 : Cond.instantiable RX6 1 ∈ zG := z_t1 170 rfl rfl
theorem zl_X6_3 : Cond.methodLink RX6 3 objectInit ∈ zG := z_t1 174 rfl rfl
theorem zl_X6_15 : Cond.methodLink RX6 15 yX6_winningTake ∈ zG := z_t1 175 rfl rfl
theorem zl_X6_9 : Cond.fieldLink RX6 9 "FlakePost$SpoonTable" "wins" "[I" ∈ zG := z_t1 182 rfl rfl
theorem zl_X8_10 : Cond.fieldLink RX8 10 "FlakePost" "now" "LFlakePost$Yard;" ∈ zG := z_t1 186 rfl rfl
theorem zl_X8_16 : Cond.fieldLink RX8 16 "FlakePost" "images" "[LFlakePost$Yard;" ∈ zG := z_t1 187 rfl rfl
theorem zl_X8_20 : Cond.fieldLink RX8 20 "FlakePost" "imagesKept" "I" ∈ zG := z_t1 188 rfl rfl
theorem zl_X8_27 : Cond.fieldLink RX8 27 "FlakePost" "pad" "LFlakePost$Pad;" ∈ zG := z_t1 189 rfl rfl
theorem zl_X8_34 : Cond.fieldLink RX8 34 "FlakePost" "day" "LFlakePost$Day;" ∈ zG := z_t1 190 rfl rfl
theorem zl_X8_41 : Cond.fieldLink RX8 41 "FlakePost" "search" "LFlakePost$AirSearch;" ∈ zG := z_t1 191 rfl rfl
theorem zl_X8_48 : Cond.fieldLink RX8 48 "FlakePost" "gustRow" "LFlakePost$GustRow;" ∈ zG := z_t1 192 rfl rfl
theorem zl_X8_55 : Cond.fieldLink RX8 55 "FlakePost" "spoons" "LFlakePost$SpoonTable;" ∈ zG := z_t1 193 rfl rfl
theorem zl_L_13 : Cond.methodLink RL 13 yX8_flake ∈ zG := z_t1 211 rfl rfl
theorem zl_X8_59 : Cond.methodLink RX8 59 yX8_isBelow ∈ zG := z_t1 215 rfl rfl
theorem zl_X8_70 : Cond.methodLink RX8 70 yJ6_bitCount_0f7a4 ∈ zG := z_t1 222 rfl rfl
theorem zk_J6_265 : Cond.constant RJ6 265 (1431655765) ∈ zG := z_t1 225 rfl rfl
theorem zk_J6_266 : Cond.constant RJ6 266 (858993459) ∈ zG := z_t1 226 rfl rfl
theorem zk_J6_267 : Cond.constant RJ6 267 (252645135) ∈ zG := z_t1 227 rfl rfl
theorem zl_L_18 : Cond.methodLink RL 18 yX8_melt ∈ zG := z_t1 228 rfl rfl
theorem zl_L_23 : Cond.methodLink RL 23 yX8_stand ∈ zG := z_t2 2 rfl rfl
theorem zl_L_28 : Cond.methodLink RL 28 yX8_air ∈ zG := z_t2 6 rfl rfl
theorem zl_L_32 : Cond.methodLink RL 32 yX8_say ∈ zG := z_t2 10 rfl rfl
theorem zl_L_36 : Cond.methodLink RL 36 yX8_wipe ∈ zG := z_t2 18 rfl rfl
theorem zl_L_41 : Cond.methodLink RL 41 yX8_fault ∈ zG := z_t2 22 rfl rfl
theorem zl_X5_28 : Cond.methodLink RX5 28 yX5_oneOf ∈ zG := z_t2 30 rfl rfl
theorem zl_X5_32 : Cond.methodLink RX5 32 yX5_weatherOf ∈ zG := z_t2 33 rfl rfl
theorem zl_X5_35 : Cond.methodLink RX5 35 yX5_deedOf ∈ zG := z_t2 36 rfl rfl
theorem zl_L_45 : Cond.methodLink RL 45 yX8_judge ∈ zG := z_t2 39 rfl rfl
theorem zl_X8_107 : Cond.methodLink RX8 107 yX8_refusalOfDays ∈ zG := z_t2 43 rfl rfl
theorem zl_X2_31 : Cond.methodLink RX2 31 yX2_begin ∈ zG := z_t2 51 rfl rfl
theorem zl_X7_52 : Cond.methodLink RX7 52 arraycopyName ∈ zG := z_t2 59 rfl rfl
theorem zl_X7_66 : Cond.methodLink RX7 66 yX7_falling ∈ zG := z_t2 66 rfl rfl
theorem zl_X7_70 : Cond.methodLink RX7 70 yX7_inRiver ∈ zG := z_t2 70 rfl rfl
theorem zl_X7_80 : Cond.methodLink RX7 80 yX7_growAll ∈ zG := z_t2 86 rfl rfl
theorem zl_X3_9 : Cond.methodLink RX3 9 yX3_around ∈ zG := z_t2 93 rfl rfl
theorem zl_X7_84 : Cond.methodLink RX7 84 yX7_blowAll ∈ zG := z_t2 97 rfl rfl
theorem zl_X7_95 : Cond.methodLink RX7 95 yX7_blow ∈ zG := z_t2 101 rfl rfl
theorem zl_X7_87 : Cond.methodLink RX7 87 yX7_lowerAll ∈ zG := z_t2 105 rfl rfl
theorem zl_X7_99 : Cond.methodLink RX7 99 yX7_catcherAt ∈ zG := z_t2 109 rfl rfl
theorem zl_X2_65 : Cond.methodLink RX2 65 yJ6_bitCount_0f7a4 ∈ zG := z_t2 117 rfl rfl
theorem zl_L_49 : Cond.methodLink RL 49 yX8_behind ∈ zG := z_t2 118 rfl rfl
theorem zl_L_53 : Cond.methodLink RL 53 yX8_stands ∈ zG := z_t2 122 rfl rfl
theorem zl_X8_134 : Cond.methodLink RX8 134 yX8_bit ∈ zG := z_t2 126 rfl rfl
theorem zl_L_57 : Cond.methodLink RL 57 yX8_posted ∈ zG := z_t2 131 rfl rfl
theorem zl_L_61 : Cond.methodLink RL 61 yX8_done ∈ zG := z_t2 137 rfl rfl
theorem zl_L_65 : Cond.methodLink RL 65 yX8_says ∈ zG := z_t2 142 rfl rfl
theorem zl_L_69 : Cond.methodLink RL 69 yX8_grew ∈ zG := z_t2 149 rfl rfl
theorem zk_X8_162 : Cond.constantLong RX8 162 (-2) ∈ zG := z_t2 153 rfl rfl
theorem zl_X3_18 : Cond.methodLink RX3 18 yX3_grown ∈ zG := z_t2 157 rfl rfl
theorem zl_X3_21 : Cond.methodLink RX3 21 yX3_rows ∈ zG := z_t2 158 rfl rfl
theorem zk_X3_25 : Cond.constantLong RX3 25 (-6) ∈ zG := z_t2 162 rfl rfl
theorem zk_X3_27 : Cond.constantLong RX3 27 (10) ∈ zG := z_t2 163 rfl rfl
theorem zl_L_74 : Cond.methodLink RL 74 yX8_soon ∈ zG := z_t2 164 rfl rfl
theorem zl_X0_22 : Cond.methodLink RX0 22 yJ7_fill_53178 ∈ zG := z_t2 172 rfl rfl
theorem zl_X0_28 : Cond.methodLink RX0 28 yX0_reach ∈ zG := z_t2 175 rfl rfl
theorem zl_L_78 : Cond.methodLink RL 78 yX8_most ∈ zG := z_t2 180 rfl rfl
theorem zl_X1_30 : Cond.methodLink RX1 30 yX1_canGet ∈ zG := z_t2 187 rfl rfl
theorem zl_X1_21 : Cond.methodLink RX1 21 yJ9_abs_0f7a4 ∈ zG := z_t2 190 rfl rfl
theorem zl_X1_36 : Cond.methodLink RX1 36 yJ6_bitCount_0f7a4 ∈ zG := z_t2 193 rfl rfl
theorem zl_X1_41 : Cond.methodLink RX1 41 yX1_joinedBy ∈ zG := z_t2 197 rfl rfl
theorem zl_X1_45 : Cond.methodLink RX1 45 yJ9_max_7cf53 ∈ zG := z_t2 201 rfl rfl
theorem zl_L_82 : Cond.methodLink RL 82 yX8_patch ∈ zG := z_t2 204 rfl rfl
theorem zl_X7_73 : Cond.methodLink RX7 73 yX7_down ∈ zG := z_t2 212 rfl rfl
theorem zl_X7_76 : Cond.methodLink RX7 76 yX7_flakesWith ∈ zG := z_t2 213 rfl rfl
theorem zl_L_86 : Cond.methodLink RL 86 yX8_seen ∈ zG := z_t2 214 rfl rfl
theorem zl_L_90 : Cond.methodLink RL 90 yX8_forget ∈ zG := z_t2 223 rfl rfl
theorem zl_L_94 : Cond.methodLink RL 94 yX8_laws ∈ zG := z_t2 227 rfl rfl
theorem zl_L_98 : Cond.methodLink RL 98 yX8_look ∈ zG := z_t2 235 rfl rfl
theorem zl_X7_105 : Cond.methodLink RX7 105 yJ6_bitCount_0f7a4 ∈ zG := z_t3 3 rfl rfl
theorem zl_L_102 : Cond.methodLink RL 102 yX8_gusts ∈ zG := z_t3 4 rfl rfl
theorem zk_X8_207 : Cond.constantLong RX8 207 (-1000000000000000002) ∈ zG := z_t3 8 rfl rfl
theorem zl_X4_15 : Cond.methodLink RX4 15 yJ7_fill_53178 ∈ zG := z_t3 13 rfl rfl
theorem zl_X4_21 : Cond.methodLink RX4 21 yX4_all ∈ zG := z_t3 18 rfl rfl
theorem zl_L_107 : Cond.methodLink RL 107 yX8_spoon ∈ zG := z_t3 22 rfl rfl
theorem zl_L_111 : Cond.methodLink RL 111 yX8_year ∈ zG := z_t3 27 rfl rfl
theorem zk_X2_71 : Cond.constant RX2 71 (65537) ∈ zG := z_t3 35 rfl rfl
theorem zl_L_116 : Cond.methodLink RL 116 yX8_image ∈ zG := z_t3 37 rfl rfl
theorem zl_L_120 : Cond.methodLink RL 120 yX8_restore ∈ zG := z_t3 41 rfl rfl
theorem zl_L_124 : Cond.methodLink RL 124 yX8_told ∈ zG := z_t3 45 rfl rfl
theorem zl_X8_227 : Cond.methodLink RX8 227 yX8_toldOfOne ∈ zG := z_t3 49 rfl rfl
theorem zl_X8_230 : Cond.methodLink RX8 230 yX8_toldOfFlake ∈ zG := z_t3 53 rfl rfl
theorem zd_L_10 : Cond.classLink RL 10 RX9 ∈ zG := z_t3 57 rfl rfl
theorem zx_X9 : Cond.instantiable RX9 35 ∈ zG := z_t3 58 rfl rfl
theorem zl_L_12 : Cond.methodLink RL 12 yX9_init ∈ zG := z_t3 59 rfl rfl
theorem zl_X9_1 : Cond.methodLink RX9 1 objectInit ∈ zG := z_t3 62 rfl rfl
theorem zl_X9_90 : Cond.fieldLink RX9 90 "FlakePostModel" "there" "I" ∈ zG := z_t3 63 rfl rfl
theorem zl_X9_7 : Cond.fieldLink RX9 7 "FlakePostModel" "arm" "[I" ∈ zG := z_t3 64 rfl rfl
theorem zl_X9_13 : Cond.fieldLink RX9 13 "FlakePostModel" "place" "[I" ∈ zG := z_t3 65 rfl rfl
theorem zl_X9_16 : Cond.fieldLink RX9 16 "FlakePostModel" "height" "[I" ∈ zG := z_t3 66 rfl rfl
theorem zl_X9_19 : Cond.fieldLink RX9 19 "FlakePostModel" "meant" "[I" ∈ zG := z_t3 67 rfl rfl
theorem zl_X9_22 : Cond.fieldLink RX9 22 "FlakePostModel" "with" "[I" ∈ zG := z_t3 68 rfl rfl
theorem zl_X9_25 : Cond.fieldLink RX9 25 "FlakePostModel" "stood" "[I" ∈ zG := z_t3 69 rfl rfl
theorem zl_X9_28 : Cond.fieldLink RX9 28 "FlakePostModel" "covered" "[I" ∈ zG := z_t3 70 rfl rfl
theorem zl_X9_31 : Cond.fieldLink RX9 31 "FlakePostModel" "airs" "[I" ∈ zG := z_t3 71 rfl rfl
theorem zl_X9_34 : Cond.fieldLink RX9 34 "FlakePostModel" "sightFrom" "[I" ∈ zG := z_t3 72 rfl rfl
theorem zl_X9_37 : Cond.fieldLink RX9 37 "FlakePostModel" "sightTo" "[I" ∈ zG := z_t3 73 rfl rfl
theorem zl_X9_245 : Cond.fieldLink RX9 245 "FlakePostModel" "sights" "I" ∈ zG := z_t3 74 rfl rfl
theorem zl_X9_40 : Cond.fieldLink RX9 40 "FlakePostModel" "pad" "[I" ∈ zG := z_t3 75 rfl rfl
theorem zl_X9_120 : Cond.fieldLink RX9 120 "FlakePostModel" "padMany" "I" ∈ zG := z_t3 76 rfl rfl
theorem zl_X9_43 : Cond.fieldLink RX9 43 "FlakePostModel" "act" "[I" ∈ zG := z_t3 77 rfl rfl
theorem zl_X9_46 : Cond.fieldLink RX9 46 "FlakePostModel" "who" "[I" ∈ zG := z_t3 78 rfl rfl
theorem zl_X9_123 : Cond.fieldLink RX9 123 "FlakePostModel" "acts" "I" ∈ zG := z_t3 79 rfl rfl
theorem zl_X9_151 : Cond.fieldLink RX9 151 "FlakePostModel" "downMany" "I" ∈ zG := z_t3 80 rfl rfl
theorem zl_X9_154 : Cond.fieldLink RX9 154 "FlakePostModel" "firstPosted" "I" ∈ zG := z_t3 81 rfl rfl
theorem zl_X9_157 : Cond.fieldLink RX9 157 "FlakePostModel" "actNow" "I" ∈ zG := z_t3 82 rfl rfl
theorem zl_X9_49 : Cond.fieldLink RX9 49 "FlakePostModel" "had" "[I" ∈ zG := z_t3 83 rfl rfl
theorem zl_X9_173 : Cond.fieldLink RX9 173 "FlakePostModel" "badAct" "I" ∈ zG := z_t3 84 rfl rfl
theorem zl_X9_176 : Cond.fieldLink RX9 176 "FlakePostModel" "badWhy" "I" ∈ zG := z_t3 85 rfl rfl
theorem zl_X9_52 : Cond.fieldLink RX9 52 "FlakePostModel" "ways" "[J" ∈ zG := z_t3 86 rfl rfl
theorem zl_X9_56 : Cond.fieldLink RX9 56 "FlakePostModel" "off" "[I" ∈ zG := z_t3 87 rfl rfl
theorem zl_X9_59 : Cond.fieldLink RX9 59 "FlakePostModel" "mostBy" "[I" ∈ zG := z_t3 88 rfl rfl
theorem zl_X9_62 : Cond.fieldLink RX9 62 "FlakePostModel" "byArm" "[I" ∈ zG := z_t3 89 rfl rfl
theorem zl_X9_65 : Cond.fieldLink RX9 65 "FlakePostModel" "isLaw" "[Z" ∈ zG := z_t3 90 rfl rfl
theorem zl_X9_69 : Cond.fieldLink RX9 69 "FlakePostModel" "parts" "[J" ∈ zG := z_t3 91 rfl rfl
theorem zl_X9_72 : Cond.fieldLink RX9 72 "FlakePostModel" "partsThen" "[J" ∈ zG := z_t3 92 rfl rfl
theorem zl_X9_75 : Cond.fieldLink RX9 75 "FlakePostModel" "takes" "[I" ∈ zG := z_t3 93 rfl rfl
theorem zl_X9_78 : Cond.fieldLink RX9 78 "FlakePostModel" "kept" "[I" ∈ zG := z_t3 94 rfl rfl
theorem zl_X9_81 : Cond.fieldLink RX9 81 "FlakePostModel" "isKept" "[Z" ∈ zG := z_t3 95 rfl rfl
theorem zl_X9_290 : Cond.fieldLink RX9 290 "FlakePostModel" "keptAt" "I" ∈ zG := z_t3 96 rfl rfl
theorem zl_X9_286 : Cond.fieldLink RX9 286 "FlakePostModel" "isWriting" "Z" ∈ zG := z_t3 97 rfl rfl
theorem zl_L_17 : Cond.methodLink RL 17 yX9_flake ∈ zG := z_t3 171 rfl rfl
theorem zk_X9_84 : Cond.constantLong RX9 84 (7) ∈ zG := z_t3 175 rfl rfl
theorem zl_X9_86 : Cond.methodLink RX9 86 yX9_in ∈ zG := z_t3 176 rfl rfl
theorem zl_X9_98 : Cond.methodLink RX9 98 yX9_isOne ∈ zG := z_t3 179 rfl rfl
theorem zk_X9_94 : Cond.constantLong RX9 94 (5) ∈ zG := z_t3 182 rfl rfl
theorem zl_X9_102 : Cond.methodLink RX9 102 yX9_isArm ∈ zG := z_t3 183 rfl rfl
theorem zk_X9_96 : Cond.constantLong RX9 96 (255) ∈ zG := z_t3 186 rfl rfl
theorem zk_X9_105 : Cond.constantLong RX9 105 (15) ∈ zG := z_t3 187 rfl rfl
theorem zk_X9_107 : Cond.constantLong RX9 107 (9) ∈ zG := z_t3 188 rfl rfl
theorem zl_X9_109 : Cond.methodLink RX9 109 yX9_bitsOf ∈ zG := z_t3 189 rfl rfl
theorem zl_L_22 : Cond.methodLink RL 22 yX9_melt ∈ zG := z_t3 192 rfl rfl
theorem zl_X9_113 : Cond.methodLink RX9 113 yX9_isFlake ∈ zG := z_t3 196 rfl rfl
theorem zl_L_27 : Cond.methodLink RL 27 yX9_stand ∈ zG := z_t3 200 rfl rfl
theorem zl_L_31 : Cond.methodLink RL 31 yX9_air ∈ zG := z_t3 204 rfl rfl
theorem zl_L_35 : Cond.methodLink RL 35 yX9_say ∈ zG := z_t3 208 rfl rfl
theorem zk_X9_116 : Cond.constantLong RX9 116 (33) ∈ zG := z_t3 212 rfl rfl
theorem zk_X9_118 : Cond.constantLong RX9 118 (126) ∈ zG := z_t3 213 rfl rfl
theorem zl_L_40 : Cond.methodLink RL 40 yX9_wipe ∈ zG := z_t3 214 rfl rfl
theorem zl_L_44 : Cond.methodLink RL 44 yX9_fault ∈ zG := z_t3 218 rfl rfl
theorem zl_X9_133 : Cond.methodLink RX9 133 yX9_readOn ∈ zG := z_t3 222 rfl rfl
theorem zl_X9_126 : Cond.methodLink RX9 126 yX9_close ∈ zG := z_t3 226 rfl rfl
theorem zk_X9_129 : Cond.constantLong RX9 129 (65) ∈ zG := z_t3 230 rfl rfl
theorem zk_X9_131 : Cond.constantLong RX9 131 (70) ∈ zG := z_t3 231 rfl rfl
theorem zl_L_48 : Cond.methodLink RL 48 yX9_judge ∈ zG := z_t3 232 rfl rfl
theorem zk_X9_194 : Cond.constantLong RX9 194 (2) ∈ zG := z_t3 236 rfl rfl
theorem zl_X9_196 : Cond.methodLink RX9 196 yX9_refusal ∈ zG := z_t3 237 rfl rfl
theorem zl_X9_185 : Cond.methodLink RX9 185 yX9_keepNow ∈ zG := z_t4 1 rfl rfl
theorem zl_X9_188 : Cond.methodLink RX9 188 yX9_fault ∈ zG := z_t4 5 rfl rfl
theorem zl_X9_191 : Cond.methodLink RX9 191 yX9_goDays ∈ zG := z_t4 6 rfl rfl
theorem zl_X9_179 : Cond.methodLink RX9 179 yX9_whyNot ∈ zG := z_t4 10 rfl rfl
theorem zl_X9_140 : Cond.methodLink RX9 140 yX9_aboveMany ∈ zG := z_t4 14 rfl rfl
theorem zl_X9_137 : Cond.methodLink RX9 137 yX9_isAbove ∈ zG := z_t4 18 rfl rfl
theorem zl_X9_182 : Cond.methodLink RX9 182 yX9_happen ∈ zG := z_t4 22 rfl rfl
theorem zl_X9_164 : Cond.methodLink RX9 164 yX9_grow ∈ zG := z_t4 26 rfl rfl
theorem zl_X9_144 : Cond.methodLink RX9 144 yX9_grown ∈ zG := z_t4 30 rfl rfl
theorem zl_X9_167 : Cond.methodLink RX9 167 yX9_blow ∈ zG := z_t4 33 rfl rfl
theorem zl_X9_147 : Cond.methodLink RX9 147 yX9_blowOne ∈ zG := z_t4 37 rfl rfl
theorem zl_X9_170 : Cond.methodLink RX9 170 yX9_fall ∈ zG := z_t4 41 rfl rfl
theorem zl_X9_160 : Cond.methodLink RX9 160 yX9_comeDown ∈ zG := z_t4 45 rfl rfl
theorem zl_X9_199 : Cond.methodLink RX9 199 yX9_back ∈ zG := z_t4 49 rfl rfl
theorem zl_L_52 : Cond.methodLink RL 52 yX9_behind ∈ zG := z_t4 53 rfl rfl
theorem zk_X9_202 : Cond.constantLong RX9 202 (3) ∈ zG := z_t4 57 rfl rfl
theorem zl_X9_204 : Cond.methodLink RX9 204 yX9_ofFlake ∈ zG := z_t4 58 rfl rfl
theorem zl_L_56 : Cond.methodLink RL 56 yX9_stands ∈ zG := z_t4 62 rfl rfl
theorem zl_X9_207 : Cond.methodLink RX9 207 yX9_flakesOf ∈ zG := z_t4 66 rfl rfl
theorem zl_L_60 : Cond.methodLink RL 60 yX9_posted ∈ zG := z_t4 70 rfl rfl
theorem zl_X9_210 : Cond.methodLink RX9 210 yX9_postedNow ∈ zG := z_t4 74 rfl rfl
theorem zl_X9_213 : Cond.methodLink RX9 213 yX9_riverNow ∈ zG := z_t4 78 rfl rfl
theorem zl_L_64 : Cond.methodLink RL 64 yX9_done ∈ zG := z_t4 82 rfl rfl
theorem zl_L_68 : Cond.methodLink RL 68 yX9_says ∈ zG := z_t4 86 rfl rfl
theorem zl_L_73 : Cond.methodLink RL 73 yX9_grew ∈ zG := z_t4 90 rfl rfl
theorem zk_X9_216 : Cond.constantLong RX9 216 (10) ∈ zG := z_t4 94 rfl rfl
theorem zk_X9_218 : Cond.constantLong RX9 218 (-2) ∈ zG := z_t4 95 rfl rfl
theorem zl_X9_220 : Cond.methodLink RX9 220 yX9_findWays ∈ zG := z_t4 96 rfl rfl
theorem zk_X9_223 : Cond.constantLong RX9 223 (-6) ∈ zG := z_t4 100 rfl rfl
theorem zl_X9_225 : Cond.methodLink RX9 225 yX9_firstAirs ∈ zG := z_t4 101 rfl rfl
theorem zl_L_77 : Cond.methodLink RL 77 yX9_soon ∈ zG := z_t4 105 rfl rfl
theorem zl_X9_229 : Cond.methodLink RX9 229 yX9_findOff ∈ zG := z_t4 109 rfl rfl
theorem zl_L_81 : Cond.methodLink RL 81 yX9_most ∈ zG := z_t4 113 rfl rfl
theorem zl_X9_236 : Cond.methodLink RX9 236 yX9_canGetOwn ∈ zG := z_t4 117 rfl rfl
theorem zl_X9_232 : Cond.methodLink RX9 232 yX9_canGet ∈ zG := z_t4 121 rfl rfl
theorem zl_X9_239 : Cond.methodLink RX9 239 yX9_addFlake ∈ zG := z_t4 125 rfl rfl
theorem zl_L_85 : Cond.methodLink RL 85 yX9_patch ∈ zG := z_t4 129 rfl rfl
theorem zl_X9_242 : Cond.methodLink RX9 242 yX9_isFree ∈ zG := z_t4 133 rfl rfl
theorem zl_L_89 : Cond.methodLink RL 89 yX9_seen ∈ zG := z_t4 137 rfl rfl
theorem zl_L_93 : Cond.methodLink RL 93 yX9_forget ∈ zG := z_t4 141 rfl rfl
theorem zl_L_97 : Cond.methodLink RL 97 yX9_laws ∈ zG := z_t4 145 rfl rfl
theorem zl_X9_248 : Cond.methodLink RX9 248 yX9_fits ∈ zG := z_t4 149 rfl rfl
theorem zl_L_101 : Cond.methodLink RL 101 yX9_look ∈ zG := z_t4 153 rfl rfl
theorem zl_X9_251 : Cond.methodLink RX9 251 yX9_mostLeft ∈ zG := z_t4 157 rfl rfl
theorem zl_L_106 : Cond.methodLink RL 106 yX9_gusts ∈ zG := z_t4 161 rfl rfl
theorem zl_X9_258 : Cond.methodLink RX9 258 yX9_areGusts ∈ zG := z_t4 165 rfl rfl
theorem zk_X9_254 : Cond.constantLong RX9 254 (6) ∈ zG := z_t4 168 rfl rfl
theorem zk_X9_256 : Cond.constantLong RX9 256 (-1) ∈ zG := z_t4 169 rfl rfl
theorem zk_X9_262 : Cond.constantLong RX9 262 (-1000000000000000002) ∈ zG := z_t4 170 rfl rfl
theorem zl_X9_264 : Cond.methodLink RX9 264 yX9_gust ∈ zG := z_t4 171 rfl rfl
theorem zl_X9_267 : Cond.methodLink RX9 267 yX9_lowest ∈ zG := z_t4 175 rfl rfl
theorem zl_L_110 : Cond.methodLink RL 110 yX9_spoon ∈ zG := z_t4 178 rfl rfl
theorem zk_X9_271 : Cond.constantLong RX9 271 (60) ∈ zG := z_t4 182 rfl rfl
theorem zl_X9_273 : Cond.methodLink RX9 273 yX9_bestTake ∈ zG := z_t4 183 rfl rfl
theorem zl_L_115 : Cond.methodLink RL 115 yX9_year ∈ zG := z_t4 187 rfl rfl
theorem zk_X9_276 : Cond.constantLong RX9 276 (9999) ∈ zG := z_t4 191 rfl rfl
theorem zk_X9_278 : Cond.constantLong RX9 278 (99) ∈ zG := z_t4 192 rfl rfl
theorem zk_X9_280 : Cond.constantLong RX9 280 (75) ∈ zG := z_t4 193 rfl rfl
theorem zk_X9_282 : Cond.constantLong RX9 282 (74) ∈ zG := z_t4 194 rfl rfl
theorem zk_X9_284 : Cond.constantLong RX9 284 (65537) ∈ zG := z_t4 195 rfl rfl
theorem zl_L_119 : Cond.methodLink RL 119 yX9_image ∈ zG := z_t4 196 rfl rfl
theorem zl_X9_300 : Cond.methodLink RX9 300 yX9_passAll ∈ zG := z_t4 200 rfl rfl
theorem zl_X9_293 : Cond.methodLink RX9 293 yX9_pass ∈ zG := z_t4 204 rfl rfl
theorem zl_X9_296 : Cond.methodLink RX9 296 yX9_passRow ∈ zG := z_t4 208 rfl rfl
theorem zl_L_123 : Cond.methodLink RL 123 yX9_restore ∈ zG := z_t4 212 rfl rfl
theorem zl_L_127 : Cond.methodLink RL 127 yX9_told ∈ zG := z_t4 216 rfl rfl
theorem zk_X9_303 : Cond.constantLong RX9 303 (100) ∈ zG := z_t4 220 rfl rfl
theorem zk_X9_305 : Cond.constantLong RX9 305 (159) ∈ zG := z_t4 221 rfl rfl
theorem zk_X9_307 : Cond.constantLong RX9 307 (89) ∈ zG := z_t4 222 rfl rfl
theorem zl_X9_309 : Cond.methodLink RX9 309 yX9_toldOf ∈ zG := z_t4 223 rfl rfl
theorem zw_native : Cond.native arraycopyName ∈ zG := z_t2 61 rfl rfl
theorem zw_nstat : Cond.static arraycopyName ∈ zG := z_t2 60 rfl rfl
theorem zw_nini : Cond.initialized "java/lang/System" ∈ zG := z_t1 10 rfl rfl
theorem zw_oi : Cond.instanceMethod objectInit ∈ zG := z_t1 21 rfl rfl
theorem zw_oc : Cond.code objectInit ⟨#[0xb1]⟩ 1 none ∈ zG := z_t1 22 rfl rfl
theorem zw_acint : Cond.arrayClass .int ∈ zG := z_t1 86 rfl rfl
theorem zw_aclong : Cond.arrayClass .long ∈ zG := z_t3 169 rfl rfl
theorem zw_acboolean : Cond.arrayClass .boolean ∈ zG := z_t3 170 rfl rfl
def zN : List Cond := [Cond.methodLinkNest RX8 9 yX7_init RX8,
  Cond.fieldLinkNest RX8 67 "FlakePost$Yard" "there" "I" RX8,
  Cond.fieldLinkNest RX8 122 "FlakePost$Yard" "arm" "[I" RX8,
  Cond.fieldLinkNest RX1 18 "FlakePost$Yard" "place" "[I" RX8,
  Cond.fieldLinkNest RX8 125 "FlakePost$Yard" "place" "[I" RX8,
  Cond.fieldLinkNest RX1 9 "FlakePost$Yard" "height" "[I" RX8,
  Cond.fieldLinkNest RX8 128 "FlakePost$Yard" "height" "[I" RX8,
  Cond.fieldLinkNest RX1 27 "FlakePost$Yard" "addressee" "[I" RX8,
  Cond.fieldLinkNest RX8 233 "FlakePost$Yard" "addressee" "[I" RX8,
  Cond.fieldLinkNest RX8 131 "FlakePost$Yard" "with" "[I" RX8,
  Cond.fieldLinkNest RX1 15 "FlakePost$Yard" "standing" "[I" RX8,
  Cond.fieldLinkNest RX8 84 "FlakePost$Yard" "standing" "[I" RX8,
  Cond.fieldLinkNest RX8 88 "FlakePost$Yard" "umbrellas" "I" RX8,
  Cond.fieldLinkNest RX8 91 "FlakePost$Yard" "coldLaw" "I" RX8,
  Cond.fieldLinkNest RX8 94 "FlakePost$Yard" "dampLaw" "I" RX8,
  Cond.fieldLinkNest RX8 188 "FlakePost$Yard" "sights" "I" RX8,
  Cond.fieldLinkNest RX8 195 "FlakePost$Yard" "lawHas" "I" RX8,
  Cond.fieldLinkNest RX8 198 "FlakePost$Yard" "lawLacks" "I" RX8,
  Cond.methodLinkNest RX8 26 yX5_init RX8,
  Cond.fieldLinkNest RX8 100 "FlakePost$Pad" "count" "I" RX8,
  Cond.fieldLinkNest RX2 40 "FlakePost$Pad" "kinds" "[I" RX8,
  Cond.fieldLinkNest RX2 44 "FlakePost$Pad" "ones" "[I" RX8,
  Cond.fieldLinkNest RX2 35 "FlakePost$Pad" "acts" "I" RX8,
  Cond.fieldLinkNest RX8 154 "FlakePost$Pad" "acts" "I" RX8,
  Cond.methodLinkNest RX8 33 yX2_init RX8,
  Cond.methodLinkNest RX2 11 yX7_init RX8,
  Cond.fieldLinkNest RX8 119 "FlakePost$Day" "after" "LFlakePost$Yard;" RX8,
  Cond.fieldLinkNest RX8 110 "FlakePost$Day" "badAct" "I" RX8,
  Cond.fieldLinkNest RX8 113 "FlakePost$Day" "badWhy" "I" RX8,
  Cond.fieldLinkNest RX8 144 "FlakePost$Day" "firstDelivery" "I" RX8,
  Cond.methodLinkNest RX8 40 yX0_init RX8,
  Cond.methodLinkNest RX8 47 yX4_init RX8,
  Cond.methodLinkNest RX8 54 yX6_init RX8,
  Cond.methodLinkNest RX6 19 yX8_bit RX8,
  Cond.methodLinkNest RX8 63 yX7_putFlake RX8,
  Cond.methodLinkNest RX8 76 yX7_has RX8,
  Cond.methodLinkNest RX7 58 yX8_isBelow RX8,
  Cond.methodLinkNest RX7 62 yX8_bit RX8,
  Cond.methodLinkNest RX8 80 yX7_removeFlake RX8,
  Cond.methodLinkNest RX8 97 yX5_add RX8,
  Cond.methodLinkNest RX8 103 yX5_readActs RX8,
  Cond.methodLinkNest RX8 236 yX2_live RX8,
  Cond.methodLinkNest RX2 59 yX7_copy RX8,
  Cond.methodLinkNest RX2 62 yX7_down RX8,
  Cond.methodLinkNest RX2 47 yX7_whyNot RX8,
  Cond.methodLinkNest RX2 51 yX7_delivered RX8,
  Cond.methodLinkNest RX2 55 yX7_carryOut RX8,
  Cond.methodLinkNest RX7 90 yX3_grown RX8,
  Cond.methodLinkNest RX3 15 yX8_bit RX8,
  Cond.methodLinkNest RX8 116 yX2_cameDown RX8,
  Cond.methodLinkNest RX8 138 yX7_flakesWith RX8,
  Cond.methodLinkNest RX8 141 yX7_delivered RX8,
  Cond.methodLinkNest RX8 147 yX7_inRiver RX8,
  Cond.methodLinkNest RX8 150 yX7_copy RX8,
  Cond.methodLinkNest RX8 157 yX3_readAloud RX8,
  Cond.methodLinkNest RX8 164 yX3_rows RX8,
  Cond.methodLinkNest RX8 168 yX3_firstRow RX8,
  Cond.methodLinkNest RX8 172 yX0_fewestAirs RX8,
  Cond.methodLinkNest RX0 32 yX3_grown RX8,
  Cond.methodLinkNest RX8 176 yX1_byAddressees RX8,
  Cond.methodLinkNest RX8 182 yX1_byWhoever RX8,
  Cond.methodLinkNest RX1 49 yX8_bit RX8,
  Cond.methodLinkNest RX8 185 yX7_trodden RX8,
  Cond.methodLinkNest RX8 191 yX7_addSight RX8,
  Cond.methodLinkNest RX7 102 yX3_around RX8,
  Cond.methodLinkNest RX8 201 yX7_fits RX8,
  Cond.methodLinkNest RX8 204 yX7_lawsLeftBy RX8,
  Cond.methodLinkNest RX8 209 yX4_fall RX8,
  Cond.methodLinkNest RX8 213 yX4_chance RX8,
  Cond.methodLinkNest RX8 217 yX6_winningTake RX8,
  Cond.methodLinkNest RX8 220 yX2_dreamYear RX8,
  Cond.methodLinkNest RX8 224 yX7_falling RX8]
theorem zn_X8_9 : Cond.methodLinkNest RX8 9 yX7_init RX8 ∈ zN := List.mem_of_getElem? (i := 0) rfl
theorem zn_X8_67 : Cond.fieldLinkNest RX8 67 "FlakePost$Yard" "there" "I" RX8 ∈ zN := List.mem_of_getElem? (i := 1) rfl
theorem zn_X8_122 : Cond.fieldLinkNest RX8 122 "FlakePost$Yard" "arm" "[I" RX8 ∈ zN := List.mem_of_getElem? (i := 2) rfl
theorem zn_X1_18 : Cond.fieldLinkNest RX1 18 "FlakePost$Yard" "place" "[I" RX8 ∈ zN := List.mem_of_getElem? (i := 3) rfl
theorem zn_X8_125 : Cond.fieldLinkNest RX8 125 "FlakePost$Yard" "place" "[I" RX8 ∈ zN := List.mem_of_getElem? (i := 4) rfl
theorem zn_X1_9 : Cond.fieldLinkNest RX1 9 "FlakePost$Yard" "height" "[I" RX8 ∈ zN := List.mem_of_getElem? (i := 5) rfl
theorem zn_X8_128 : Cond.fieldLinkNest RX8 128 "FlakePost$Yard" "height" "[I" RX8 ∈ zN := List.mem_of_getElem? (i := 6) rfl
theorem zn_X1_27 : Cond.fieldLinkNest RX1 27 "FlakePost$Yard" "addressee" "[I" RX8 ∈ zN := List.mem_of_getElem? (i := 7) rfl
theorem zn_X8_233 : Cond.fieldLinkNest RX8 233 "FlakePost$Yard" "addressee" "[I" RX8 ∈ zN := List.mem_of_getElem? (i := 8) rfl
theorem zn_X8_131 : Cond.fieldLinkNest RX8 131 "FlakePost$Yard" "with" "[I" RX8 ∈ zN := List.mem_of_getElem? (i := 9) rfl
theorem zn_X1_15 : Cond.fieldLinkNest RX1 15 "FlakePost$Yard" "standing" "[I" RX8 ∈ zN := List.mem_of_getElem? (i := 10) rfl
theorem zn_X8_84 : Cond.fieldLinkNest RX8 84 "FlakePost$Yard" "standing" "[I" RX8 ∈ zN := List.mem_of_getElem? (i := 11) rfl
theorem zn_X8_88 : Cond.fieldLinkNest RX8 88 "FlakePost$Yard" "umbrellas" "I" RX8 ∈ zN := List.mem_of_getElem? (i := 12) rfl
theorem zn_X8_91 : Cond.fieldLinkNest RX8 91 "FlakePost$Yard" "coldLaw" "I" RX8 ∈ zN := List.mem_of_getElem? (i := 13) rfl
theorem zn_X8_94 : Cond.fieldLinkNest RX8 94 "FlakePost$Yard" "dampLaw" "I" RX8 ∈ zN := List.mem_of_getElem? (i := 14) rfl
theorem zn_X8_188 : Cond.fieldLinkNest RX8 188 "FlakePost$Yard" "sights" "I" RX8 ∈ zN := List.mem_of_getElem? (i := 15) rfl
theorem zn_X8_195 : Cond.fieldLinkNest RX8 195 "FlakePost$Yard" "lawHas" "I" RX8 ∈ zN := List.mem_of_getElem? (i := 16) rfl
theorem zn_X8_198 : Cond.fieldLinkNest RX8 198 "FlakePost$Yard" "lawLacks" "I" RX8 ∈ zN := List.mem_of_getElem? (i := 17) rfl
theorem zn_X8_26 : Cond.methodLinkNest RX8 26 yX5_init RX8 ∈ zN := List.mem_of_getElem? (i := 18) rfl
theorem zn_X8_100 : Cond.fieldLinkNest RX8 100 "FlakePost$Pad" "count" "I" RX8 ∈ zN := List.mem_of_getElem? (i := 19) rfl
theorem zn_X2_40 : Cond.fieldLinkNest RX2 40 "FlakePost$Pad" "kinds" "[I" RX8 ∈ zN := List.mem_of_getElem? (i := 20) rfl
theorem zn_X2_44 : Cond.fieldLinkNest RX2 44 "FlakePost$Pad" "ones" "[I" RX8 ∈ zN := List.mem_of_getElem? (i := 21) rfl
theorem zn_X2_35 : Cond.fieldLinkNest RX2 35 "FlakePost$Pad" "acts" "I" RX8 ∈ zN := List.mem_of_getElem? (i := 22) rfl
theorem zn_X8_154 : Cond.fieldLinkNest RX8 154 "FlakePost$Pad" "acts" "I" RX8 ∈ zN := List.mem_of_getElem? (i := 23) rfl
theorem zn_X8_33 : Cond.methodLinkNest RX8 33 yX2_init RX8 ∈ zN := List.mem_of_getElem? (i := 24) rfl
theorem zn_X2_11 : Cond.methodLinkNest RX2 11 yX7_init RX8 ∈ zN := List.mem_of_getElem? (i := 25) rfl
theorem zn_X8_119 : Cond.fieldLinkNest RX8 119 "FlakePost$Day" "after" "LFlakePost$Yard;" RX8 ∈ zN := List.mem_of_getElem? (i := 26) rfl
theorem zn_X8_110 : Cond.fieldLinkNest RX8 110 "FlakePost$Day" "badAct" "I" RX8 ∈ zN := List.mem_of_getElem? (i := 27) rfl
theorem zn_X8_113 : Cond.fieldLinkNest RX8 113 "FlakePost$Day" "badWhy" "I" RX8 ∈ zN := List.mem_of_getElem? (i := 28) rfl
theorem zn_X8_144 : Cond.fieldLinkNest RX8 144 "FlakePost$Day" "firstDelivery" "I" RX8 ∈ zN := List.mem_of_getElem? (i := 29) rfl
theorem zn_X8_40 : Cond.methodLinkNest RX8 40 yX0_init RX8 ∈ zN := List.mem_of_getElem? (i := 30) rfl
theorem zn_X8_47 : Cond.methodLinkNest RX8 47 yX4_init RX8 ∈ zN := List.mem_of_getElem? (i := 31) rfl
theorem zn_X8_54 : Cond.methodLinkNest RX8 54 yX6_init RX8 ∈ zN := List.mem_of_getElem? (i := 32) rfl
theorem zn_X6_19 : Cond.methodLinkNest RX6 19 yX8_bit RX8 ∈ zN := List.mem_of_getElem? (i := 33) rfl
theorem zn_X8_63 : Cond.methodLinkNest RX8 63 yX7_putFlake RX8 ∈ zN := List.mem_of_getElem? (i := 34) rfl
theorem zn_X8_76 : Cond.methodLinkNest RX8 76 yX7_has RX8 ∈ zN := List.mem_of_getElem? (i := 35) rfl
theorem zn_X7_58 : Cond.methodLinkNest RX7 58 yX8_isBelow RX8 ∈ zN := List.mem_of_getElem? (i := 36) rfl
theorem zn_X7_62 : Cond.methodLinkNest RX7 62 yX8_bit RX8 ∈ zN := List.mem_of_getElem? (i := 37) rfl
theorem zn_X8_80 : Cond.methodLinkNest RX8 80 yX7_removeFlake RX8 ∈ zN := List.mem_of_getElem? (i := 38) rfl
theorem zn_X8_97 : Cond.methodLinkNest RX8 97 yX5_add RX8 ∈ zN := List.mem_of_getElem? (i := 39) rfl
theorem zn_X8_103 : Cond.methodLinkNest RX8 103 yX5_readActs RX8 ∈ zN := List.mem_of_getElem? (i := 40) rfl
theorem zn_X8_236 : Cond.methodLinkNest RX8 236 yX2_live RX8 ∈ zN := List.mem_of_getElem? (i := 41) rfl
theorem zn_X2_59 : Cond.methodLinkNest RX2 59 yX7_copy RX8 ∈ zN := List.mem_of_getElem? (i := 42) rfl
theorem zn_X2_62 : Cond.methodLinkNest RX2 62 yX7_down RX8 ∈ zN := List.mem_of_getElem? (i := 43) rfl
theorem zn_X2_47 : Cond.methodLinkNest RX2 47 yX7_whyNot RX8 ∈ zN := List.mem_of_getElem? (i := 44) rfl
theorem zn_X2_51 : Cond.methodLinkNest RX2 51 yX7_delivered RX8 ∈ zN := List.mem_of_getElem? (i := 45) rfl
theorem zn_X2_55 : Cond.methodLinkNest RX2 55 yX7_carryOut RX8 ∈ zN := List.mem_of_getElem? (i := 46) rfl
theorem zn_X7_90 : Cond.methodLinkNest RX7 90 yX3_grown RX8 ∈ zN := List.mem_of_getElem? (i := 47) rfl
theorem zn_X3_15 : Cond.methodLinkNest RX3 15 yX8_bit RX8 ∈ zN := List.mem_of_getElem? (i := 48) rfl
theorem zn_X8_116 : Cond.methodLinkNest RX8 116 yX2_cameDown RX8 ∈ zN := List.mem_of_getElem? (i := 49) rfl
theorem zn_X8_138 : Cond.methodLinkNest RX8 138 yX7_flakesWith RX8 ∈ zN := List.mem_of_getElem? (i := 50) rfl
theorem zn_X8_141 : Cond.methodLinkNest RX8 141 yX7_delivered RX8 ∈ zN := List.mem_of_getElem? (i := 51) rfl
theorem zn_X8_147 : Cond.methodLinkNest RX8 147 yX7_inRiver RX8 ∈ zN := List.mem_of_getElem? (i := 52) rfl
theorem zn_X8_150 : Cond.methodLinkNest RX8 150 yX7_copy RX8 ∈ zN := List.mem_of_getElem? (i := 53) rfl
theorem zn_X8_157 : Cond.methodLinkNest RX8 157 yX3_readAloud RX8 ∈ zN := List.mem_of_getElem? (i := 54) rfl
theorem zn_X8_164 : Cond.methodLinkNest RX8 164 yX3_rows RX8 ∈ zN := List.mem_of_getElem? (i := 55) rfl
theorem zn_X8_168 : Cond.methodLinkNest RX8 168 yX3_firstRow RX8 ∈ zN := List.mem_of_getElem? (i := 56) rfl
theorem zn_X8_172 : Cond.methodLinkNest RX8 172 yX0_fewestAirs RX8 ∈ zN := List.mem_of_getElem? (i := 57) rfl
theorem zn_X0_32 : Cond.methodLinkNest RX0 32 yX3_grown RX8 ∈ zN := List.mem_of_getElem? (i := 58) rfl
theorem zn_X8_176 : Cond.methodLinkNest RX8 176 yX1_byAddressees RX8 ∈ zN := List.mem_of_getElem? (i := 59) rfl
theorem zn_X8_182 : Cond.methodLinkNest RX8 182 yX1_byWhoever RX8 ∈ zN := List.mem_of_getElem? (i := 60) rfl
theorem zn_X1_49 : Cond.methodLinkNest RX1 49 yX8_bit RX8 ∈ zN := List.mem_of_getElem? (i := 61) rfl
theorem zn_X8_185 : Cond.methodLinkNest RX8 185 yX7_trodden RX8 ∈ zN := List.mem_of_getElem? (i := 62) rfl
theorem zn_X8_191 : Cond.methodLinkNest RX8 191 yX7_addSight RX8 ∈ zN := List.mem_of_getElem? (i := 63) rfl
theorem zn_X7_102 : Cond.methodLinkNest RX7 102 yX3_around RX8 ∈ zN := List.mem_of_getElem? (i := 64) rfl
theorem zn_X8_201 : Cond.methodLinkNest RX8 201 yX7_fits RX8 ∈ zN := List.mem_of_getElem? (i := 65) rfl
theorem zn_X8_204 : Cond.methodLinkNest RX8 204 yX7_lawsLeftBy RX8 ∈ zN := List.mem_of_getElem? (i := 66) rfl
theorem zn_X8_209 : Cond.methodLinkNest RX8 209 yX4_fall RX8 ∈ zN := List.mem_of_getElem? (i := 67) rfl
theorem zn_X8_213 : Cond.methodLinkNest RX8 213 yX4_chance RX8 ∈ zN := List.mem_of_getElem? (i := 68) rfl
theorem zn_X8_217 : Cond.methodLinkNest RX8 217 yX6_winningTake RX8 ∈ zN := List.mem_of_getElem? (i := 69) rfl
theorem zn_X8_220 : Cond.methodLinkNest RX8 220 yX2_dreamYear RX8 ∈ zN := List.mem_of_getElem? (i := 70) rfl
theorem zn_X8_224 : Cond.methodLinkNest RX8 224 yX7_falling RX8 ∈ zN := List.mem_of_getElem? (i := 71) rfl
theorem zN_in : ∀ w ∈ zN, w ∈ tables_1 := by
  intro w hw
  obtain ⟨i, hi⟩ := List.getElem?_of_mem hw
  have hlt : i < 72 := (List.getElem?_eq_some_iff.mp hi).1
  have key : ∀ (i : Nat) (w : Cond), i < 72 → zN[i]? = some w → w ∈ tables_1 := by
    intro i w hlt hi
    match i, hlt, hi with
    | 0, _, hi => cases hi; exact List.mem_append_left _ (List.mem_of_getElem? (i := 25) rfl)
    | 1, _, hi => cases hi; exact List.mem_append_left _ (List.mem_of_getElem? (i := 30) rfl)
    | 2, _, hi => cases hi; exact List.mem_append_left _ (List.mem_of_getElem? (i := 32) rfl)
    | 3, _, hi => cases hi; exact List.mem_append_left _ (List.mem_of_getElem? (i := 34) rfl)
    | 4, _, hi => cases hi; exact List.mem_append_left _ (List.mem_of_getElem? (i := 35) rfl)
    | 5, _, hi => cases hi; exact List.mem_append_left _ (List.mem_of_getElem? (i := 37) rfl)
    | 6, _, hi => cases hi; exact List.mem_append_left _ (List.mem_of_getElem? (i := 38) rfl)
    | 7, _, hi => cases hi; exact List.mem_append_left _ (List.mem_of_getElem? (i := 40) rfl)
    | 8, _, hi => cases hi; exact List.mem_append_left _ (List.mem_of_getElem? (i := 41) rfl)
    | 9, _, hi => cases hi; exact List.mem_append_left _ (List.mem_of_getElem? (i := 43) rfl)
    | 10, _, hi => cases hi; exact List.mem_append_left _ (List.mem_of_getElem? (i := 45) rfl)
    | 11, _, hi => cases hi; exact List.mem_append_left _ (List.mem_of_getElem? (i := 46) rfl)
    | 12, _, hi => cases hi; exact List.mem_append_left _ (List.mem_of_getElem? (i := 48) rfl)
    | 13, _, hi => cases hi; exact List.mem_append_left _ (List.mem_of_getElem? (i := 50) rfl)
    | 14, _, hi => cases hi; exact List.mem_append_left _ (List.mem_of_getElem? (i := 52) rfl)
    | 15, _, hi => cases hi; exact List.mem_append_left _ (List.mem_of_getElem? (i := 54) rfl)
    | 16, _, hi => cases hi; exact List.mem_append_left _ (List.mem_of_getElem? (i := 56) rfl)
    | 17, _, hi => cases hi; exact List.mem_append_left _ (List.mem_of_getElem? (i := 58) rfl)
    | 18, _, hi => cases hi; exact List.mem_append_left _ (List.mem_of_getElem? (i := 90) rfl)
    | 19, _, hi => cases hi; exact List.mem_append_left _ (List.mem_of_getElem? (i := 96) rfl)
    | 20, _, hi => cases hi; exact List.mem_append_left _ (List.mem_of_getElem? (i := 98) rfl)
    | 21, _, hi => cases hi; exact List.mem_append_left _ (List.mem_of_getElem? (i := 100) rfl)
    | 22, _, hi => cases hi; exact List.mem_append_left _ (List.mem_of_getElem? (i := 102) rfl)
    | 23, _, hi => cases hi; exact List.mem_append_left _ (List.mem_of_getElem? (i := 103) rfl)
    | 24, _, hi => cases hi; exact List.mem_append_left _ (List.mem_of_getElem? (i := 117) rfl)
    | 25, _, hi => cases hi; exact List.mem_append_left _ (List.mem_of_getElem? (i := 122) rfl)
    | 26, _, hi => cases hi; exact List.mem_append_left _ (List.mem_of_getElem? (i := 124) rfl)
    | 27, _, hi => cases hi; exact List.mem_append_left _ (List.mem_of_getElem? (i := 126) rfl)
    | 28, _, hi => cases hi; exact List.mem_append_left _ (List.mem_of_getElem? (i := 128) rfl)
    | 29, _, hi => cases hi; exact List.mem_append_left _ (List.mem_of_getElem? (i := 130) rfl)
    | 30, _, hi => cases hi; exact List.mem_append_left _ (List.mem_of_getElem? (i := 145) rfl)
    | 31, _, hi => cases hi; exact List.mem_append_left _ (List.mem_of_getElem? (i := 161) rfl)
    | 32, _, hi => cases hi; exact List.mem_append_left _ (List.mem_of_getElem? (i := 171) rfl)
    | 33, _, hi => cases hi; exact List.mem_append_left _ (List.mem_of_getElem? (i := 179) rfl)
    | 34, _, hi => cases hi; exact List.mem_append_left _ (List.mem_of_getElem? (i := 218) rfl)
    | 35, _, hi => cases hi; exact List.mem_append_left _ (List.mem_of_getElem? (i := 232) rfl)
    | 36, _, hi => cases hi; exact List.mem_append_left _ (List.mem_of_getElem? (i := 236) rfl)
    | 37, _, hi => cases hi; exact List.mem_append_left _ (List.mem_of_getElem? (i := 237) rfl)
    | 38, _, hi => cases hi; exact List.mem_append_left _ (List.mem_of_getElem? (i := 238) rfl)
    | 39, _, hi => cases hi; exact List.mem_append_right _ (List.mem_append_left _ (List.mem_of_getElem? (i := 14) rfl))
    | 40, _, hi => cases hi; exact List.mem_append_right _ (List.mem_append_left _ (List.mem_of_getElem? (i := 26) rfl))
    | 41, _, hi => cases hi; exact List.mem_append_right _ (List.mem_append_left _ (List.mem_of_getElem? (i := 47) rfl))
    | 42, _, hi => cases hi; exact List.mem_append_right _ (List.mem_append_left _ (List.mem_of_getElem? (i := 55) rfl))
    | 43, _, hi => cases hi; exact List.mem_append_right _ (List.mem_append_left _ (List.mem_of_getElem? (i := 62) rfl))
    | 44, _, hi => cases hi; exact List.mem_append_right _ (List.mem_append_left _ (List.mem_of_getElem? (i := 74) rfl))
    | 45, _, hi => cases hi; exact List.mem_append_right _ (List.mem_append_left _ (List.mem_of_getElem? (i := 78) rfl))
    | 46, _, hi => cases hi; exact List.mem_append_right _ (List.mem_append_left _ (List.mem_of_getElem? (i := 82) rfl))
    | 47, _, hi => cases hi; exact List.mem_append_right _ (List.mem_append_left _ (List.mem_of_getElem? (i := 90) rfl))
    | 48, _, hi => cases hi; exact List.mem_append_right _ (List.mem_append_left _ (List.mem_of_getElem? (i := 96) rfl))
    | 49, _, hi => cases hi; exact List.mem_append_right _ (List.mem_append_left _ (List.mem_of_getElem? (i := 113) rfl))
    | 50, _, hi => cases hi; exact List.mem_append_right _ (List.mem_append_left _ (List.mem_of_getElem? (i := 127) rfl))
    | 51, _, hi => cases hi; exact List.mem_append_right _ (List.mem_append_left _ (List.mem_of_getElem? (i := 135) rfl))
    | 52, _, hi => cases hi; exact List.mem_append_right _ (List.mem_append_left _ (List.mem_of_getElem? (i := 136) rfl))
    | 53, _, hi => cases hi; exact List.mem_append_right _ (List.mem_append_left _ (List.mem_of_getElem? (i := 141) rfl))
    | 54, _, hi => cases hi; exact List.mem_append_right _ (List.mem_append_left _ (List.mem_of_getElem? (i := 146) rfl))
    | 55, _, hi => cases hi; exact List.mem_append_right _ (List.mem_append_left _ (List.mem_of_getElem? (i := 154) rfl))
    | 56, _, hi => cases hi; exact List.mem_append_right _ (List.mem_append_left _ (List.mem_of_getElem? (i := 159) rfl))
    | 57, _, hi => cases hi; exact List.mem_append_right _ (List.mem_append_left _ (List.mem_of_getElem? (i := 168) rfl))
    | 58, _, hi => cases hi; exact List.mem_append_right _ (List.mem_append_left _ (List.mem_of_getElem? (i := 179) rfl))
    | 59, _, hi => cases hi; exact List.mem_append_right _ (List.mem_append_left _ (List.mem_of_getElem? (i := 184) rfl))
    | 60, _, hi => cases hi; exact List.mem_append_right _ (List.mem_append_left _ (List.mem_of_getElem? (i := 194) rfl))
    | 61, _, hi => cases hi; exact List.mem_append_right _ (List.mem_append_left _ (List.mem_of_getElem? (i := 200) rfl))
    | 62, _, hi => cases hi; exact List.mem_append_right _ (List.mem_append_left _ (List.mem_of_getElem? (i := 208) rfl))
    | 63, _, hi => cases hi; exact List.mem_append_right _ (List.mem_append_left _ (List.mem_of_getElem? (i := 218) rfl))
    | 64, _, hi => cases hi; exact List.mem_append_right _ (List.mem_append_left _ (List.mem_of_getElem? (i := 222) rfl))
    | 65, _, hi => cases hi; exact List.mem_append_right _ (List.mem_append_left _ (List.mem_of_getElem? (i := 231) rfl))
    | 66, _, hi => cases hi; exact List.mem_append_right _ (List.mem_append_left _ (List.mem_of_getElem? (i := 239) rfl))
    | 67, _, hi => cases hi; exact List.mem_append_right _ (List.mem_append_right _ (List.mem_append_left _ (List.mem_of_getElem? (i := 9) rfl)))
    | 68, _, hi => cases hi; exact List.mem_append_right _ (List.mem_append_right _ (List.mem_append_left _ (List.mem_of_getElem? (i := 14) rfl)))
    | 69, _, hi => cases hi; exact List.mem_append_right _ (List.mem_append_right _ (List.mem_append_left _ (List.mem_of_getElem? (i := 26) rfl)))
    | 70, _, hi => cases hi; exact List.mem_append_right _ (List.mem_append_right _ (List.mem_append_left _ (List.mem_of_getElem? (i := 31) rfl)))
    | 71, _, hi => cases hi; exact List.mem_append_right _ (List.mem_append_right _ (List.mem_append_left _ (List.mem_of_getElem? (i := 36) rfl)))
    | _ + 72, hlt, _ => exact absurd hlt (by omega)
  exact key i w hlt hi
theorem zN_nest : ∀ w ∈ zN, (∃ a i b n d h, w = Cond.fieldLinkNest a i b n d h) ∨ ∃ a i x h, w = Cond.methodLinkNest a i x h := by
  intro w hw
  simp only [zN, List.mem_cons, List.not_mem_nil, or_false] at hw
  rcases hw with rfl | rfl | rfl | rfl | rfl | rfl | rfl | rfl | rfl | rfl | rfl | rfl | rfl | rfl | rfl | rfl | rfl | rfl | rfl | rfl | rfl | rfl | rfl | rfl | rfl | rfl | rfl | rfl | rfl | rfl | rfl | rfl | rfl | rfl | rfl | rfl | rfl | rfl | rfl | rfl | rfl | rfl | rfl | rfl | rfl | rfl | rfl | rfl | rfl | rfl | rfl | rfl | rfl | rfl | rfl | rfl | rfl | rfl | rfl | rfl | rfl | rfl | rfl | rfl | rfl | rfl | rfl | rfl | rfl | rfl | rfl | rfl
  · exact Or.inr ⟨_, _, _, _, rfl⟩
  · exact Or.inl ⟨_, _, _, _, _, _, rfl⟩
  · exact Or.inl ⟨_, _, _, _, _, _, rfl⟩
  · exact Or.inl ⟨_, _, _, _, _, _, rfl⟩
  · exact Or.inl ⟨_, _, _, _, _, _, rfl⟩
  · exact Or.inl ⟨_, _, _, _, _, _, rfl⟩
  · exact Or.inl ⟨_, _, _, _, _, _, rfl⟩
  · exact Or.inl ⟨_, _, _, _, _, _, rfl⟩
  · exact Or.inl ⟨_, _, _, _, _, _, rfl⟩
  · exact Or.inl ⟨_, _, _, _, _, _, rfl⟩
  · exact Or.inl ⟨_, _, _, _, _, _, rfl⟩
  · exact Or.inl ⟨_, _, _, _, _, _, rfl⟩
  · exact Or.inl ⟨_, _, _, _, _, _, rfl⟩
  · exact Or.inl ⟨_, _, _, _, _, _, rfl⟩
  · exact Or.inl ⟨_, _, _, _, _, _, rfl⟩
  · exact Or.inl ⟨_, _, _, _, _, _, rfl⟩
  · exact Or.inl ⟨_, _, _, _, _, _, rfl⟩
  · exact Or.inl ⟨_, _, _, _, _, _, rfl⟩
  · exact Or.inr ⟨_, _, _, _, rfl⟩
  · exact Or.inl ⟨_, _, _, _, _, _, rfl⟩
  · exact Or.inl ⟨_, _, _, _, _, _, rfl⟩
  · exact Or.inl ⟨_, _, _, _, _, _, rfl⟩
  · exact Or.inl ⟨_, _, _, _, _, _, rfl⟩
  · exact Or.inl ⟨_, _, _, _, _, _, rfl⟩
  · exact Or.inr ⟨_, _, _, _, rfl⟩
  · exact Or.inr ⟨_, _, _, _, rfl⟩
  · exact Or.inl ⟨_, _, _, _, _, _, rfl⟩
  · exact Or.inl ⟨_, _, _, _, _, _, rfl⟩
  · exact Or.inl ⟨_, _, _, _, _, _, rfl⟩
  · exact Or.inl ⟨_, _, _, _, _, _, rfl⟩
  · exact Or.inr ⟨_, _, _, _, rfl⟩
  · exact Or.inr ⟨_, _, _, _, rfl⟩
  · exact Or.inr ⟨_, _, _, _, rfl⟩
  · exact Or.inr ⟨_, _, _, _, rfl⟩
  · exact Or.inr ⟨_, _, _, _, rfl⟩
  · exact Or.inr ⟨_, _, _, _, rfl⟩
  · exact Or.inr ⟨_, _, _, _, rfl⟩
  · exact Or.inr ⟨_, _, _, _, rfl⟩
  · exact Or.inr ⟨_, _, _, _, rfl⟩
  · exact Or.inr ⟨_, _, _, _, rfl⟩
  · exact Or.inr ⟨_, _, _, _, rfl⟩
  · exact Or.inr ⟨_, _, _, _, rfl⟩
  · exact Or.inr ⟨_, _, _, _, rfl⟩
  · exact Or.inr ⟨_, _, _, _, rfl⟩
  · exact Or.inr ⟨_, _, _, _, rfl⟩
  · exact Or.inr ⟨_, _, _, _, rfl⟩
  · exact Or.inr ⟨_, _, _, _, rfl⟩
  · exact Or.inr ⟨_, _, _, _, rfl⟩
  · exact Or.inr ⟨_, _, _, _, rfl⟩
  · exact Or.inr ⟨_, _, _, _, rfl⟩
  · exact Or.inr ⟨_, _, _, _, rfl⟩
  · exact Or.inr ⟨_, _, _, _, rfl⟩
  · exact Or.inr ⟨_, _, _, _, rfl⟩
  · exact Or.inr ⟨_, _, _, _, rfl⟩
  · exact Or.inr ⟨_, _, _, _, rfl⟩
  · exact Or.inr ⟨_, _, _, _, rfl⟩
  · exact Or.inr ⟨_, _, _, _, rfl⟩
  · exact Or.inr ⟨_, _, _, _, rfl⟩
  · exact Or.inr ⟨_, _, _, _, rfl⟩
  · exact Or.inr ⟨_, _, _, _, rfl⟩
  · exact Or.inr ⟨_, _, _, _, rfl⟩
  · exact Or.inr ⟨_, _, _, _, rfl⟩
  · exact Or.inr ⟨_, _, _, _, rfl⟩
  · exact Or.inr ⟨_, _, _, _, rfl⟩
  · exact Or.inr ⟨_, _, _, _, rfl⟩
  · exact Or.inr ⟨_, _, _, _, rfl⟩
  · exact Or.inr ⟨_, _, _, _, rfl⟩
  · exact Or.inr ⟨_, _, _, _, rfl⟩
  · exact Or.inr ⟨_, _, _, _, rfl⟩
  · exact Or.inr ⟨_, _, _, _, rfl⟩
  · exact Or.inr ⟨_, _, _, _, rfl⟩
  · exact Or.inr ⟨_, _, _, _, rfl⟩
theorem zu_X0 : ∀ w ∈ wsX00, w ∈ zG := by
  intro w hw
  obtain ⟨k, hk, rfl⟩ := List.mem_map.mp hw
  have hk := List.mem_range.mp hk
  match k, hk with
  | 0, _ => exact z_t1 152 rfl rfl
  | 1, _ => exact z_t1 154 rfl rfl
  | 2, _ => exact z_t1 156 rfl rfl
  | _ + 3, hk => exact absurd hk (by omega)
theorem zu_X2 : ∀ w ∈ wsX20, w ∈ zG := by
  intro w hw
  obtain ⟨k, hk, rfl⟩ := List.mem_map.mp hw
  have hk := List.mem_range.mp hk
  match k, hk with
  | 0, _ => exact z_t1 132 rfl rfl
  | 1, _ => exact z_t1 134 rfl rfl
  | 2, _ => exact z_t1 136 rfl rfl
  | 3, _ => exact z_t1 138 rfl rfl
  | 4, _ => exact z_t1 140 rfl rfl
  | _ + 5, hk => exact absurd hk (by omega)
theorem zu_X4 : ∀ w ∈ wsX40, w ∈ zG := by
  intro w hw
  obtain ⟨k, hk, rfl⟩ := List.mem_map.mp hw
  have hk := List.mem_range.mp hk
  match k, hk with
  | 0, _ => exact z_t1 166 rfl rfl
  | _ + 1, hk => exact absurd hk (by omega)
theorem zu_X5 : ∀ w ∈ wsX50, w ∈ zG := by
  intro w hw
  obtain ⟨k, hk, rfl⟩ := List.mem_map.mp hw
  have hk := List.mem_range.mp hk
  match k, hk with
  | 0, _ => exact z_t1 104 rfl rfl
  | 1, _ => exact z_t1 106 rfl rfl
  | 2, _ => exact z_t1 108 rfl rfl
  | 3, _ => exact z_t1 110 rfl rfl
  | 4, _ => exact z_t1 112 rfl rfl
  | _ + 5, hk => exact absurd hk (by omega)
theorem zu_X6 : ∀ w ∈ wsX60, w ∈ zG := by
  intro w hw
  obtain ⟨k, hk, rfl⟩ := List.mem_map.mp hw
  have hk := List.mem_range.mp hk
  match k, hk with
  | 0, _ => exact z_t1 183 rfl rfl
  | _ + 1, hk => exact absurd hk (by omega)
theorem zu_X7 : ∀ w ∈ wsX70, w ∈ zG := by
  intro w hw
  obtain ⟨k, hk, rfl⟩ := List.mem_map.mp hw
  have hk := List.mem_range.mp hk
  match k, hk with
  | 0, _ => exact z_t1 59 rfl rfl
  | 1, _ => exact z_t1 61 rfl rfl
  | 2, _ => exact z_t1 63 rfl rfl
  | 3, _ => exact z_t1 65 rfl rfl
  | 4, _ => exact z_t1 67 rfl rfl
  | 5, _ => exact z_t1 69 rfl rfl
  | 6, _ => exact z_t1 71 rfl rfl
  | 7, _ => exact z_t1 73 rfl rfl
  | 8, _ => exact z_t1 75 rfl rfl
  | 9, _ => exact z_t1 77 rfl rfl
  | 10, _ => exact z_t1 79 rfl rfl
  | 11, _ => exact z_t1 81 rfl rfl
  | 12, _ => exact z_t1 83 rfl rfl
  | _ + 13, hk => exact absurd hk (by omega)
theorem zu_X8 : ∀ w ∈ wsX80, w ∈ zG := by
  intro w hw
  obtain ⟨k, hk, rfl⟩ := List.mem_map.mp hw
  have hk := List.mem_range.mp hk
  match k, hk with
  | 0, _ => exact z_t1 194 rfl rfl
  | 1, _ => exact z_t1 196 rfl rfl
  | 2, _ => exact z_t1 198 rfl rfl
  | 3, _ => exact z_t1 200 rfl rfl
  | 4, _ => exact z_t1 202 rfl rfl
  | 5, _ => exact z_t1 204 rfl rfl
  | 6, _ => exact z_t1 206 rfl rfl
  | 7, _ => exact z_t1 208 rfl rfl
  | _ + 8, hk => exact absurd hk (by omega)
theorem zu_X9 : ∀ w ∈ wsX90, w ∈ zG := by
  intro w hw
  obtain ⟨k, hk, rfl⟩ := List.mem_map.mp hw
  have hk := List.mem_range.mp hk
  match k, hk with
  | 0, _ => exact z_t3 98 rfl rfl
  | 1, _ => exact z_t3 100 rfl rfl
  | 2, _ => exact z_t3 102 rfl rfl
  | 3, _ => exact z_t3 104 rfl rfl
  | 4, _ => exact z_t3 106 rfl rfl
  | 5, _ => exact z_t3 108 rfl rfl
  | 6, _ => exact z_t3 110 rfl rfl
  | 7, _ => exact z_t3 112 rfl rfl
  | 8, _ => exact z_t3 114 rfl rfl
  | 9, _ => exact z_t3 116 rfl rfl
  | 10, _ => exact z_t3 118 rfl rfl
  | 11, _ => exact z_t3 120 rfl rfl
  | 12, _ => exact z_t3 122 rfl rfl
  | 13, _ => exact z_t3 124 rfl rfl
  | 14, _ => exact z_t3 126 rfl rfl
  | 15, _ => exact z_t3 128 rfl rfl
  | 16, _ => exact z_t3 130 rfl rfl
  | 17, _ => exact z_t3 132 rfl rfl
  | 18, _ => exact z_t3 134 rfl rfl
  | 19, _ => exact z_t3 136 rfl rfl
  | 20, _ => exact z_t3 138 rfl rfl
  | 21, _ => exact z_t3 140 rfl rfl
  | 22, _ => exact z_t3 142 rfl rfl
  | 23, _ => exact z_t3 144 rfl rfl
  | 24, _ => exact z_t3 146 rfl rfl
  | 25, _ => exact z_t3 148 rfl rfl
  | 26, _ => exact z_t3 150 rfl rfl
  | 27, _ => exact z_t3 152 rfl rfl
  | 28, _ => exact z_t3 154 rfl rfl
  | 29, _ => exact z_t3 156 rfl rfl
  | 30, _ => exact z_t3 158 rfl rfl
  | 31, _ => exact z_t3 160 rfl rfl
  | 32, _ => exact z_t3 162 rfl rfl
  | 33, _ => exact z_t3 164 rfl rfl
  | 34, _ => exact z_t3 166 rfl rfl
  | _ + 35, hk => exact absurd hk (by omega)
end
section
/-! the system as one world: 67 cells, at the addresses ad 0 .. ad 66; M the ints, L the longs of each cell -/
abbrev Mm : Type := Nat → Nat → Int32
abbrev Ml : Type := Nat → Nat → Int64
def zr (M : Mm) (k : Nat) (f : Nat → Int32) : Mm := fun a => if a = k then f else M a
def zrl (L : Ml) (k : Nat) (f : Nat → Int64) : Ml := fun a => if a = k then f else L a
def zs (M : Mm) (k j : Nat) (v : Int32) : Mm := zr M k (upd (M k) j v)
def zsl (L : Ml) (k j : Nat) (v : Int64) : Ml := zrl L k (vp_updL (L k) j v)
/-- the cell of the image with number j -/
def zY (j : Nat) : Nat := if j = 0 then 21 else 28
def isY (b : Nat) : Prop := b = 14 ∨ b = 21 ∨ b = 28 ∨ b = 35
theorem isY_14 : isY 14 := Or.inl rfl
theorem isY_21 : isY 21 := Or.inr (Or.inl rfl)
theorem isY_28 : isY 28 := Or.inr (Or.inr (Or.inl rfl))
theorem isY_35 : isY 35 := Or.inr (Or.inr (Or.inr rfl))
theorem isY_z (j : Nat) : isY (zY j) := by unfold zY; split; exact isY_21; exact isY_28
def zW (cy : Nat → ClassId) (ad : Nat → Nat) (M : Mm) (L : Ml) : va_W := [
  (ad 0, .inr (6, [.ref (ad 14), .ref (ad 1), .int (M 0 2), .ref (ad 2), .ref (ad 6), .ref (ad 7), .ref (ad 10), .ref (ad 12)])),
  (ad 1, .inl (cy 1, 2, .inr (.inr (.inr (.inr (fun j => some (ad (zY j)))))))),
  (ad 2, .inr (3, [.ref (ad 3), .int (M 2 1), .ref (ad 4), .ref (ad 5), .int (M 2 4)])),
  (ad 3, .inl (cy 3, 60, .inl (M 3))),
  (ad 4, .inl (cy 4, 60, .inl (M 4))),
  (ad 5, .inl (cy 5, 60, .inl (M 5))),
  (ad 6, .inr (1, [.ref (ad 35), .int (M 6 1), .int (M 6 2), .int (M 6 3), .int (M 6 4)])),
  (ad 7, .inr (0, [.ref (ad 8), .ref (ad 9), .int (M 7 2)])),
  (ad 8, .inl (cy 8, 256, .inl (M 8))),
  (ad 9, .inl (cy 9, 256, .inl (M 9))),
  (ad 10, .inr (2, [.ref (ad 11)])),
  (ad 11, .inl (cy 11, 16, .inl (M 11))),
  (ad 12, .inr (4, [.ref (ad 13)])),
  (ad 13, .inl (cy 13, 61, .inl (M 13))),
  (ad 14, .inr (5, [.int (M 14 0), .ref (ad 15), .ref (ad 16), .ref (ad 17), .ref (ad 18), .ref (ad 19), .ref (ad 20), .int (M 14 7), .int (M 14 8), .int (M 14 9), .int (M 14 10), .int (M 14 11), .int (M 14 12)])),
  (ad 15, .inl (cy 15, 8, .inl (M 15))),
  (ad 16, .inl (cy 16, 8, .inl (M 16))),
  (ad 17, .inl (cy 17, 8, .inl (M 17))),
  (ad 18, .inl (cy 18, 8, .inl (M 18))),
  (ad 19, .inl (cy 19, 8, .inl (M 19))),
  (ad 20, .inl (cy 20, 6, .inl (M 20))),
  (ad 21, .inr (5, [.int (M 21 0), .ref (ad 22), .ref (ad 23), .ref (ad 24), .ref (ad 25), .ref (ad 26), .ref (ad 27), .int (M 21 7), .int (M 21 8), .int (M 21 9), .int (M 21 10), .int (M 21 11), .int (M 21 12)])),
  (ad 22, .inl (cy 22, 8, .inl (M 22))),
  (ad 23, .inl (cy 23, 8, .inl (M 23))),
  (ad 24, .inl (cy 24, 8, .inl (M 24))),
  (ad 25, .inl (cy 25, 8, .inl (M 25))),
  (ad 26, .inl (cy 26, 8, .inl (M 26))),
  (ad 27, .inl (cy 27, 6, .inl (M 27))),
  (ad 28, .inr (5, [.int (M 28 0), .ref (ad 29), .ref (ad 30), .ref (ad 31), .ref (ad 32), .ref (ad 33), .ref (ad 34), .int (M 28 7), .int (M 28 8), .int (M 28 9), .int (M 28 10), .int (M 28 11), .int (M 28 12)])),
  (ad 29, .inl (cy 29, 8, .inl (M 29))),
  (ad 30, .inl (cy 30, 8, .inl (M 30))),
  (ad 31, .inl (cy 31, 8, .inl (M 31))),
  (ad 32, .inl (cy 32, 8, .inl (M 32))),
  (ad 33, .inl (cy 33, 8, .inl (M 33))),
  (ad 34, .inl (cy 34, 6, .inl (M 34))),
  (ad 35, .inr (5, [.int (M 35 0), .ref (ad 36), .ref (ad 37), .ref (ad 38), .ref (ad 39), .ref (ad 40), .ref (ad 41), .int (M 35 7), .int (M 35 8), .int (M 35 9), .int (M 35 10), .int (M 35 11), .int (M 35 12)])),
  (ad 36, .inl (cy 36, 8, .inl (M 36))),
  (ad 37, .inl (cy 37, 8, .inl (M 37))),
  (ad 38, .inl (cy 38, 8, .inl (M 38))),
  (ad 39, .inl (cy 39, 8, .inl (M 39))),
  (ad 40, .inl (cy 40, 8, .inl (M 40))),
  (ad 41, .inl (cy 41, 6, .inl (M 41))),
  (ad 42, .inr (7, [.int (M 42 0), .ref (ad 43), .ref (ad 44), .ref (ad 45), .ref (ad 46), .ref (ad 47), .ref (ad 48), .ref (ad 49), .ref (ad 50), .ref (ad 51), .ref (ad 52), .int (M 42 11), .ref (ad 53), .int (M 42 13), .ref (ad 54), .ref (ad 55), .int (M 42 16), .int (M 42 17), .int (M 42 18), .int (M 42 19), .ref (ad 56), .int (M 42 21), .int (M 42 22), .ref (ad 57), .ref (ad 58), .ref (ad 59), .ref (ad 60), .ref (ad 61), .ref (ad 62), .ref (ad 63), .ref (ad 64), .ref (ad 65), .ref (ad 66), .int (M 42 33), .int (M 42 34)])),
  (ad 43, .inl (cy 43, 8, .inl (M 43))),
  (ad 44, .inl (cy 44, 8, .inl (M 44))),
  (ad 45, .inl (cy 45, 8, .inl (M 45))),
  (ad 46, .inl (cy 46, 8, .inl (M 46))),
  (ad 47, .inl (cy 47, 8, .inl (M 47))),
  (ad 48, .inl (cy 48, 6, .inl (M 48))),
  (ad 49, .inl (cy 49, 6, .inl (M 49))),
  (ad 50, .inl (cy 50, 2, .inl (M 50))),
  (ad 51, .inl (cy 51, 8, .inl (M 51))),
  (ad 52, .inl (cy 52, 8, .inl (M 52))),
  (ad 53, .inl (cy 53, 60, .inl (M 53))),
  (ad 54, .inl (cy 54, 60, .inl (M 54))),
  (ad 55, .inl (cy 55, 60, .inl (M 55))),
  (ad 56, .inl (cy 56, 44, .inl (M 56))),
  (ad 57, .inl (cy 57, 2816, .inr (.inl (L 57)))),
  (ad 58, .inl (cy 58, 256, .inl (M 58))),
  (ad 59, .inl (cy 59, 64, .inl (M 59))),
  (ad 60, .inl (cy 60, 256, .inl (M 60))),
  (ad 61, .inl (cy 61, 256, .inl (M 61))),
  (ad 62, .inl (cy 62, 17, .inr (.inl (L 62)))),
  (ad 63, .inl (cy 63, 17, .inr (.inl (L 63)))),
  (ad 64, .inl (cy 64, 244, .inl (M 64))),
  (ad 65, .inl (cy 65, 180, .inl (M 65))),
  (ad 66, .inl (cy 66, 2, .inl (M 66)))]
/-- the classes of the arrays -/
def zT (cy : Nat → ClassId) : List (ClassId × FieldType) := [(cy 1, .object RX7), (cy 3, .int), (cy 4, .int), (cy 5, .int), (cy 8, .int), (cy 9, .int), (cy 11, .int), (cy 13, .int), (cy 15, .int), (cy 16, .int), (cy 17, .int), (cy 18, .int), (cy 19, .int), (cy 20, .int), (cy 22, .int), (cy 23, .int), (cy 24, .int), (cy 25, .int), (cy 26, .int), (cy 27, .int), (cy 29, .int), (cy 30, .int), (cy 31, .int), (cy 32, .int), (cy 33, .int), (cy 34, .int), (cy 36, .int), (cy 37, .int), (cy 38, .int), (cy 39, .int), (cy 40, .int), (cy 41, .int), (cy 43, .int), (cy 44, .int), (cy 45, .int), (cy 46, .int), (cy 47, .int), (cy 48, .int), (cy 49, .int), (cy 50, .int), (cy 51, .int), (cy 52, .int), (cy 53, .int), (cy 54, .int), (cy 55, .int), (cy 56, .int), (cy 57, .long), (cy 58, .int), (cy 59, .int), (cy 60, .int), (cy 61, .boolean), (cy 62, .long), (cy 63, .long), (cy 64, .int), (cy 65, .int), (cy 66, .boolean)]
theorem zW_len (cy : Nat → ClassId) (ad : Nat → Nat) (M : Mm) (L : Ml) : (zW cy ad M L).map Prod.fst = (List.range 67).map ad := rfl
theorem zW_at {cy : Nat → ClassId} {ad : Nat → Nat} {M : Mm} {L : Ml} {i : Nat} {q : Nat × va_E} (h : (zW cy ad M L)[i]? = some q) : i < 67 ∧ q.1 = ad i := by
  have h1 : ((zW cy ad M L).map Prod.fst)[i]? = some q.1 := by rw [List.getElem?_map, h]; rfl
  rw [zW_len, List.getElem?_map] at h1
  by_cases hi : i < 67
  · rw [List.getElem?_range hi] at h1
    exact ⟨hi, (Option.some.inj h1).symm⟩
  · rw [List.getElem?_eq_none (by simpa using Nat.le_of_not_lt hi)] at h1
    cases h1
def zInj (ad : Nat → Nat) : Prop := ∀ i j, i < 67 → j < 67 → ad i = ad j → i = j
theorem zD {cy : Nat → ClassId} {ad : Nat → Nat} {A : Nat → Prop} (hi : zInj ad) (hA : ∀ k, k < 67 → A (ad k)) (M : Mm) (L : Ml) : va_D A (zW cy ad M L) :=
  ⟨fun i j p q h1 h2 e => hi i j (zW_at h1).1 (zW_at h2).1 (by rw [← (zW_at h1).2, ← (zW_at h2).2]; exact e), fun k q h => by rw [(zW_at h).2]; exact hA k (zW_at h).1⟩
/-- a row of n ints at the cell k -/
def zRow (k n : Nat) : Prop := (∃ t0 : Nat, ∀ cy, (zT cy)[t0]? = some (cy k, .int)) ∧ ∀ cy ad M L, (zW cy ad M L)[k]? = some (ad k, .inl (cy k, n, .inl (M k))) ∧ ∀ f, (zW cy ad M L).set k (ad k, .inl (cy k, n, .inl f)) = zW cy ad (zr M k f) L
def zRowZ (k n : Nat) : Prop := (∃ t0 : Nat, ∀ cy, (zT cy)[t0]? = some (cy k, .boolean)) ∧ ∀ cy ad M L, (zW cy ad M L)[k]? = some (ad k, .inl (cy k, n, .inl (M k))) ∧ ∀ f, (zW cy ad M L).set k (ad k, .inl (cy k, n, .inl f)) = zW cy ad (zr M k f) L
def zRowJ (k n : Nat) : Prop := (∃ t0 : Nat, ∀ cy, (zT cy)[t0]? = some (cy k, .long)) ∧ ∀ cy ad M L, (zW cy ad M L)[k]? = some (ad k, .inl (cy k, n, .inr (.inl (L k)))) ∧ ∀ f, (zW cy ad M L).set k (ad k, .inl (cy k, n, .inr (.inl f))) = zW cy ad M (zrl L k f)
/-- the object at the cell k; its int j; its cell j -/
def zOb (ci k : Nat) : Prop := ∃ fs : (Nat → Nat) → Mm → List Value, ∀ cy ad M L, (zW cy ad M L)[k]? = some (ad k, .inr (ci, fs ad M))
def zFi (ci k j : Nat) : Prop := ∃ fs : (Nat → Nat) → Mm → List Value, ∀ cy ad M L, (zW cy ad M L)[k]? = some (ad k, .inr (ci, fs ad M)) ∧ (fs ad M)[j]? = some (.int (M k j)) ∧ ∀ v, (zW cy ad M L).set k (ad k, .inr (ci, (fs ad M).set j (.int v))) = zW cy ad (zs M k j v) L
def zFr (ci k j k2 : Nat) : Prop := ∃ fs : (Nat → Nat) → Mm → List Value, ∀ cy ad M L, (zW cy ad M L)[k]? = some (ad k, .inr (ci, fs ad M)) ∧ (fs ad M)[j]? = some (.ref (ad k2))
theorem zI_3 : zRow 3 60 := ⟨⟨1, fun _ => rfl⟩, fun _ _ _ _ => ⟨rfl, fun _ => rfl⟩⟩
theorem zI_4 : zRow 4 60 := ⟨⟨2, fun _ => rfl⟩, fun _ _ _ _ => ⟨rfl, fun _ => rfl⟩⟩
theorem zI_5 : zRow 5 60 := ⟨⟨3, fun _ => rfl⟩, fun _ _ _ _ => ⟨rfl, fun _ => rfl⟩⟩
theorem zI_8 : zRow 8 256 := ⟨⟨4, fun _ => rfl⟩, fun _ _ _ _ => ⟨rfl, fun _ => rfl⟩⟩
theorem zI_9 : zRow 9 256 := ⟨⟨5, fun _ => rfl⟩, fun _ _ _ _ => ⟨rfl, fun _ => rfl⟩⟩
theorem zI_11 : zRow 11 16 := ⟨⟨6, fun _ => rfl⟩, fun _ _ _ _ => ⟨rfl, fun _ => rfl⟩⟩
theorem zI_13 : zRow 13 61 := ⟨⟨7, fun _ => rfl⟩, fun _ _ _ _ => ⟨rfl, fun _ => rfl⟩⟩
theorem zI_43 : zRow 43 8 := ⟨⟨32, fun _ => rfl⟩, fun _ _ _ _ => ⟨rfl, fun _ => rfl⟩⟩
theorem zI_44 : zRow 44 8 := ⟨⟨33, fun _ => rfl⟩, fun _ _ _ _ => ⟨rfl, fun _ => rfl⟩⟩
theorem zI_45 : zRow 45 8 := ⟨⟨34, fun _ => rfl⟩, fun _ _ _ _ => ⟨rfl, fun _ => rfl⟩⟩
theorem zI_46 : zRow 46 8 := ⟨⟨35, fun _ => rfl⟩, fun _ _ _ _ => ⟨rfl, fun _ => rfl⟩⟩
theorem zI_47 : zRow 47 8 := ⟨⟨36, fun _ => rfl⟩, fun _ _ _ _ => ⟨rfl, fun _ => rfl⟩⟩
theorem zI_48 : zRow 48 6 := ⟨⟨37, fun _ => rfl⟩, fun _ _ _ _ => ⟨rfl, fun _ => rfl⟩⟩
theorem zI_49 : zRow 49 6 := ⟨⟨38, fun _ => rfl⟩, fun _ _ _ _ => ⟨rfl, fun _ => rfl⟩⟩
theorem zI_50 : zRow 50 2 := ⟨⟨39, fun _ => rfl⟩, fun _ _ _ _ => ⟨rfl, fun _ => rfl⟩⟩
theorem zI_51 : zRow 51 8 := ⟨⟨40, fun _ => rfl⟩, fun _ _ _ _ => ⟨rfl, fun _ => rfl⟩⟩
theorem zI_52 : zRow 52 8 := ⟨⟨41, fun _ => rfl⟩, fun _ _ _ _ => ⟨rfl, fun _ => rfl⟩⟩
theorem zI_53 : zRow 53 60 := ⟨⟨42, fun _ => rfl⟩, fun _ _ _ _ => ⟨rfl, fun _ => rfl⟩⟩
theorem zI_54 : zRow 54 60 := ⟨⟨43, fun _ => rfl⟩, fun _ _ _ _ => ⟨rfl, fun _ => rfl⟩⟩
theorem zI_55 : zRow 55 60 := ⟨⟨44, fun _ => rfl⟩, fun _ _ _ _ => ⟨rfl, fun _ => rfl⟩⟩
theorem zI_56 : zRow 56 44 := ⟨⟨45, fun _ => rfl⟩, fun _ _ _ _ => ⟨rfl, fun _ => rfl⟩⟩
theorem zI_57 : zRowJ 57 2816 := ⟨⟨46, fun _ => rfl⟩, fun _ _ _ _ => ⟨rfl, fun _ => rfl⟩⟩
theorem zI_58 : zRow 58 256 := ⟨⟨47, fun _ => rfl⟩, fun _ _ _ _ => ⟨rfl, fun _ => rfl⟩⟩
theorem zI_59 : zRow 59 64 := ⟨⟨48, fun _ => rfl⟩, fun _ _ _ _ => ⟨rfl, fun _ => rfl⟩⟩
theorem zI_60 : zRow 60 256 := ⟨⟨49, fun _ => rfl⟩, fun _ _ _ _ => ⟨rfl, fun _ => rfl⟩⟩
theorem zI_61 : zRowZ 61 256 := ⟨⟨50, fun _ => rfl⟩, fun _ _ _ _ => ⟨rfl, fun _ => rfl⟩⟩
theorem zI_62 : zRowJ 62 17 := ⟨⟨51, fun _ => rfl⟩, fun _ _ _ _ => ⟨rfl, fun _ => rfl⟩⟩
theorem zI_63 : zRowJ 63 17 := ⟨⟨52, fun _ => rfl⟩, fun _ _ _ _ => ⟨rfl, fun _ => rfl⟩⟩
theorem zI_64 : zRow 64 244 := ⟨⟨53, fun _ => rfl⟩, fun _ _ _ _ => ⟨rfl, fun _ => rfl⟩⟩
theorem zI_65 : zRow 65 180 := ⟨⟨54, fun _ => rfl⟩, fun _ _ _ _ => ⟨rfl, fun _ => rfl⟩⟩
theorem zI_66 : zRowZ 66 2 := ⟨⟨55, fun _ => rfl⟩, fun _ _ _ _ => ⟨rfl, fun _ => rfl⟩⟩
theorem zO_0 : zOb 6 0 := ⟨fun ad M => [.ref (ad 14), .ref (ad 1), .int (M 0 2), .ref (ad 2), .ref (ad 6), .ref (ad 7), .ref (ad 10), .ref (ad 12)], fun _ _ _ _ => rfl⟩
theorem zR_0_0 : zFr 6 0 0 14 := ⟨fun ad M => [.ref (ad 14), .ref (ad 1), .int (M 0 2), .ref (ad 2), .ref (ad 6), .ref (ad 7), .ref (ad 10), .ref (ad 12)], fun _ _ _ _ => ⟨rfl, rfl⟩⟩
theorem zR_0_1 : zFr 6 0 1 1 := ⟨fun ad M => [.ref (ad 14), .ref (ad 1), .int (M 0 2), .ref (ad 2), .ref (ad 6), .ref (ad 7), .ref (ad 10), .ref (ad 12)], fun _ _ _ _ => ⟨rfl, rfl⟩⟩
theorem zF_0_2 : zFi 6 0 2 := ⟨fun ad M => [.ref (ad 14), .ref (ad 1), .int (M 0 2), .ref (ad 2), .ref (ad 6), .ref (ad 7), .ref (ad 10), .ref (ad 12)], fun _ _ _ _ => ⟨rfl, rfl, fun _ => rfl⟩⟩
theorem zR_0_3 : zFr 6 0 3 2 := ⟨fun ad M => [.ref (ad 14), .ref (ad 1), .int (M 0 2), .ref (ad 2), .ref (ad 6), .ref (ad 7), .ref (ad 10), .ref (ad 12)], fun _ _ _ _ => ⟨rfl, rfl⟩⟩
theorem zR_0_4 : zFr 6 0 4 6 := ⟨fun ad M => [.ref (ad 14), .ref (ad 1), .int (M 0 2), .ref (ad 2), .ref (ad 6), .ref (ad 7), .ref (ad 10), .ref (ad 12)], fun _ _ _ _ => ⟨rfl, rfl⟩⟩
theorem zR_0_5 : zFr 6 0 5 7 := ⟨fun ad M => [.ref (ad 14), .ref (ad 1), .int (M 0 2), .ref (ad 2), .ref (ad 6), .ref (ad 7), .ref (ad 10), .ref (ad 12)], fun _ _ _ _ => ⟨rfl, rfl⟩⟩
theorem zR_0_6 : zFr 6 0 6 10 := ⟨fun ad M => [.ref (ad 14), .ref (ad 1), .int (M 0 2), .ref (ad 2), .ref (ad 6), .ref (ad 7), .ref (ad 10), .ref (ad 12)], fun _ _ _ _ => ⟨rfl, rfl⟩⟩
theorem zR_0_7 : zFr 6 0 7 12 := ⟨fun ad M => [.ref (ad 14), .ref (ad 1), .int (M 0 2), .ref (ad 2), .ref (ad 6), .ref (ad 7), .ref (ad 10), .ref (ad 12)], fun _ _ _ _ => ⟨rfl, rfl⟩⟩
theorem zO_2 : zOb 3 2 := ⟨fun ad M => [.ref (ad 3), .int (M 2 1), .ref (ad 4), .ref (ad 5), .int (M 2 4)], fun _ _ _ _ => rfl⟩
theorem zR_2_0 : zFr 3 2 0 3 := ⟨fun ad M => [.ref (ad 3), .int (M 2 1), .ref (ad 4), .ref (ad 5), .int (M 2 4)], fun _ _ _ _ => ⟨rfl, rfl⟩⟩
theorem zF_2_1 : zFi 3 2 1 := ⟨fun ad M => [.ref (ad 3), .int (M 2 1), .ref (ad 4), .ref (ad 5), .int (M 2 4)], fun _ _ _ _ => ⟨rfl, rfl, fun _ => rfl⟩⟩
theorem zR_2_2 : zFr 3 2 2 4 := ⟨fun ad M => [.ref (ad 3), .int (M 2 1), .ref (ad 4), .ref (ad 5), .int (M 2 4)], fun _ _ _ _ => ⟨rfl, rfl⟩⟩
theorem zR_2_3 : zFr 3 2 3 5 := ⟨fun ad M => [.ref (ad 3), .int (M 2 1), .ref (ad 4), .ref (ad 5), .int (M 2 4)], fun _ _ _ _ => ⟨rfl, rfl⟩⟩
theorem zF_2_4 : zFi 3 2 4 := ⟨fun ad M => [.ref (ad 3), .int (M 2 1), .ref (ad 4), .ref (ad 5), .int (M 2 4)], fun _ _ _ _ => ⟨rfl, rfl, fun _ => rfl⟩⟩
theorem zO_6 : zOb 1 6 := ⟨fun ad M => [.ref (ad 35), .int (M 6 1), .int (M 6 2), .int (M 6 3), .int (M 6 4)], fun _ _ _ _ => rfl⟩
theorem zR_6_0 : zFr 1 6 0 35 := ⟨fun ad M => [.ref (ad 35), .int (M 6 1), .int (M 6 2), .int (M 6 3), .int (M 6 4)], fun _ _ _ _ => ⟨rfl, rfl⟩⟩
theorem zF_6_1 : zFi 1 6 1 := ⟨fun ad M => [.ref (ad 35), .int (M 6 1), .int (M 6 2), .int (M 6 3), .int (M 6 4)], fun _ _ _ _ => ⟨rfl, rfl, fun _ => rfl⟩⟩
theorem zF_6_2 : zFi 1 6 2 := ⟨fun ad M => [.ref (ad 35), .int (M 6 1), .int (M 6 2), .int (M 6 3), .int (M 6 4)], fun _ _ _ _ => ⟨rfl, rfl, fun _ => rfl⟩⟩
theorem zF_6_3 : zFi 1 6 3 := ⟨fun ad M => [.ref (ad 35), .int (M 6 1), .int (M 6 2), .int (M 6 3), .int (M 6 4)], fun _ _ _ _ => ⟨rfl, rfl, fun _ => rfl⟩⟩
theorem zF_6_4 : zFi 1 6 4 := ⟨fun ad M => [.ref (ad 35), .int (M 6 1), .int (M 6 2), .int (M 6 3), .int (M 6 4)], fun _ _ _ _ => ⟨rfl, rfl, fun _ => rfl⟩⟩
theorem zO_7 : zOb 0 7 := ⟨fun ad M => [.ref (ad 8), .ref (ad 9), .int (M 7 2)], fun _ _ _ _ => rfl⟩
theorem zR_7_0 : zFr 0 7 0 8 := ⟨fun ad M => [.ref (ad 8), .ref (ad 9), .int (M 7 2)], fun _ _ _ _ => ⟨rfl, rfl⟩⟩
theorem zR_7_1 : zFr 0 7 1 9 := ⟨fun ad M => [.ref (ad 8), .ref (ad 9), .int (M 7 2)], fun _ _ _ _ => ⟨rfl, rfl⟩⟩
theorem zF_7_2 : zFi 0 7 2 := ⟨fun ad M => [.ref (ad 8), .ref (ad 9), .int (M 7 2)], fun _ _ _ _ => ⟨rfl, rfl, fun _ => rfl⟩⟩
theorem zO_10 : zOb 2 10 := ⟨fun ad M => [.ref (ad 11)], fun _ _ _ _ => rfl⟩
theorem zR_10_0 : zFr 2 10 0 11 := ⟨fun ad M => [.ref (ad 11)], fun _ _ _ _ => ⟨rfl, rfl⟩⟩
theorem zO_12 : zOb 4 12 := ⟨fun ad M => [.ref (ad 13)], fun _ _ _ _ => rfl⟩
theorem zR_12_0 : zFr 4 12 0 13 := ⟨fun ad M => [.ref (ad 13)], fun _ _ _ _ => ⟨rfl, rfl⟩⟩
theorem zO_42 : zOb 7 42 := ⟨fun ad M => [.int (M 42 0), .ref (ad 43), .ref (ad 44), .ref (ad 45), .ref (ad 46), .ref (ad 47), .ref (ad 48), .ref (ad 49), .ref (ad 50), .ref (ad 51), .ref (ad 52), .int (M 42 11), .ref (ad 53), .int (M 42 13), .ref (ad 54), .ref (ad 55), .int (M 42 16), .int (M 42 17), .int (M 42 18), .int (M 42 19), .ref (ad 56), .int (M 42 21), .int (M 42 22), .ref (ad 57), .ref (ad 58), .ref (ad 59), .ref (ad 60), .ref (ad 61), .ref (ad 62), .ref (ad 63), .ref (ad 64), .ref (ad 65), .ref (ad 66), .int (M 42 33), .int (M 42 34)], fun _ _ _ _ => rfl⟩
theorem zF_42_0 : zFi 7 42 0 := ⟨fun ad M => [.int (M 42 0), .ref (ad 43), .ref (ad 44), .ref (ad 45), .ref (ad 46), .ref (ad 47), .ref (ad 48), .ref (ad 49), .ref (ad 50), .ref (ad 51), .ref (ad 52), .int (M 42 11), .ref (ad 53), .int (M 42 13), .ref (ad 54), .ref (ad 55), .int (M 42 16), .int (M 42 17), .int (M 42 18), .int (M 42 19), .ref (ad 56), .int (M 42 21), .int (M 42 22), .ref (ad 57), .ref (ad 58), .ref (ad 59), .ref (ad 60), .ref (ad 61), .ref (ad 62), .ref (ad 63), .ref (ad 64), .ref (ad 65), .ref (ad 66), .int (M 42 33), .int (M 42 34)], fun _ _ _ _ => ⟨rfl, rfl, fun _ => rfl⟩⟩
theorem zR_42_1 : zFr 7 42 1 43 := ⟨fun ad M => [.int (M 42 0), .ref (ad 43), .ref (ad 44), .ref (ad 45), .ref (ad 46), .ref (ad 47), .ref (ad 48), .ref (ad 49), .ref (ad 50), .ref (ad 51), .ref (ad 52), .int (M 42 11), .ref (ad 53), .int (M 42 13), .ref (ad 54), .ref (ad 55), .int (M 42 16), .int (M 42 17), .int (M 42 18), .int (M 42 19), .ref (ad 56), .int (M 42 21), .int (M 42 22), .ref (ad 57), .ref (ad 58), .ref (ad 59), .ref (ad 60), .ref (ad 61), .ref (ad 62), .ref (ad 63), .ref (ad 64), .ref (ad 65), .ref (ad 66), .int (M 42 33), .int (M 42 34)], fun _ _ _ _ => ⟨rfl, rfl⟩⟩
theorem zR_42_2 : zFr 7 42 2 44 := ⟨fun ad M => [.int (M 42 0), .ref (ad 43), .ref (ad 44), .ref (ad 45), .ref (ad 46), .ref (ad 47), .ref (ad 48), .ref (ad 49), .ref (ad 50), .ref (ad 51), .ref (ad 52), .int (M 42 11), .ref (ad 53), .int (M 42 13), .ref (ad 54), .ref (ad 55), .int (M 42 16), .int (M 42 17), .int (M 42 18), .int (M 42 19), .ref (ad 56), .int (M 42 21), .int (M 42 22), .ref (ad 57), .ref (ad 58), .ref (ad 59), .ref (ad 60), .ref (ad 61), .ref (ad 62), .ref (ad 63), .ref (ad 64), .ref (ad 65), .ref (ad 66), .int (M 42 33), .int (M 42 34)], fun _ _ _ _ => ⟨rfl, rfl⟩⟩
theorem zR_42_3 : zFr 7 42 3 45 := ⟨fun ad M => [.int (M 42 0), .ref (ad 43), .ref (ad 44), .ref (ad 45), .ref (ad 46), .ref (ad 47), .ref (ad 48), .ref (ad 49), .ref (ad 50), .ref (ad 51), .ref (ad 52), .int (M 42 11), .ref (ad 53), .int (M 42 13), .ref (ad 54), .ref (ad 55), .int (M 42 16), .int (M 42 17), .int (M 42 18), .int (M 42 19), .ref (ad 56), .int (M 42 21), .int (M 42 22), .ref (ad 57), .ref (ad 58), .ref (ad 59), .ref (ad 60), .ref (ad 61), .ref (ad 62), .ref (ad 63), .ref (ad 64), .ref (ad 65), .ref (ad 66), .int (M 42 33), .int (M 42 34)], fun _ _ _ _ => ⟨rfl, rfl⟩⟩
theorem zR_42_4 : zFr 7 42 4 46 := ⟨fun ad M => [.int (M 42 0), .ref (ad 43), .ref (ad 44), .ref (ad 45), .ref (ad 46), .ref (ad 47), .ref (ad 48), .ref (ad 49), .ref (ad 50), .ref (ad 51), .ref (ad 52), .int (M 42 11), .ref (ad 53), .int (M 42 13), .ref (ad 54), .ref (ad 55), .int (M 42 16), .int (M 42 17), .int (M 42 18), .int (M 42 19), .ref (ad 56), .int (M 42 21), .int (M 42 22), .ref (ad 57), .ref (ad 58), .ref (ad 59), .ref (ad 60), .ref (ad 61), .ref (ad 62), .ref (ad 63), .ref (ad 64), .ref (ad 65), .ref (ad 66), .int (M 42 33), .int (M 42 34)], fun _ _ _ _ => ⟨rfl, rfl⟩⟩
theorem zR_42_5 : zFr 7 42 5 47 := ⟨fun ad M => [.int (M 42 0), .ref (ad 43), .ref (ad 44), .ref (ad 45), .ref (ad 46), .ref (ad 47), .ref (ad 48), .ref (ad 49), .ref (ad 50), .ref (ad 51), .ref (ad 52), .int (M 42 11), .ref (ad 53), .int (M 42 13), .ref (ad 54), .ref (ad 55), .int (M 42 16), .int (M 42 17), .int (M 42 18), .int (M 42 19), .ref (ad 56), .int (M 42 21), .int (M 42 22), .ref (ad 57), .ref (ad 58), .ref (ad 59), .ref (ad 60), .ref (ad 61), .ref (ad 62), .ref (ad 63), .ref (ad 64), .ref (ad 65), .ref (ad 66), .int (M 42 33), .int (M 42 34)], fun _ _ _ _ => ⟨rfl, rfl⟩⟩
theorem zR_42_6 : zFr 7 42 6 48 := ⟨fun ad M => [.int (M 42 0), .ref (ad 43), .ref (ad 44), .ref (ad 45), .ref (ad 46), .ref (ad 47), .ref (ad 48), .ref (ad 49), .ref (ad 50), .ref (ad 51), .ref (ad 52), .int (M 42 11), .ref (ad 53), .int (M 42 13), .ref (ad 54), .ref (ad 55), .int (M 42 16), .int (M 42 17), .int (M 42 18), .int (M 42 19), .ref (ad 56), .int (M 42 21), .int (M 42 22), .ref (ad 57), .ref (ad 58), .ref (ad 59), .ref (ad 60), .ref (ad 61), .ref (ad 62), .ref (ad 63), .ref (ad 64), .ref (ad 65), .ref (ad 66), .int (M 42 33), .int (M 42 34)], fun _ _ _ _ => ⟨rfl, rfl⟩⟩
theorem zR_42_7 : zFr 7 42 7 49 := ⟨fun ad M => [.int (M 42 0), .ref (ad 43), .ref (ad 44), .ref (ad 45), .ref (ad 46), .ref (ad 47), .ref (ad 48), .ref (ad 49), .ref (ad 50), .ref (ad 51), .ref (ad 52), .int (M 42 11), .ref (ad 53), .int (M 42 13), .ref (ad 54), .ref (ad 55), .int (M 42 16), .int (M 42 17), .int (M 42 18), .int (M 42 19), .ref (ad 56), .int (M 42 21), .int (M 42 22), .ref (ad 57), .ref (ad 58), .ref (ad 59), .ref (ad 60), .ref (ad 61), .ref (ad 62), .ref (ad 63), .ref (ad 64), .ref (ad 65), .ref (ad 66), .int (M 42 33), .int (M 42 34)], fun _ _ _ _ => ⟨rfl, rfl⟩⟩
theorem zR_42_8 : zFr 7 42 8 50 := ⟨fun ad M => [.int (M 42 0), .ref (ad 43), .ref (ad 44), .ref (ad 45), .ref (ad 46), .ref (ad 47), .ref (ad 48), .ref (ad 49), .ref (ad 50), .ref (ad 51), .ref (ad 52), .int (M 42 11), .ref (ad 53), .int (M 42 13), .ref (ad 54), .ref (ad 55), .int (M 42 16), .int (M 42 17), .int (M 42 18), .int (M 42 19), .ref (ad 56), .int (M 42 21), .int (M 42 22), .ref (ad 57), .ref (ad 58), .ref (ad 59), .ref (ad 60), .ref (ad 61), .ref (ad 62), .ref (ad 63), .ref (ad 64), .ref (ad 65), .ref (ad 66), .int (M 42 33), .int (M 42 34)], fun _ _ _ _ => ⟨rfl, rfl⟩⟩
theorem zR_42_9 : zFr 7 42 9 51 := ⟨fun ad M => [.int (M 42 0), .ref (ad 43), .ref (ad 44), .ref (ad 45), .ref (ad 46), .ref (ad 47), .ref (ad 48), .ref (ad 49), .ref (ad 50), .ref (ad 51), .ref (ad 52), .int (M 42 11), .ref (ad 53), .int (M 42 13), .ref (ad 54), .ref (ad 55), .int (M 42 16), .int (M 42 17), .int (M 42 18), .int (M 42 19), .ref (ad 56), .int (M 42 21), .int (M 42 22), .ref (ad 57), .ref (ad 58), .ref (ad 59), .ref (ad 60), .ref (ad 61), .ref (ad 62), .ref (ad 63), .ref (ad 64), .ref (ad 65), .ref (ad 66), .int (M 42 33), .int (M 42 34)], fun _ _ _ _ => ⟨rfl, rfl⟩⟩
theorem zR_42_10 : zFr 7 42 10 52 := ⟨fun ad M => [.int (M 42 0), .ref (ad 43), .ref (ad 44), .ref (ad 45), .ref (ad 46), .ref (ad 47), .ref (ad 48), .ref (ad 49), .ref (ad 50), .ref (ad 51), .ref (ad 52), .int (M 42 11), .ref (ad 53), .int (M 42 13), .ref (ad 54), .ref (ad 55), .int (M 42 16), .int (M 42 17), .int (M 42 18), .int (M 42 19), .ref (ad 56), .int (M 42 21), .int (M 42 22), .ref (ad 57), .ref (ad 58), .ref (ad 59), .ref (ad 60), .ref (ad 61), .ref (ad 62), .ref (ad 63), .ref (ad 64), .ref (ad 65), .ref (ad 66), .int (M 42 33), .int (M 42 34)], fun _ _ _ _ => ⟨rfl, rfl⟩⟩
theorem zF_42_11 : zFi 7 42 11 := ⟨fun ad M => [.int (M 42 0), .ref (ad 43), .ref (ad 44), .ref (ad 45), .ref (ad 46), .ref (ad 47), .ref (ad 48), .ref (ad 49), .ref (ad 50), .ref (ad 51), .ref (ad 52), .int (M 42 11), .ref (ad 53), .int (M 42 13), .ref (ad 54), .ref (ad 55), .int (M 42 16), .int (M 42 17), .int (M 42 18), .int (M 42 19), .ref (ad 56), .int (M 42 21), .int (M 42 22), .ref (ad 57), .ref (ad 58), .ref (ad 59), .ref (ad 60), .ref (ad 61), .ref (ad 62), .ref (ad 63), .ref (ad 64), .ref (ad 65), .ref (ad 66), .int (M 42 33), .int (M 42 34)], fun _ _ _ _ => ⟨rfl, rfl, fun _ => rfl⟩⟩
theorem zR_42_12 : zFr 7 42 12 53 := ⟨fun ad M => [.int (M 42 0), .ref (ad 43), .ref (ad 44), .ref (ad 45), .ref (ad 46), .ref (ad 47), .ref (ad 48), .ref (ad 49), .ref (ad 50), .ref (ad 51), .ref (ad 52), .int (M 42 11), .ref (ad 53), .int (M 42 13), .ref (ad 54), .ref (ad 55), .int (M 42 16), .int (M 42 17), .int (M 42 18), .int (M 42 19), .ref (ad 56), .int (M 42 21), .int (M 42 22), .ref (ad 57), .ref (ad 58), .ref (ad 59), .ref (ad 60), .ref (ad 61), .ref (ad 62), .ref (ad 63), .ref (ad 64), .ref (ad 65), .ref (ad 66), .int (M 42 33), .int (M 42 34)], fun _ _ _ _ => ⟨rfl, rfl⟩⟩
theorem zF_42_13 : zFi 7 42 13 := ⟨fun ad M => [.int (M 42 0), .ref (ad 43), .ref (ad 44), .ref (ad 45), .ref (ad 46), .ref (ad 47), .ref (ad 48), .ref (ad 49), .ref (ad 50), .ref (ad 51), .ref (ad 52), .int (M 42 11), .ref (ad 53), .int (M 42 13), .ref (ad 54), .ref (ad 55), .int (M 42 16), .int (M 42 17), .int (M 42 18), .int (M 42 19), .ref (ad 56), .int (M 42 21), .int (M 42 22), .ref (ad 57), .ref (ad 58), .ref (ad 59), .ref (ad 60), .ref (ad 61), .ref (ad 62), .ref (ad 63), .ref (ad 64), .ref (ad 65), .ref (ad 66), .int (M 42 33), .int (M 42 34)], fun _ _ _ _ => ⟨rfl, rfl, fun _ => rfl⟩⟩
theorem zR_42_14 : zFr 7 42 14 54 := ⟨fun ad M => [.int (M 42 0), .ref (ad 43), .ref (ad 44), .ref (ad 45), .ref (ad 46), .ref (ad 47), .ref (ad 48), .ref (ad 49), .ref (ad 50), .ref (ad 51), .ref (ad 52), .int (M 42 11), .ref (ad 53), .int (M 42 13), .ref (ad 54), .ref (ad 55), .int (M 42 16), .int (M 42 17), .int (M 42 18), .int (M 42 19), .ref (ad 56), .int (M 42 21), .int (M 42 22), .ref (ad 57), .ref (ad 58), .ref (ad 59), .ref (ad 60), .ref (ad 61), .ref (ad 62), .ref (ad 63), .ref (ad 64), .ref (ad 65), .ref (ad 66), .int (M 42 33), .int (M 42 34)], fun _ _ _ _ => ⟨rfl, rfl⟩⟩
theorem zR_42_15 : zFr 7 42 15 55 := ⟨fun ad M => [.int (M 42 0), .ref (ad 43), .ref (ad 44), .ref (ad 45), .ref (ad 46), .ref (ad 47), .ref (ad 48), .ref (ad 49), .ref (ad 50), .ref (ad 51), .ref (ad 52), .int (M 42 11), .ref (ad 53), .int (M 42 13), .ref (ad 54), .ref (ad 55), .int (M 42 16), .int (M 42 17), .int (M 42 18), .int (M 42 19), .ref (ad 56), .int (M 42 21), .int (M 42 22), .ref (ad 57), .ref (ad 58), .ref (ad 59), .ref (ad 60), .ref (ad 61), .ref (ad 62), .ref (ad 63), .ref (ad 64), .ref (ad 65), .ref (ad 66), .int (M 42 33), .int (M 42 34)], fun _ _ _ _ => ⟨rfl, rfl⟩⟩
theorem zF_42_16 : zFi 7 42 16 := ⟨fun ad M => [.int (M 42 0), .ref (ad 43), .ref (ad 44), .ref (ad 45), .ref (ad 46), .ref (ad 47), .ref (ad 48), .ref (ad 49), .ref (ad 50), .ref (ad 51), .ref (ad 52), .int (M 42 11), .ref (ad 53), .int (M 42 13), .ref (ad 54), .ref (ad 55), .int (M 42 16), .int (M 42 17), .int (M 42 18), .int (M 42 19), .ref (ad 56), .int (M 42 21), .int (M 42 22), .ref (ad 57), .ref (ad 58), .ref (ad 59), .ref (ad 60), .ref (ad 61), .ref (ad 62), .ref (ad 63), .ref (ad 64), .ref (ad 65), .ref (ad 66), .int (M 42 33), .int (M 42 34)], fun _ _ _ _ => ⟨rfl, rfl, fun _ => rfl⟩⟩
theorem zF_42_17 : zFi 7 42 17 := ⟨fun ad M => [.int (M 42 0), .ref (ad 43), .ref (ad 44), .ref (ad 45), .ref (ad 46), .ref (ad 47), .ref (ad 48), .ref (ad 49), .ref (ad 50), .ref (ad 51), .ref (ad 52), .int (M 42 11), .ref (ad 53), .int (M 42 13), .ref (ad 54), .ref (ad 55), .int (M 42 16), .int (M 42 17), .int (M 42 18), .int (M 42 19), .ref (ad 56), .int (M 42 21), .int (M 42 22), .ref (ad 57), .ref (ad 58), .ref (ad 59), .ref (ad 60), .ref (ad 61), .ref (ad 62), .ref (ad 63), .ref (ad 64), .ref (ad 65), .ref (ad 66), .int (M 42 33), .int (M 42 34)], fun _ _ _ _ => ⟨rfl, rfl, fun _ => rfl⟩⟩
theorem zF_42_18 : zFi 7 42 18 := ⟨fun ad M => [.int (M 42 0), .ref (ad 43), .ref (ad 44), .ref (ad 45), .ref (ad 46), .ref (ad 47), .ref (ad 48), .ref (ad 49), .ref (ad 50), .ref (ad 51), .ref (ad 52), .int (M 42 11), .ref (ad 53), .int (M 42 13), .ref (ad 54), .ref (ad 55), .int (M 42 16), .int (M 42 17), .int (M 42 18), .int (M 42 19), .ref (ad 56), .int (M 42 21), .int (M 42 22), .ref (ad 57), .ref (ad 58), .ref (ad 59), .ref (ad 60), .ref (ad 61), .ref (ad 62), .ref (ad 63), .ref (ad 64), .ref (ad 65), .ref (ad 66), .int (M 42 33), .int (M 42 34)], fun _ _ _ _ => ⟨rfl, rfl, fun _ => rfl⟩⟩
theorem zF_42_19 : zFi 7 42 19 := ⟨fun ad M => [.int (M 42 0), .ref (ad 43), .ref (ad 44), .ref (ad 45), .ref (ad 46), .ref (ad 47), .ref (ad 48), .ref (ad 49), .ref (ad 50), .ref (ad 51), .ref (ad 52), .int (M 42 11), .ref (ad 53), .int (M 42 13), .ref (ad 54), .ref (ad 55), .int (M 42 16), .int (M 42 17), .int (M 42 18), .int (M 42 19), .ref (ad 56), .int (M 42 21), .int (M 42 22), .ref (ad 57), .ref (ad 58), .ref (ad 59), .ref (ad 60), .ref (ad 61), .ref (ad 62), .ref (ad 63), .ref (ad 64), .ref (ad 65), .ref (ad 66), .int (M 42 33), .int (M 42 34)], fun _ _ _ _ => ⟨rfl, rfl, fun _ => rfl⟩⟩
theorem zR_42_20 : zFr 7 42 20 56 := ⟨fun ad M => [.int (M 42 0), .ref (ad 43), .ref (ad 44), .ref (ad 45), .ref (ad 46), .ref (ad 47), .ref (ad 48), .ref (ad 49), .ref (ad 50), .ref (ad 51), .ref (ad 52), .int (M 42 11), .ref (ad 53), .int (M 42 13), .ref (ad 54), .ref (ad 55), .int (M 42 16), .int (M 42 17), .int (M 42 18), .int (M 42 19), .ref (ad 56), .int (M 42 21), .int (M 42 22), .ref (ad 57), .ref (ad 58), .ref (ad 59), .ref (ad 60), .ref (ad 61), .ref (ad 62), .ref (ad 63), .ref (ad 64), .ref (ad 65), .ref (ad 66), .int (M 42 33), .int (M 42 34)], fun _ _ _ _ => ⟨rfl, rfl⟩⟩
theorem zF_42_21 : zFi 7 42 21 := ⟨fun ad M => [.int (M 42 0), .ref (ad 43), .ref (ad 44), .ref (ad 45), .ref (ad 46), .ref (ad 47), .ref (ad 48), .ref (ad 49), .ref (ad 50), .ref (ad 51), .ref (ad 52), .int (M 42 11), .ref (ad 53), .int (M 42 13), .ref (ad 54), .ref (ad 55), .int (M 42 16), .int (M 42 17), .int (M 42 18), .int (M 42 19), .ref (ad 56), .int (M 42 21), .int (M 42 22), .ref (ad 57), .ref (ad 58), .ref (ad 59), .ref (ad 60), .ref (ad 61), .ref (ad 62), .ref (ad 63), .ref (ad 64), .ref (ad 65), .ref (ad 66), .int (M 42 33), .int (M 42 34)], fun _ _ _ _ => ⟨rfl, rfl, fun _ => rfl⟩⟩
theorem zF_42_22 : zFi 7 42 22 := ⟨fun ad M => [.int (M 42 0), .ref (ad 43), .ref (ad 44), .ref (ad 45), .ref (ad 46), .ref (ad 47), .ref (ad 48), .ref (ad 49), .ref (ad 50), .ref (ad 51), .ref (ad 52), .int (M 42 11), .ref (ad 53), .int (M 42 13), .ref (ad 54), .ref (ad 55), .int (M 42 16), .int (M 42 17), .int (M 42 18), .int (M 42 19), .ref (ad 56), .int (M 42 21), .int (M 42 22), .ref (ad 57), .ref (ad 58), .ref (ad 59), .ref (ad 60), .ref (ad 61), .ref (ad 62), .ref (ad 63), .ref (ad 64), .ref (ad 65), .ref (ad 66), .int (M 42 33), .int (M 42 34)], fun _ _ _ _ => ⟨rfl, rfl, fun _ => rfl⟩⟩
theorem zR_42_23 : zFr 7 42 23 57 := ⟨fun ad M => [.int (M 42 0), .ref (ad 43), .ref (ad 44), .ref (ad 45), .ref (ad 46), .ref (ad 47), .ref (ad 48), .ref (ad 49), .ref (ad 50), .ref (ad 51), .ref (ad 52), .int (M 42 11), .ref (ad 53), .int (M 42 13), .ref (ad 54), .ref (ad 55), .int (M 42 16), .int (M 42 17), .int (M 42 18), .int (M 42 19), .ref (ad 56), .int (M 42 21), .int (M 42 22), .ref (ad 57), .ref (ad 58), .ref (ad 59), .ref (ad 60), .ref (ad 61), .ref (ad 62), .ref (ad 63), .ref (ad 64), .ref (ad 65), .ref (ad 66), .int (M 42 33), .int (M 42 34)], fun _ _ _ _ => ⟨rfl, rfl⟩⟩
theorem zR_42_24 : zFr 7 42 24 58 := ⟨fun ad M => [.int (M 42 0), .ref (ad 43), .ref (ad 44), .ref (ad 45), .ref (ad 46), .ref (ad 47), .ref (ad 48), .ref (ad 49), .ref (ad 50), .ref (ad 51), .ref (ad 52), .int (M 42 11), .ref (ad 53), .int (M 42 13), .ref (ad 54), .ref (ad 55), .int (M 42 16), .int (M 42 17), .int (M 42 18), .int (M 42 19), .ref (ad 56), .int (M 42 21), .int (M 42 22), .ref (ad 57), .ref (ad 58), .ref (ad 59), .ref (ad 60), .ref (ad 61), .ref (ad 62), .ref (ad 63), .ref (ad 64), .ref (ad 65), .ref (ad 66), .int (M 42 33), .int (M 42 34)], fun _ _ _ _ => ⟨rfl, rfl⟩⟩
theorem zR_42_25 : zFr 7 42 25 59 := ⟨fun ad M => [.int (M 42 0), .ref (ad 43), .ref (ad 44), .ref (ad 45), .ref (ad 46), .ref (ad 47), .ref (ad 48), .ref (ad 49), .ref (ad 50), .ref (ad 51), .ref (ad 52), .int (M 42 11), .ref (ad 53), .int (M 42 13), .ref (ad 54), .ref (ad 55), .int (M 42 16), .int (M 42 17), .int (M 42 18), .int (M 42 19), .ref (ad 56), .int (M 42 21), .int (M 42 22), .ref (ad 57), .ref (ad 58), .ref (ad 59), .ref (ad 60), .ref (ad 61), .ref (ad 62), .ref (ad 63), .ref (ad 64), .ref (ad 65), .ref (ad 66), .int (M 42 33), .int (M 42 34)], fun _ _ _ _ => ⟨rfl, rfl⟩⟩
theorem zR_42_26 : zFr 7 42 26 60 := ⟨fun ad M => [.int (M 42 0), .ref (ad 43), .ref (ad 44), .ref (ad 45), .ref (ad 46), .ref (ad 47), .ref (ad 48), .ref (ad 49), .ref (ad 50), .ref (ad 51), .ref (ad 52), .int (M 42 11), .ref (ad 53), .int (M 42 13), .ref (ad 54), .ref (ad 55), .int (M 42 16), .int (M 42 17), .int (M 42 18), .int (M 42 19), .ref (ad 56), .int (M 42 21), .int (M 42 22), .ref (ad 57), .ref (ad 58), .ref (ad 59), .ref (ad 60), .ref (ad 61), .ref (ad 62), .ref (ad 63), .ref (ad 64), .ref (ad 65), .ref (ad 66), .int (M 42 33), .int (M 42 34)], fun _ _ _ _ => ⟨rfl, rfl⟩⟩
theorem zR_42_27 : zFr 7 42 27 61 := ⟨fun ad M => [.int (M 42 0), .ref (ad 43), .ref (ad 44), .ref (ad 45), .ref (ad 46), .ref (ad 47), .ref (ad 48), .ref (ad 49), .ref (ad 50), .ref (ad 51), .ref (ad 52), .int (M 42 11), .ref (ad 53), .int (M 42 13), .ref (ad 54), .ref (ad 55), .int (M 42 16), .int (M 42 17), .int (M 42 18), .int (M 42 19), .ref (ad 56), .int (M 42 21), .int (M 42 22), .ref (ad 57), .ref (ad 58), .ref (ad 59), .ref (ad 60), .ref (ad 61), .ref (ad 62), .ref (ad 63), .ref (ad 64), .ref (ad 65), .ref (ad 66), .int (M 42 33), .int (M 42 34)], fun _ _ _ _ => ⟨rfl, rfl⟩⟩
theorem zR_42_28 : zFr 7 42 28 62 := ⟨fun ad M => [.int (M 42 0), .ref (ad 43), .ref (ad 44), .ref (ad 45), .ref (ad 46), .ref (ad 47), .ref (ad 48), .ref (ad 49), .ref (ad 50), .ref (ad 51), .ref (ad 52), .int (M 42 11), .ref (ad 53), .int (M 42 13), .ref (ad 54), .ref (ad 55), .int (M 42 16), .int (M 42 17), .int (M 42 18), .int (M 42 19), .ref (ad 56), .int (M 42 21), .int (M 42 22), .ref (ad 57), .ref (ad 58), .ref (ad 59), .ref (ad 60), .ref (ad 61), .ref (ad 62), .ref (ad 63), .ref (ad 64), .ref (ad 65), .ref (ad 66), .int (M 42 33), .int (M 42 34)], fun _ _ _ _ => ⟨rfl, rfl⟩⟩
theorem zR_42_29 : zFr 7 42 29 63 := ⟨fun ad M => [.int (M 42 0), .ref (ad 43), .ref (ad 44), .ref (ad 45), .ref (ad 46), .ref (ad 47), .ref (ad 48), .ref (ad 49), .ref (ad 50), .ref (ad 51), .ref (ad 52), .int (M 42 11), .ref (ad 53), .int (M 42 13), .ref (ad 54), .ref (ad 55), .int (M 42 16), .int (M 42 17), .int (M 42 18), .int (M 42 19), .ref (ad 56), .int (M 42 21), .int (M 42 22), .ref (ad 57), .ref (ad 58), .ref (ad 59), .ref (ad 60), .ref (ad 61), .ref (ad 62), .ref (ad 63), .ref (ad 64), .ref (ad 65), .ref (ad 66), .int (M 42 33), .int (M 42 34)], fun _ _ _ _ => ⟨rfl, rfl⟩⟩
theorem zR_42_30 : zFr 7 42 30 64 := ⟨fun ad M => [.int (M 42 0), .ref (ad 43), .ref (ad 44), .ref (ad 45), .ref (ad 46), .ref (ad 47), .ref (ad 48), .ref (ad 49), .ref (ad 50), .ref (ad 51), .ref (ad 52), .int (M 42 11), .ref (ad 53), .int (M 42 13), .ref (ad 54), .ref (ad 55), .int (M 42 16), .int (M 42 17), .int (M 42 18), .int (M 42 19), .ref (ad 56), .int (M 42 21), .int (M 42 22), .ref (ad 57), .ref (ad 58), .ref (ad 59), .ref (ad 60), .ref (ad 61), .ref (ad 62), .ref (ad 63), .ref (ad 64), .ref (ad 65), .ref (ad 66), .int (M 42 33), .int (M 42 34)], fun _ _ _ _ => ⟨rfl, rfl⟩⟩
theorem zR_42_31 : zFr 7 42 31 65 := ⟨fun ad M => [.int (M 42 0), .ref (ad 43), .ref (ad 44), .ref (ad 45), .ref (ad 46), .ref (ad 47), .ref (ad 48), .ref (ad 49), .ref (ad 50), .ref (ad 51), .ref (ad 52), .int (M 42 11), .ref (ad 53), .int (M 42 13), .ref (ad 54), .ref (ad 55), .int (M 42 16), .int (M 42 17), .int (M 42 18), .int (M 42 19), .ref (ad 56), .int (M 42 21), .int (M 42 22), .ref (ad 57), .ref (ad 58), .ref (ad 59), .ref (ad 60), .ref (ad 61), .ref (ad 62), .ref (ad 63), .ref (ad 64), .ref (ad 65), .ref (ad 66), .int (M 42 33), .int (M 42 34)], fun _ _ _ _ => ⟨rfl, rfl⟩⟩
theorem zR_42_32 : zFr 7 42 32 66 := ⟨fun ad M => [.int (M 42 0), .ref (ad 43), .ref (ad 44), .ref (ad 45), .ref (ad 46), .ref (ad 47), .ref (ad 48), .ref (ad 49), .ref (ad 50), .ref (ad 51), .ref (ad 52), .int (M 42 11), .ref (ad 53), .int (M 42 13), .ref (ad 54), .ref (ad 55), .int (M 42 16), .int (M 42 17), .int (M 42 18), .int (M 42 19), .ref (ad 56), .int (M 42 21), .int (M 42 22), .ref (ad 57), .ref (ad 58), .ref (ad 59), .ref (ad 60), .ref (ad 61), .ref (ad 62), .ref (ad 63), .ref (ad 64), .ref (ad 65), .ref (ad 66), .int (M 42 33), .int (M 42 34)], fun _ _ _ _ => ⟨rfl, rfl⟩⟩
theorem zF_42_33 : zFi 7 42 33 := ⟨fun ad M => [.int (M 42 0), .ref (ad 43), .ref (ad 44), .ref (ad 45), .ref (ad 46), .ref (ad 47), .ref (ad 48), .ref (ad 49), .ref (ad 50), .ref (ad 51), .ref (ad 52), .int (M 42 11), .ref (ad 53), .int (M 42 13), .ref (ad 54), .ref (ad 55), .int (M 42 16), .int (M 42 17), .int (M 42 18), .int (M 42 19), .ref (ad 56), .int (M 42 21), .int (M 42 22), .ref (ad 57), .ref (ad 58), .ref (ad 59), .ref (ad 60), .ref (ad 61), .ref (ad 62), .ref (ad 63), .ref (ad 64), .ref (ad 65), .ref (ad 66), .int (M 42 33), .int (M 42 34)], fun _ _ _ _ => ⟨rfl, rfl, fun _ => rfl⟩⟩
theorem zF_42_34 : zFi 7 42 34 := ⟨fun ad M => [.int (M 42 0), .ref (ad 43), .ref (ad 44), .ref (ad 45), .ref (ad 46), .ref (ad 47), .ref (ad 48), .ref (ad 49), .ref (ad 50), .ref (ad 51), .ref (ad 52), .int (M 42 11), .ref (ad 53), .int (M 42 13), .ref (ad 54), .ref (ad 55), .int (M 42 16), .int (M 42 17), .int (M 42 18), .int (M 42 19), .ref (ad 56), .int (M 42 21), .int (M 42 22), .ref (ad 57), .ref (ad 58), .ref (ad 59), .ref (ad 60), .ref (ad 61), .ref (ad 62), .ref (ad 63), .ref (ad 64), .ref (ad 65), .ref (ad 66), .int (M 42 33), .int (M 42 34)], fun _ _ _ _ => ⟨rfl, rfl, fun _ => rfl⟩⟩
theorem zIY_1 {b : Nat} (h : isY b) : zRow (b + 1) 8 := by
  rcases h with rfl | rfl | rfl | rfl
  · exact ⟨⟨8, fun _ => rfl⟩, fun _ _ _ _ => ⟨rfl, fun _ => rfl⟩⟩
  · exact ⟨⟨14, fun _ => rfl⟩, fun _ _ _ _ => ⟨rfl, fun _ => rfl⟩⟩
  · exact ⟨⟨20, fun _ => rfl⟩, fun _ _ _ _ => ⟨rfl, fun _ => rfl⟩⟩
  · exact ⟨⟨26, fun _ => rfl⟩, fun _ _ _ _ => ⟨rfl, fun _ => rfl⟩⟩
theorem zIY_2 {b : Nat} (h : isY b) : zRow (b + 2) 8 := by
  rcases h with rfl | rfl | rfl | rfl
  · exact ⟨⟨9, fun _ => rfl⟩, fun _ _ _ _ => ⟨rfl, fun _ => rfl⟩⟩
  · exact ⟨⟨15, fun _ => rfl⟩, fun _ _ _ _ => ⟨rfl, fun _ => rfl⟩⟩
  · exact ⟨⟨21, fun _ => rfl⟩, fun _ _ _ _ => ⟨rfl, fun _ => rfl⟩⟩
  · exact ⟨⟨27, fun _ => rfl⟩, fun _ _ _ _ => ⟨rfl, fun _ => rfl⟩⟩
theorem zIY_3 {b : Nat} (h : isY b) : zRow (b + 3) 8 := by
  rcases h with rfl | rfl | rfl | rfl
  · exact ⟨⟨10, fun _ => rfl⟩, fun _ _ _ _ => ⟨rfl, fun _ => rfl⟩⟩
  · exact ⟨⟨16, fun _ => rfl⟩, fun _ _ _ _ => ⟨rfl, fun _ => rfl⟩⟩
  · exact ⟨⟨22, fun _ => rfl⟩, fun _ _ _ _ => ⟨rfl, fun _ => rfl⟩⟩
  · exact ⟨⟨28, fun _ => rfl⟩, fun _ _ _ _ => ⟨rfl, fun _ => rfl⟩⟩
theorem zIY_4 {b : Nat} (h : isY b) : zRow (b + 4) 8 := by
  rcases h with rfl | rfl | rfl | rfl
  · exact ⟨⟨11, fun _ => rfl⟩, fun _ _ _ _ => ⟨rfl, fun _ => rfl⟩⟩
  · exact ⟨⟨17, fun _ => rfl⟩, fun _ _ _ _ => ⟨rfl, fun _ => rfl⟩⟩
  · exact ⟨⟨23, fun _ => rfl⟩, fun _ _ _ _ => ⟨rfl, fun _ => rfl⟩⟩
  · exact ⟨⟨29, fun _ => rfl⟩, fun _ _ _ _ => ⟨rfl, fun _ => rfl⟩⟩
theorem zIY_5 {b : Nat} (h : isY b) : zRow (b + 5) 8 := by
  rcases h with rfl | rfl | rfl | rfl
  · exact ⟨⟨12, fun _ => rfl⟩, fun _ _ _ _ => ⟨rfl, fun _ => rfl⟩⟩
  · exact ⟨⟨18, fun _ => rfl⟩, fun _ _ _ _ => ⟨rfl, fun _ => rfl⟩⟩
  · exact ⟨⟨24, fun _ => rfl⟩, fun _ _ _ _ => ⟨rfl, fun _ => rfl⟩⟩
  · exact ⟨⟨30, fun _ => rfl⟩, fun _ _ _ _ => ⟨rfl, fun _ => rfl⟩⟩
theorem zIY_6 {b : Nat} (h : isY b) : zRow (b + 6) 6 := by
  rcases h with rfl | rfl | rfl | rfl
  · exact ⟨⟨13, fun _ => rfl⟩, fun _ _ _ _ => ⟨rfl, fun _ => rfl⟩⟩
  · exact ⟨⟨19, fun _ => rfl⟩, fun _ _ _ _ => ⟨rfl, fun _ => rfl⟩⟩
  · exact ⟨⟨25, fun _ => rfl⟩, fun _ _ _ _ => ⟨rfl, fun _ => rfl⟩⟩
  · exact ⟨⟨31, fun _ => rfl⟩, fun _ _ _ _ => ⟨rfl, fun _ => rfl⟩⟩
theorem zOY {b : Nat} (h : isY b) : zOb 5 b := by
  rcases h with rfl | rfl | rfl | rfl
  · exact ⟨fun ad M => [.int (M 14 0), .ref (ad 15), .ref (ad 16), .ref (ad 17), .ref (ad 18), .ref (ad 19), .ref (ad 20), .int (M 14 7), .int (M 14 8), .int (M 14 9), .int (M 14 10), .int (M 14 11), .int (M 14 12)], fun _ _ _ _ => rfl⟩
  · exact ⟨fun ad M => [.int (M 21 0), .ref (ad 22), .ref (ad 23), .ref (ad 24), .ref (ad 25), .ref (ad 26), .ref (ad 27), .int (M 21 7), .int (M 21 8), .int (M 21 9), .int (M 21 10), .int (M 21 11), .int (M 21 12)], fun _ _ _ _ => rfl⟩
  · exact ⟨fun ad M => [.int (M 28 0), .ref (ad 29), .ref (ad 30), .ref (ad 31), .ref (ad 32), .ref (ad 33), .ref (ad 34), .int (M 28 7), .int (M 28 8), .int (M 28 9), .int (M 28 10), .int (M 28 11), .int (M 28 12)], fun _ _ _ _ => rfl⟩
  · exact ⟨fun ad M => [.int (M 35 0), .ref (ad 36), .ref (ad 37), .ref (ad 38), .ref (ad 39), .ref (ad 40), .ref (ad 41), .int (M 35 7), .int (M 35 8), .int (M 35 9), .int (M 35 10), .int (M 35 11), .int (M 35 12)], fun _ _ _ _ => rfl⟩
theorem zFY_0 {b : Nat} (h : isY b) : zFi 5 b 0 := by
  rcases h with rfl | rfl | rfl | rfl
  · exact ⟨fun ad M => [.int (M 14 0), .ref (ad 15), .ref (ad 16), .ref (ad 17), .ref (ad 18), .ref (ad 19), .ref (ad 20), .int (M 14 7), .int (M 14 8), .int (M 14 9), .int (M 14 10), .int (M 14 11), .int (M 14 12)], fun _ _ _ _ => ⟨rfl, rfl, fun _ => rfl⟩⟩
  · exact ⟨fun ad M => [.int (M 21 0), .ref (ad 22), .ref (ad 23), .ref (ad 24), .ref (ad 25), .ref (ad 26), .ref (ad 27), .int (M 21 7), .int (M 21 8), .int (M 21 9), .int (M 21 10), .int (M 21 11), .int (M 21 12)], fun _ _ _ _ => ⟨rfl, rfl, fun _ => rfl⟩⟩
  · exact ⟨fun ad M => [.int (M 28 0), .ref (ad 29), .ref (ad 30), .ref (ad 31), .ref (ad 32), .ref (ad 33), .ref (ad 34), .int (M 28 7), .int (M 28 8), .int (M 28 9), .int (M 28 10), .int (M 28 11), .int (M 28 12)], fun _ _ _ _ => ⟨rfl, rfl, fun _ => rfl⟩⟩
  · exact ⟨fun ad M => [.int (M 35 0), .ref (ad 36), .ref (ad 37), .ref (ad 38), .ref (ad 39), .ref (ad 40), .ref (ad 41), .int (M 35 7), .int (M 35 8), .int (M 35 9), .int (M 35 10), .int (M 35 11), .int (M 35 12)], fun _ _ _ _ => ⟨rfl, rfl, fun _ => rfl⟩⟩
theorem zRY_1 {b : Nat} (h : isY b) : zFr 5 b 1 (b + 1) := by
  rcases h with rfl | rfl | rfl | rfl
  · exact ⟨fun ad M => [.int (M 14 0), .ref (ad 15), .ref (ad 16), .ref (ad 17), .ref (ad 18), .ref (ad 19), .ref (ad 20), .int (M 14 7), .int (M 14 8), .int (M 14 9), .int (M 14 10), .int (M 14 11), .int (M 14 12)], fun _ _ _ _ => ⟨rfl, rfl⟩⟩
  · exact ⟨fun ad M => [.int (M 21 0), .ref (ad 22), .ref (ad 23), .ref (ad 24), .ref (ad 25), .ref (ad 26), .ref (ad 27), .int (M 21 7), .int (M 21 8), .int (M 21 9), .int (M 21 10), .int (M 21 11), .int (M 21 12)], fun _ _ _ _ => ⟨rfl, rfl⟩⟩
  · exact ⟨fun ad M => [.int (M 28 0), .ref (ad 29), .ref (ad 30), .ref (ad 31), .ref (ad 32), .ref (ad 33), .ref (ad 34), .int (M 28 7), .int (M 28 8), .int (M 28 9), .int (M 28 10), .int (M 28 11), .int (M 28 12)], fun _ _ _ _ => ⟨rfl, rfl⟩⟩
  · exact ⟨fun ad M => [.int (M 35 0), .ref (ad 36), .ref (ad 37), .ref (ad 38), .ref (ad 39), .ref (ad 40), .ref (ad 41), .int (M 35 7), .int (M 35 8), .int (M 35 9), .int (M 35 10), .int (M 35 11), .int (M 35 12)], fun _ _ _ _ => ⟨rfl, rfl⟩⟩
theorem zRY_2 {b : Nat} (h : isY b) : zFr 5 b 2 (b + 2) := by
  rcases h with rfl | rfl | rfl | rfl
  · exact ⟨fun ad M => [.int (M 14 0), .ref (ad 15), .ref (ad 16), .ref (ad 17), .ref (ad 18), .ref (ad 19), .ref (ad 20), .int (M 14 7), .int (M 14 8), .int (M 14 9), .int (M 14 10), .int (M 14 11), .int (M 14 12)], fun _ _ _ _ => ⟨rfl, rfl⟩⟩
  · exact ⟨fun ad M => [.int (M 21 0), .ref (ad 22), .ref (ad 23), .ref (ad 24), .ref (ad 25), .ref (ad 26), .ref (ad 27), .int (M 21 7), .int (M 21 8), .int (M 21 9), .int (M 21 10), .int (M 21 11), .int (M 21 12)], fun _ _ _ _ => ⟨rfl, rfl⟩⟩
  · exact ⟨fun ad M => [.int (M 28 0), .ref (ad 29), .ref (ad 30), .ref (ad 31), .ref (ad 32), .ref (ad 33), .ref (ad 34), .int (M 28 7), .int (M 28 8), .int (M 28 9), .int (M 28 10), .int (M 28 11), .int (M 28 12)], fun _ _ _ _ => ⟨rfl, rfl⟩⟩
  · exact ⟨fun ad M => [.int (M 35 0), .ref (ad 36), .ref (ad 37), .ref (ad 38), .ref (ad 39), .ref (ad 40), .ref (ad 41), .int (M 35 7), .int (M 35 8), .int (M 35 9), .int (M 35 10), .int (M 35 11), .int (M 35 12)], fun _ _ _ _ => ⟨rfl, rfl⟩⟩
theorem zRY_3 {b : Nat} (h : isY b) : zFr 5 b 3 (b + 3) := by
  rcases h with rfl | rfl | rfl | rfl
  · exact ⟨fun ad M => [.int (M 14 0), .ref (ad 15), .ref (ad 16), .ref (ad 17), .ref (ad 18), .ref (ad 19), .ref (ad 20), .int (M 14 7), .int (M 14 8), .int (M 14 9), .int (M 14 10), .int (M 14 11), .int (M 14 12)], fun _ _ _ _ => ⟨rfl, rfl⟩⟩
  · exact ⟨fun ad M => [.int (M 21 0), .ref (ad 22), .ref (ad 23), .ref (ad 24), .ref (ad 25), .ref (ad 26), .ref (ad 27), .int (M 21 7), .int (M 21 8), .int (M 21 9), .int (M 21 10), .int (M 21 11), .int (M 21 12)], fun _ _ _ _ => ⟨rfl, rfl⟩⟩
  · exact ⟨fun ad M => [.int (M 28 0), .ref (ad 29), .ref (ad 30), .ref (ad 31), .ref (ad 32), .ref (ad 33), .ref (ad 34), .int (M 28 7), .int (M 28 8), .int (M 28 9), .int (M 28 10), .int (M 28 11), .int (M 28 12)], fun _ _ _ _ => ⟨rfl, rfl⟩⟩
  · exact ⟨fun ad M => [.int (M 35 0), .ref (ad 36), .ref (ad 37), .ref (ad 38), .ref (ad 39), .ref (ad 40), .ref (ad 41), .int (M 35 7), .int (M 35 8), .int (M 35 9), .int (M 35 10), .int (M 35 11), .int (M 35 12)], fun _ _ _ _ => ⟨rfl, rfl⟩⟩
theorem zRY_4 {b : Nat} (h : isY b) : zFr 5 b 4 (b + 4) := by
  rcases h with rfl | rfl | rfl | rfl
  · exact ⟨fun ad M => [.int (M 14 0), .ref (ad 15), .ref (ad 16), .ref (ad 17), .ref (ad 18), .ref (ad 19), .ref (ad 20), .int (M 14 7), .int (M 14 8), .int (M 14 9), .int (M 14 10), .int (M 14 11), .int (M 14 12)], fun _ _ _ _ => ⟨rfl, rfl⟩⟩
  · exact ⟨fun ad M => [.int (M 21 0), .ref (ad 22), .ref (ad 23), .ref (ad 24), .ref (ad 25), .ref (ad 26), .ref (ad 27), .int (M 21 7), .int (M 21 8), .int (M 21 9), .int (M 21 10), .int (M 21 11), .int (M 21 12)], fun _ _ _ _ => ⟨rfl, rfl⟩⟩
  · exact ⟨fun ad M => [.int (M 28 0), .ref (ad 29), .ref (ad 30), .ref (ad 31), .ref (ad 32), .ref (ad 33), .ref (ad 34), .int (M 28 7), .int (M 28 8), .int (M 28 9), .int (M 28 10), .int (M 28 11), .int (M 28 12)], fun _ _ _ _ => ⟨rfl, rfl⟩⟩
  · exact ⟨fun ad M => [.int (M 35 0), .ref (ad 36), .ref (ad 37), .ref (ad 38), .ref (ad 39), .ref (ad 40), .ref (ad 41), .int (M 35 7), .int (M 35 8), .int (M 35 9), .int (M 35 10), .int (M 35 11), .int (M 35 12)], fun _ _ _ _ => ⟨rfl, rfl⟩⟩
theorem zRY_5 {b : Nat} (h : isY b) : zFr 5 b 5 (b + 5) := by
  rcases h with rfl | rfl | rfl | rfl
  · exact ⟨fun ad M => [.int (M 14 0), .ref (ad 15), .ref (ad 16), .ref (ad 17), .ref (ad 18), .ref (ad 19), .ref (ad 20), .int (M 14 7), .int (M 14 8), .int (M 14 9), .int (M 14 10), .int (M 14 11), .int (M 14 12)], fun _ _ _ _ => ⟨rfl, rfl⟩⟩
  · exact ⟨fun ad M => [.int (M 21 0), .ref (ad 22), .ref (ad 23), .ref (ad 24), .ref (ad 25), .ref (ad 26), .ref (ad 27), .int (M 21 7), .int (M 21 8), .int (M 21 9), .int (M 21 10), .int (M 21 11), .int (M 21 12)], fun _ _ _ _ => ⟨rfl, rfl⟩⟩
  · exact ⟨fun ad M => [.int (M 28 0), .ref (ad 29), .ref (ad 30), .ref (ad 31), .ref (ad 32), .ref (ad 33), .ref (ad 34), .int (M 28 7), .int (M 28 8), .int (M 28 9), .int (M 28 10), .int (M 28 11), .int (M 28 12)], fun _ _ _ _ => ⟨rfl, rfl⟩⟩
  · exact ⟨fun ad M => [.int (M 35 0), .ref (ad 36), .ref (ad 37), .ref (ad 38), .ref (ad 39), .ref (ad 40), .ref (ad 41), .int (M 35 7), .int (M 35 8), .int (M 35 9), .int (M 35 10), .int (M 35 11), .int (M 35 12)], fun _ _ _ _ => ⟨rfl, rfl⟩⟩
theorem zRY_6 {b : Nat} (h : isY b) : zFr 5 b 6 (b + 6) := by
  rcases h with rfl | rfl | rfl | rfl
  · exact ⟨fun ad M => [.int (M 14 0), .ref (ad 15), .ref (ad 16), .ref (ad 17), .ref (ad 18), .ref (ad 19), .ref (ad 20), .int (M 14 7), .int (M 14 8), .int (M 14 9), .int (M 14 10), .int (M 14 11), .int (M 14 12)], fun _ _ _ _ => ⟨rfl, rfl⟩⟩
  · exact ⟨fun ad M => [.int (M 21 0), .ref (ad 22), .ref (ad 23), .ref (ad 24), .ref (ad 25), .ref (ad 26), .ref (ad 27), .int (M 21 7), .int (M 21 8), .int (M 21 9), .int (M 21 10), .int (M 21 11), .int (M 21 12)], fun _ _ _ _ => ⟨rfl, rfl⟩⟩
  · exact ⟨fun ad M => [.int (M 28 0), .ref (ad 29), .ref (ad 30), .ref (ad 31), .ref (ad 32), .ref (ad 33), .ref (ad 34), .int (M 28 7), .int (M 28 8), .int (M 28 9), .int (M 28 10), .int (M 28 11), .int (M 28 12)], fun _ _ _ _ => ⟨rfl, rfl⟩⟩
  · exact ⟨fun ad M => [.int (M 35 0), .ref (ad 36), .ref (ad 37), .ref (ad 38), .ref (ad 39), .ref (ad 40), .ref (ad 41), .int (M 35 7), .int (M 35 8), .int (M 35 9), .int (M 35 10), .int (M 35 11), .int (M 35 12)], fun _ _ _ _ => ⟨rfl, rfl⟩⟩
theorem zFY_7 {b : Nat} (h : isY b) : zFi 5 b 7 := by
  rcases h with rfl | rfl | rfl | rfl
  · exact ⟨fun ad M => [.int (M 14 0), .ref (ad 15), .ref (ad 16), .ref (ad 17), .ref (ad 18), .ref (ad 19), .ref (ad 20), .int (M 14 7), .int (M 14 8), .int (M 14 9), .int (M 14 10), .int (M 14 11), .int (M 14 12)], fun _ _ _ _ => ⟨rfl, rfl, fun _ => rfl⟩⟩
  · exact ⟨fun ad M => [.int (M 21 0), .ref (ad 22), .ref (ad 23), .ref (ad 24), .ref (ad 25), .ref (ad 26), .ref (ad 27), .int (M 21 7), .int (M 21 8), .int (M 21 9), .int (M 21 10), .int (M 21 11), .int (M 21 12)], fun _ _ _ _ => ⟨rfl, rfl, fun _ => rfl⟩⟩
  · exact ⟨fun ad M => [.int (M 28 0), .ref (ad 29), .ref (ad 30), .ref (ad 31), .ref (ad 32), .ref (ad 33), .ref (ad 34), .int (M 28 7), .int (M 28 8), .int (M 28 9), .int (M 28 10), .int (M 28 11), .int (M 28 12)], fun _ _ _ _ => ⟨rfl, rfl, fun _ => rfl⟩⟩
  · exact ⟨fun ad M => [.int (M 35 0), .ref (ad 36), .ref (ad 37), .ref (ad 38), .ref (ad 39), .ref (ad 40), .ref (ad 41), .int (M 35 7), .int (M 35 8), .int (M 35 9), .int (M 35 10), .int (M 35 11), .int (M 35 12)], fun _ _ _ _ => ⟨rfl, rfl, fun _ => rfl⟩⟩
theorem zFY_8 {b : Nat} (h : isY b) : zFi 5 b 8 := by
  rcases h with rfl | rfl | rfl | rfl
  · exact ⟨fun ad M => [.int (M 14 0), .ref (ad 15), .ref (ad 16), .ref (ad 17), .ref (ad 18), .ref (ad 19), .ref (ad 20), .int (M 14 7), .int (M 14 8), .int (M 14 9), .int (M 14 10), .int (M 14 11), .int (M 14 12)], fun _ _ _ _ => ⟨rfl, rfl, fun _ => rfl⟩⟩
  · exact ⟨fun ad M => [.int (M 21 0), .ref (ad 22), .ref (ad 23), .ref (ad 24), .ref (ad 25), .ref (ad 26), .ref (ad 27), .int (M 21 7), .int (M 21 8), .int (M 21 9), .int (M 21 10), .int (M 21 11), .int (M 21 12)], fun _ _ _ _ => ⟨rfl, rfl, fun _ => rfl⟩⟩
  · exact ⟨fun ad M => [.int (M 28 0), .ref (ad 29), .ref (ad 30), .ref (ad 31), .ref (ad 32), .ref (ad 33), .ref (ad 34), .int (M 28 7), .int (M 28 8), .int (M 28 9), .int (M 28 10), .int (M 28 11), .int (M 28 12)], fun _ _ _ _ => ⟨rfl, rfl, fun _ => rfl⟩⟩
  · exact ⟨fun ad M => [.int (M 35 0), .ref (ad 36), .ref (ad 37), .ref (ad 38), .ref (ad 39), .ref (ad 40), .ref (ad 41), .int (M 35 7), .int (M 35 8), .int (M 35 9), .int (M 35 10), .int (M 35 11), .int (M 35 12)], fun _ _ _ _ => ⟨rfl, rfl, fun _ => rfl⟩⟩
theorem zFY_9 {b : Nat} (h : isY b) : zFi 5 b 9 := by
  rcases h with rfl | rfl | rfl | rfl
  · exact ⟨fun ad M => [.int (M 14 0), .ref (ad 15), .ref (ad 16), .ref (ad 17), .ref (ad 18), .ref (ad 19), .ref (ad 20), .int (M 14 7), .int (M 14 8), .int (M 14 9), .int (M 14 10), .int (M 14 11), .int (M 14 12)], fun _ _ _ _ => ⟨rfl, rfl, fun _ => rfl⟩⟩
  · exact ⟨fun ad M => [.int (M 21 0), .ref (ad 22), .ref (ad 23), .ref (ad 24), .ref (ad 25), .ref (ad 26), .ref (ad 27), .int (M 21 7), .int (M 21 8), .int (M 21 9), .int (M 21 10), .int (M 21 11), .int (M 21 12)], fun _ _ _ _ => ⟨rfl, rfl, fun _ => rfl⟩⟩
  · exact ⟨fun ad M => [.int (M 28 0), .ref (ad 29), .ref (ad 30), .ref (ad 31), .ref (ad 32), .ref (ad 33), .ref (ad 34), .int (M 28 7), .int (M 28 8), .int (M 28 9), .int (M 28 10), .int (M 28 11), .int (M 28 12)], fun _ _ _ _ => ⟨rfl, rfl, fun _ => rfl⟩⟩
  · exact ⟨fun ad M => [.int (M 35 0), .ref (ad 36), .ref (ad 37), .ref (ad 38), .ref (ad 39), .ref (ad 40), .ref (ad 41), .int (M 35 7), .int (M 35 8), .int (M 35 9), .int (M 35 10), .int (M 35 11), .int (M 35 12)], fun _ _ _ _ => ⟨rfl, rfl, fun _ => rfl⟩⟩
theorem zFY_10 {b : Nat} (h : isY b) : zFi 5 b 10 := by
  rcases h with rfl | rfl | rfl | rfl
  · exact ⟨fun ad M => [.int (M 14 0), .ref (ad 15), .ref (ad 16), .ref (ad 17), .ref (ad 18), .ref (ad 19), .ref (ad 20), .int (M 14 7), .int (M 14 8), .int (M 14 9), .int (M 14 10), .int (M 14 11), .int (M 14 12)], fun _ _ _ _ => ⟨rfl, rfl, fun _ => rfl⟩⟩
  · exact ⟨fun ad M => [.int (M 21 0), .ref (ad 22), .ref (ad 23), .ref (ad 24), .ref (ad 25), .ref (ad 26), .ref (ad 27), .int (M 21 7), .int (M 21 8), .int (M 21 9), .int (M 21 10), .int (M 21 11), .int (M 21 12)], fun _ _ _ _ => ⟨rfl, rfl, fun _ => rfl⟩⟩
  · exact ⟨fun ad M => [.int (M 28 0), .ref (ad 29), .ref (ad 30), .ref (ad 31), .ref (ad 32), .ref (ad 33), .ref (ad 34), .int (M 28 7), .int (M 28 8), .int (M 28 9), .int (M 28 10), .int (M 28 11), .int (M 28 12)], fun _ _ _ _ => ⟨rfl, rfl, fun _ => rfl⟩⟩
  · exact ⟨fun ad M => [.int (M 35 0), .ref (ad 36), .ref (ad 37), .ref (ad 38), .ref (ad 39), .ref (ad 40), .ref (ad 41), .int (M 35 7), .int (M 35 8), .int (M 35 9), .int (M 35 10), .int (M 35 11), .int (M 35 12)], fun _ _ _ _ => ⟨rfl, rfl, fun _ => rfl⟩⟩
theorem zFY_11 {b : Nat} (h : isY b) : zFi 5 b 11 := by
  rcases h with rfl | rfl | rfl | rfl
  · exact ⟨fun ad M => [.int (M 14 0), .ref (ad 15), .ref (ad 16), .ref (ad 17), .ref (ad 18), .ref (ad 19), .ref (ad 20), .int (M 14 7), .int (M 14 8), .int (M 14 9), .int (M 14 10), .int (M 14 11), .int (M 14 12)], fun _ _ _ _ => ⟨rfl, rfl, fun _ => rfl⟩⟩
  · exact ⟨fun ad M => [.int (M 21 0), .ref (ad 22), .ref (ad 23), .ref (ad 24), .ref (ad 25), .ref (ad 26), .ref (ad 27), .int (M 21 7), .int (M 21 8), .int (M 21 9), .int (M 21 10), .int (M 21 11), .int (M 21 12)], fun _ _ _ _ => ⟨rfl, rfl, fun _ => rfl⟩⟩
  · exact ⟨fun ad M => [.int (M 28 0), .ref (ad 29), .ref (ad 30), .ref (ad 31), .ref (ad 32), .ref (ad 33), .ref (ad 34), .int (M 28 7), .int (M 28 8), .int (M 28 9), .int (M 28 10), .int (M 28 11), .int (M 28 12)], fun _ _ _ _ => ⟨rfl, rfl, fun _ => rfl⟩⟩
  · exact ⟨fun ad M => [.int (M 35 0), .ref (ad 36), .ref (ad 37), .ref (ad 38), .ref (ad 39), .ref (ad 40), .ref (ad 41), .int (M 35 7), .int (M 35 8), .int (M 35 9), .int (M 35 10), .int (M 35 11), .int (M 35 12)], fun _ _ _ _ => ⟨rfl, rfl, fun _ => rfl⟩⟩
theorem zFY_12 {b : Nat} (h : isY b) : zFi 5 b 12 := by
  rcases h with rfl | rfl | rfl | rfl
  · exact ⟨fun ad M => [.int (M 14 0), .ref (ad 15), .ref (ad 16), .ref (ad 17), .ref (ad 18), .ref (ad 19), .ref (ad 20), .int (M 14 7), .int (M 14 8), .int (M 14 9), .int (M 14 10), .int (M 14 11), .int (M 14 12)], fun _ _ _ _ => ⟨rfl, rfl, fun _ => rfl⟩⟩
  · exact ⟨fun ad M => [.int (M 21 0), .ref (ad 22), .ref (ad 23), .ref (ad 24), .ref (ad 25), .ref (ad 26), .ref (ad 27), .int (M 21 7), .int (M 21 8), .int (M 21 9), .int (M 21 10), .int (M 21 11), .int (M 21 12)], fun _ _ _ _ => ⟨rfl, rfl, fun _ => rfl⟩⟩
  · exact ⟨fun ad M => [.int (M 28 0), .ref (ad 29), .ref (ad 30), .ref (ad 31), .ref (ad 32), .ref (ad 33), .ref (ad 34), .int (M 28 7), .int (M 28 8), .int (M 28 9), .int (M 28 10), .int (M 28 11), .int (M 28 12)], fun _ _ _ _ => ⟨rfl, rfl, fun _ => rfl⟩⟩
  · exact ⟨fun ad M => [.int (M 35 0), .ref (ad 36), .ref (ad 37), .ref (ad 38), .ref (ad 39), .ref (ad 40), .ref (ad 41), .int (M 35 7), .int (M 35 8), .int (M 35 9), .int (M 35 10), .int (M 35 11), .int (M 35 12)], fun _ _ _ _ => ⟨rfl, rfl, fun _ => rfl⟩⟩
end
section
/-! rows over the one world -/
/-- a class of the worlds -/
def zCl (ci : Nat) (C : String) (T : u_T) (N : Nat) : Prop := vwCl[ci]? = some (C, T, N) ∧ (∀ w ∈ u_ws C T N, w ∈ zG) ∧ ∃ ty : Nat → FieldType, (∀ k, k < N → parseFieldDescriptor (T k).2.2.1 = some (ty k)) ∧ ∀ a, a < N → ∀ b, b < N → a ≠ b → (T a).2.1 ≠ (T b).2.1
theorem zC0 : zCl 0 RX0 TX0 3 := ⟨rfl, zu_X0, tyX0, tyX0_ok, nmX0⟩
theorem zC1 : zCl 1 RX2 TX2 5 := ⟨rfl, zu_X2, tyX2, tyX2_ok, nmX2⟩
theorem zC2 : zCl 2 RX4 TX4 1 := ⟨rfl, zu_X4, tyX4, tyX4_ok, nmX4⟩
theorem zC3 : zCl 3 RX5 TX5 5 := ⟨rfl, zu_X5, tyX5, tyX5_ok, nmX5⟩
theorem zC4 : zCl 4 RX6 TX6 1 := ⟨rfl, zu_X6, tyX6, tyX6_ok, nmX6⟩
theorem zC5 : zCl 5 RX7 TX7 13 := ⟨rfl, zu_X7, tyX7, tyX7_ok, nmX7⟩
theorem zC6 : zCl 6 RX8 TX8 8 := ⟨rfl, zu_X8, tyX8, tyX8_ok, nmX8⟩
theorem zC7 : zCl 7 RX9 TX9 35 := ⟨rfl, zu_X9, tyX9, tyX9_ok, nmX9⟩
/-- what is free to a method: the system's cells, and what is new -/
def zA (ad : Nat → Nat) (sz : Nat) : Nat → Prop := fun q => (∃ k, k < 67 ∧ q = ad k) ∨ sz ≤ q
def zNs (ws : List Cond) (U : State) : Prop := ∀ w ∈ ws, va_Nw w U
/-- where a walk stands: the machine, the tables' words, the classes, the addresses -/
def zCx (p : Program) (R : Room) (s : State) (m : MethodId) (args : Array Value) (c : Code) (cells slots : Nat) (cc : ByteArray) (nL : Nat) (own : String) (D : va_G) (cy : Nat → ClassId) (ad : Nat → Nat) (A : Nat → Prop) : Prop :=
  CallFix p m c cc nL s args zG own ∧ va_K D vwCl (zT cy) s ∧ zNs zN s ∧ zInj ad ∧ (∀ q, s.heap.size ≤ q → A q) ∧ (∀ k, k < 67 → A (ad k)) ∧ cells ≤ R.cells ∧ slots ≤ R.slots
def zWd (D : va_G) (cy : Nat → ClassId) (ad : Nat → Nat) (A : Nat → Prop) (s : State) (H : Heap) (locs : List Loc) (M : Mm) (L : Ml) : Prop := va_P D vwCl (zW cy ad M L) H ∧ va_S A s.heap H locs
def zPre (D : va_G) (cy : Nat → ClassId) (ad : Nat → Nat) (sz : Nat) (M : Mm) (L : Ml) (h : Prop) (U : State) : Prop := U.heap.size = sz ∧ va_K D vwCl (zT cy) U ∧ zNs zN U ∧ va_P D vwCl (zW cy ad M L) U.heap ∧ h
def zAt (D : va_G) (cy : Nat → ClassId) (ad : Nat → Nat) (u : Mm × Ml) (t : State) : Prop := va_P D vwCl (zW cy ad u.1 u.2) t.heap
/-- the contract of a method over the one world: an int, a long, nothing -/
def zMi (l : Launch) (y : MethodName) (ws : List Cond) (rm : Room) (D : va_G) (cy : Nat → ClassId) (ad : Nat → Nat) (As : List Value) (wp : Mm → Ml → (Int32 → Mm → Ml → Prop) → Prop) : Prop := ∀ (sz : Nat) (M : Mm) (L : Ml) (post : Int32 → Mm → Ml → Prop), Met l y ws rm (va_Pc As (zPre D cy ad sz M L (wp M L post))) (va_Qi (fun (r : Int32) (u : Mm × Ml) => post r u.1 u.2) (zAt D cy ad) (zA ad sz)) 0 0 (zA ad sz)
def zMl (l : Launch) (y : MethodName) (ws : List Cond) (rm : Room) (D : va_G) (cy : Nat → ClassId) (ad : Nat → Nat) (As : List Value) (wp : Mm → Ml → (Int64 → Mm → Ml → Prop) → Prop) : Prop := ∀ (sz : Nat) (M : Mm) (L : Ml) (post : Int64 → Mm → Ml → Prop), Met l y ws rm (va_Pc As (zPre D cy ad sz M L (wp M L post))) (va_Ql (fun (r : Int64) (u : Mm × Ml) => post r u.1 u.2) (zAt D cy ad) (zA ad sz)) 0 0 (zA ad sz)
def zMv (l : Launch) (y : MethodName) (ws : List Cond) (rm : Room) (D : va_G) (cy : Nat → ClassId) (ad : Nat → Nat) (As : List Value) (wp : Mm → Ml → (Mm → Ml → Prop) → Prop) : Prop := ∀ (sz : Nat) (M : Mm) (L : Ml) (post : Mm → Ml → Prop), Met l y ws rm (va_Pc As (zPre D cy ad sz M L (wp M L post))) (va_Qv (fun (u : Mm × Ml) => post u.1 u.2) (zAt D cy ad) (zA ad sz)) 0 0 (zA ad sz)
/-- loops: what holds if the loop ends in n rounds at the most -/
def zlp {α : Type} (F : (α → Prop) → α → Prop) : Nat → α → Prop
  | 0 => fun _ => False
  | n + 1 => F (zlp F n)
theorem zlp_ok {α : Type} {F : (α → Prop) → α → Prop} (I : α → Prop) (μ : α → Nat) (h : ∀ (K : α → Prop) (s : α), I s → (∀ s', I s' → μ s' < μ s → K s') → F K s) {s : α} (hs : I s) : ∃ n, zlp F n s := by
  have key : ∀ (n : Nat) (s : α), I s → μ s < n → zlp F n s := by
    intro n
    induction n with
    | zero => intro s _ h2; exact absurd h2 (Nat.not_lt_zero _)
    | succ n ih => intro s h1 h2; exact h _ s h1 (fun s' h3 h4 => ih s' h3 (by omega))
  exact ⟨μ s + 1, key _ _ hs (Nat.lt_succ_self _)⟩
section ZR
variable {p : Program} {l : Launch} {e : Env} {R : Room} {s : State} {m : MethodId} {args : Array Value} {below : List Frame} {meth : Method} {c : Code} {cells slots : Nat} {Q : State → Prop} {cc : ByteArray} {nL : Nat} {own : String} {D : va_G} {cy : Nat → ClassId} {ad : Nat → Nat} {A : Nat → Prop}
variable {H : Heap} {locs : List Loc} {M : Mm} {L : Ml} {pc : Nat} {ls : Array Slot} {rest : List Value}
theorem zNs_moved {U : State} (hW : s.WarmedH U.vm) (h : zNs zN s) : zNs zN U := by
  intro w hw
  have h1 := h w hw
  rcases zN_nest w hw with ⟨a, i, b, n, d, g, rfl⟩ | ⟨a, i, x, g, rfl⟩
  · exact va_Nw.warmF hW h1
  · exact va_Nw.warmM hW h1
theorem z_getI {ci k j N index : Nat} {Cn ref : String} {T : u_T} (X : zCx p R s m args c cells slots cc nL own D cy ad A) (hW : zWd D cy ad A s H locs M L) (hC : zCl ci Cn T N) (hF : zFi ci k j) (hj : j < N) (hr : (T j).1 = ref) (hl : Cond.fieldLink own index ref (T j).2.1 (T j).2.2.1 ∈ zG) (hdg : decode cc pc = .ok (.getfield index, 3))
    (kk : W p l e R s m args below meth c H locs cells slots Q (F0 m (pc + 3) ls (.int (M k j) :: rest))) : W p l e R s m args below meth c H locs cells slots Q (F0 m pc ls (.ref (ad k) :: rest)) := by
  obtain ⟨fs, h1⟩ := hF
  obtain ⟨h2, h3, -⟩ := h1 cy ad M L
  exact va_get X.1.1 X.1.2.1 X.1.2.2.2.2 hC.2.1 X.1.2.2.2.1 X.2.1 hW.1 k h2 hC.1 j hj (X.1.2.2.2.2 _ hl) (fun x h => by rw [← hr]; exact h) h3 hdg kk
theorem z_getR {ci k j k2 N index : Nat} {Cn ref : String} {T : u_T} (X : zCx p R s m args c cells slots cc nL own D cy ad A) (hW : zWd D cy ad A s H locs M L) (hC : zCl ci Cn T N) (hF : zFr ci k j k2) (hj : j < N) (hr : (T j).1 = ref) (hl : Cond.fieldLink own index ref (T j).2.1 (T j).2.2.1 ∈ zG) (hdg : decode cc pc = .ok (.getfield index, 3))
    (kk : W p l e R s m args below meth c H locs cells slots Q (F0 m (pc + 3) ls (.ref (ad k2) :: rest))) : W p l e R s m args below meth c H locs cells slots Q (F0 m pc ls (.ref (ad k) :: rest)) := by
  obtain ⟨fs, h1⟩ := hF
  obtain ⟨h2, h3⟩ := h1 cy ad M L
  exact va_get X.1.1 X.1.2.1 X.1.2.2.2.2 hC.2.1 X.1.2.2.2.1 X.2.1 hW.1 k h2 hC.1 j hj (X.1.2.2.2.2 _ hl) (fun x h => by rw [← hr]; exact h) h3 hdg kk
theorem z_getIN {ci k j N index : Nat} {Cn ref host : String} {T : u_T} (X : zCx p R s m args c cells slots cc nL own D cy ad A) (hW : zWd D cy ad A s H locs M L) (hC : zCl ci Cn T N) (hF : zFi ci k j) (hj : j < N) (hr : (T j).1 = ref) (hl : Cond.fieldLinkNest own index ref (T j).2.1 (T j).2.2.1 host ∈ zN) (hdg : decode cc pc = .ok (.getfield index, 3))
    (kk : W p l e R s m args below meth c H locs cells slots Q (F0 m (pc + 3) ls (.int (M k j) :: rest))) : W p l e R s m args below meth c H locs cells slots Q (F0 m pc ls (.ref (ad k) :: rest)) := by
  obtain ⟨fs, h1⟩ := hF
  obtain ⟨h2, h3, -⟩ := h1 cy ad M L
  exact va_getN X.1.1 X.1.2.1 X.1.2.2.2.2 hC.2.1 X.1.2.2.2.1 X.2.1 hW.1 k h2 hC.1 j hj (va_Nw.use rfl (X.2.2.1 _ hl)) (fun x h => by rw [← hr]; exact h) h3 hdg kk
theorem z_getRN {ci k j k2 N index : Nat} {Cn ref host : String} {T : u_T} (X : zCx p R s m args c cells slots cc nL own D cy ad A) (hW : zWd D cy ad A s H locs M L) (hC : zCl ci Cn T N) (hF : zFr ci k j k2) (hj : j < N) (hr : (T j).1 = ref) (hl : Cond.fieldLinkNest own index ref (T j).2.1 (T j).2.2.1 host ∈ zN) (hdg : decode cc pc = .ok (.getfield index, 3))
    (kk : W p l e R s m args below meth c H locs cells slots Q (F0 m (pc + 3) ls (.ref (ad k2) :: rest))) : W p l e R s m args below meth c H locs cells slots Q (F0 m pc ls (.ref (ad k) :: rest)) := by
  obtain ⟨fs, h1⟩ := hF
  obtain ⟨h2, h3⟩ := h1 cy ad M L
  exact va_getN X.1.1 X.1.2.1 X.1.2.2.2.2 hC.2.1 X.1.2.2.2.1 X.2.1 hW.1 k h2 hC.1 j hj (va_Nw.use rfl (X.2.2.1 _ hl)) (fun x h => by rw [← hr]; exact h) h3 hdg kk
theorem z_put {ci k j N index : Nat} {Cn ref : String} {T : u_T} {v : Int32} {ty : FieldType} (X : zCx p R s m args c cells slots cc nL own D cy ad A) (hW : zWd D cy ad A s H locs M L) (hC : zCl ci Cn T N) (hF : zFi ci k j) (hj : j < N) (hr : (T j).1 = ref) (hl : Cond.fieldLink own index ref (T j).2.1 (T j).2.2.1 ∈ zG) (hfin : (T j).2.2.2 = false) (hd : parseFieldDescriptor (T j).2.2.1 = some ty) (hn : narrow ty (.int v) = .int v) (hfit : fits ty (.int v) = true) (hdg : decode cc pc = .ok (.putfield index, 3))
    (kk : ∀ (M1 : Mm) (H1 : Heap) (locs1 : List Loc), M1 = zs M k j v → zWd D cy ad A s H1 locs1 M1 L → W p l e R s m args below meth c H1 locs1 cells slots Q (F0 m (pc + 3) ls rest)) : W p l e R s m args below meth c H locs cells slots Q (F0 m pc ls (.int v :: .ref (ad k) :: rest)) := by
  obtain ⟨fs, h1⟩ := hF
  obtain ⟨h2, h3, h4⟩ := h1 cy ad M L
  obtain ⟨hC1, hC2, ty0, hC3, hC4⟩ := hC
  refine va_put X.1.1 X.1.2.1 X.1.2.2.2.2 hC2 ty0 hC3 hC4 X.1.2.2.2.1 X.2.1 hW.1 (zD X.2.2.2.1 X.2.2.2.2.2.1 M L) hW.2 k h2 hC1 j hj (X.1.2.2.2.2 _ hl) (fun x h => by rw [← hr]; exact h) hfin hd hn hfit (List.getElem?_eq_some_iff.mp h3).1 hdg (fun H1 locs1 g1 g2 g3 => kk _ H1 locs1 rfl ⟨?_, g3⟩)
  rw [h4] at g1
  exact g1
theorem z_putN {ci k j N index : Nat} {Cn ref host : String} {T : u_T} {v : Int32} {ty : FieldType} (X : zCx p R s m args c cells slots cc nL own D cy ad A) (hW : zWd D cy ad A s H locs M L) (hC : zCl ci Cn T N) (hF : zFi ci k j) (hj : j < N) (hr : (T j).1 = ref) (hl : Cond.fieldLinkNest own index ref (T j).2.1 (T j).2.2.1 host ∈ zN) (hfin : (T j).2.2.2 = false) (hd : parseFieldDescriptor (T j).2.2.1 = some ty) (hn : narrow ty (.int v) = .int v) (hfit : fits ty (.int v) = true) (hdg : decode cc pc = .ok (.putfield index, 3))
    (kk : ∀ (M1 : Mm) (H1 : Heap) (locs1 : List Loc), M1 = zs M k j v → zWd D cy ad A s H1 locs1 M1 L → W p l e R s m args below meth c H1 locs1 cells slots Q (F0 m (pc + 3) ls rest)) : W p l e R s m args below meth c H locs cells slots Q (F0 m pc ls (.int v :: .ref (ad k) :: rest)) := by
  obtain ⟨fs, h1⟩ := hF
  obtain ⟨h2, h3, h4⟩ := h1 cy ad M L
  obtain ⟨hC1, hC2, ty0, hC3, hC4⟩ := hC
  refine va_putN X.1.1 X.1.2.1 X.1.2.2.2.2 hC2 ty0 hC3 hC4 X.1.2.2.2.1 X.2.1 hW.1 (zD X.2.2.2.1 X.2.2.2.2.2.1 M L) hW.2 k h2 hC1 j hj (va_Nw.use rfl (X.2.2.1 _ hl)) (fun x h => by rw [← hr]; exact h) hfin hd hn hfit (List.getElem?_eq_some_iff.mp h3).1 hdg (fun H1 locs1 g1 g2 g3 => kk _ H1 locs1 rfl ⟨?_, g3⟩)
  rw [h4] at g1
  exact g1
theorem z_iald {k n : Nat} {i : Int32} (X : zCx p R s m args c cells slots cc nL own D cy ad A) (hW : zWd D cy ad A s H locs M L) (hR : zRow k n) (hin : vp_in i n) (hdg : decode cc pc = .ok (.iaload, 1))
    (kk : W p l e R s m args below meth c H locs cells slots Q (F0 m (pc + 1) ls (.int (M k i.toNatClampNeg) :: rest))) : W p l e R s m args below meth c H locs cells slots Q (F0 m pc ls (.int i :: .ref (ad k) :: rest)) := by
  obtain ⟨⟨t0, h1⟩, h2⟩ := hR
  exact va_iald X.1.1 X.1.2.1 X.2.1 hW.1 k t0 (h2 cy ad M L).1 (h1 cy) hin hdg kk
theorem z_zald {k n : Nat} {i : Int32} (X : zCx p R s m args c cells slots cc nL own D cy ad A) (hW : zWd D cy ad A s H locs M L) (hR : zRowZ k n) (hin : vp_in i n) (hdg : decode cc pc = .ok (.baload, 1))
    (kk : W p l e R s m args below meth c H locs cells slots Q (F0 m (pc + 1) ls (.int (M k i.toNatClampNeg) :: rest))) : W p l e R s m args below meth c H locs cells slots Q (F0 m pc ls (.int i :: .ref (ad k) :: rest)) := by
  obtain ⟨⟨t0, h1⟩, h2⟩ := hR
  exact va_zald X.1.1 X.1.2.1 X.2.1 hW.1 k t0 (h2 cy ad M L).1 (h1 cy) hin hdg kk
theorem z_lald {k n : Nat} {i : Int32} (X : zCx p R s m args c cells slots cc nL own D cy ad A) (hW : zWd D cy ad A s H locs M L) (hR : zRowJ k n) (hin : vp_in i n) (hdg : decode cc pc = .ok (.laload, 1))
    (kk : W p l e R s m args below meth c H locs cells slots Q (F0 m (pc + 1) ls (.long (L k i.toNatClampNeg) :: rest))) : W p l e R s m args below meth c H locs cells slots Q (F0 m pc ls (.int i :: .ref (ad k) :: rest)) := by
  obtain ⟨⟨t0, h1⟩, h2⟩ := hR
  exact va_lald X.1.1 X.1.2.1 X.2.1 hW.1 k t0 (h2 cy ad M L).1 (h1 cy) hin hdg kk
theorem z_iast {k n : Nat} {i x : Int32} (X : zCx p R s m args c cells slots cc nL own D cy ad A) (hW : zWd D cy ad A s H locs M L) (hR : zRow k n) (hin : vp_in i n) (hdg : decode cc pc = .ok (.iastore, 1))
    (kk : ∀ (M1 : Mm) (H1 : Heap) (locs1 : List Loc), M1 = zs M k i.toNatClampNeg x → zWd D cy ad A s H1 locs1 M1 L → W p l e R s m args below meth c H1 locs1 cells slots Q (F0 m (pc + 1) ls rest)) : W p l e R s m args below meth c H locs cells slots Q (F0 m pc ls (.int x :: .int i :: .ref (ad k) :: rest)) := by
  obtain ⟨⟨t0, h1⟩, h2⟩ := hR
  obtain ⟨h3, h4⟩ := h2 cy ad M L
  refine va_iast X.1.1 X.1.2.1 X.2.1 hW.1 (zD X.2.2.2.1 X.2.2.2.2.2.1 M L) hW.2 k t0 h3 (h1 cy) hin hdg (fun H1 locs1 g1 g2 g3 => kk _ H1 locs1 rfl ⟨?_, g3⟩)
  rw [h4] at g1
  exact g1
theorem z_zast {k n : Nat} {i x : Int32} (X : zCx p R s m args c cells slots cc nL own D cy ad A) (hW : zWd D cy ad A s H locs M L) (hR : zRowZ k n) (hin : vp_in i n) (hdg : decode cc pc = .ok (.bastore, 1))
    (kk : ∀ (M1 : Mm) (H1 : Heap) (locs1 : List Loc), M1 = zs M k i.toNatClampNeg (vp_nar .boolean x) → zWd D cy ad A s H1 locs1 M1 L → W p l e R s m args below meth c H1 locs1 cells slots Q (F0 m (pc + 1) ls rest)) : W p l e R s m args below meth c H locs cells slots Q (F0 m pc ls (.int x :: .int i :: .ref (ad k) :: rest)) := by
  obtain ⟨⟨t0, h1⟩, h2⟩ := hR
  obtain ⟨h3, h4⟩ := h2 cy ad M L
  refine va_zast X.1.1 X.1.2.1 X.2.1 hW.1 (zD X.2.2.2.1 X.2.2.2.2.2.1 M L) hW.2 k t0 h3 (h1 cy) hin hdg (fun H1 locs1 g1 g2 g3 => kk _ H1 locs1 rfl ⟨?_, g3⟩)
  rw [h4] at g1
  exact g1
theorem z_last {k n : Nat} {i : Int32} {x : Int64} (X : zCx p R s m args c cells slots cc nL own D cy ad A) (hW : zWd D cy ad A s H locs M L) (hR : zRowJ k n) (hin : vp_in i n) (hdg : decode cc pc = .ok (.lastore, 1))
    (kk : ∀ (L1 : Ml) (H1 : Heap) (locs1 : List Loc), L1 = zsl L k i.toNatClampNeg x → zWd D cy ad A s H1 locs1 M L1 → W p l e R s m args below meth c H1 locs1 cells slots Q (F0 m (pc + 1) ls rest)) : W p l e R s m args below meth c H locs cells slots Q (F0 m pc ls (.long x :: .int i :: .ref (ad k) :: rest)) := by
  obtain ⟨⟨t0, h1⟩, h2⟩ := hR
  obtain ⟨h3, h4⟩ := h2 cy ad M L
  refine va_last X.1.1 X.1.2.1 X.2.1 hW.1 (zD X.2.2.2.1 X.2.2.2.2.2.1 M L) hW.2 k t0 h3 (h1 cy) hin hdg (fun H1 locs1 g1 g2 g3 => kk _ H1 locs1 rfl ⟨?_, g3⟩)
  rw [h4] at g1
  exact g1
theorem z_alen {k n : Nat} (X : zCx p R s m args c cells slots cc nL own D cy ad A) (hW : zWd D cy ad A s H locs M L) (hR : zRow k n) (hdg : decode cc pc = .ok (.arraylength, 1))
    (kk : W p l e R s m args below meth c H locs cells slots Q (F0 m (pc + 1) ls (.int (Int32.ofNat n) :: rest))) : W p l e R s m args below meth c H locs cells slots Q (F0 m pc ls (.ref (ad k) :: rest)) := by
  obtain ⟨⟨t0, h1⟩, h2⟩ := hR
  exact va_alen X.1.1 X.1.2.1 X.2.1 hW.1 k t0 (h2 cy ad M L).1 (h1 cy) rfl hdg kk
theorem z_aald {i : Int32} (X : zCx p R s m args c cells slots cc nL own D cy ad A) (hW : zWd D cy ad A s H locs M L) (hin : vp_in i 2) (hdg : decode cc pc = .ok (.aaload, 1))
    (kk : W p l e R s m args below meth c H locs cells slots Q (F0 m (pc + 1) ls (.ref (ad (zY i.toNatClampNeg)) :: rest))) : W p l e R s m args below meth c H locs cells slots Q (F0 m pc ls (.int i :: .ref (ad 1) :: rest)) :=
  va_aldq X.1.1 X.1.2.1 X.2.1 hW.1 1 0 (f := fun j => some (ad (zY j))) rfl rfl hin hdg kk
/-- System.arraycopy of whole rows -/
theorem z_copy {k k1 n index : Nat} (X : zCx p R s m args c cells slots cc nL own D cy ad A) (hW : zWd D cy ad A s H locs M L) (hR : zRow k n) (hR1 : zRow k1 n) (hn : n < 2 ^ 31) {v : Int32} (hv : v = Int32.ofNat n) (hlink : Cond.methodLink own index arraycopyName ∈ zG) (hnat : Cond.native arraycopyName ∈ zG) (hstat : Cond.static arraycopyName ∈ zG) (hini : Cond.initialized "java/lang/System" ∈ zG) (hls : ls.size = nL) (hframes : 1 ≤ R.frames) (hlocals : (rest.map fun v => v.category).sum + (nativeFrameWords "java/lang/System" "arraycopy" 5 + 11) ≤ R.locals) (hdg : decode cc pc = .ok (.invokestatic index, 3))
    (kk : ∀ (M1 : Mm) (H1 : Heap) (locs1 : List Loc), M1 = zr M k1 (va_cpy (M k) (M k1) 0 0 n) → zWd D cy ad A s H1 locs1 M1 L → W p l e R s m args below meth c H1 locs1 cells slots Q (F0 m (pc + 3) ls rest)) : W p l e R s m args below meth c H locs cells slots Q (F0 m pc ls (.int v :: .int 0 :: .ref (ad k1) :: .int 0 :: .ref (ad k) :: rest)) := by
  subst hv
  obtain ⟨⟨t0, h1⟩, h2⟩ := hR
  obtain ⟨⟨t1, g1⟩, g2⟩ := hR1
  have e0 : (0 : Int32).toNatClampNeg = 0 := rfl
  have en : (Int32.ofNat n).toNatClampNeg = n := nI_clamp hn
  refine va_copyi X.1.1 X.1.2.1 (X.1.2.2.1.trans hls.symm) X.1.2.2.2.1 (X.1.2.2.2.2 _ hlink) (X.1.2.2.2.2 _ hnat) (X.1.2.2.2.2 _ hstat) (X.1.2.2.2.2 _ hini) X.2.1 hW.1 (zD X.2.2.2.1 X.2.2.2.2.2.1 M L) hW.2 k k1 t0 t1 (h2 cy ad M L).1 (g2 cy ad M L).1 (h1 cy) (g1 cy) rfl (by decide) (by decide) (nI_pos hn) (by rw [e0, en]; omega) (by rw [e0, en]; omega) (fun _ _ => rfl) hframes hlocals hdg (fun H1 locs1 q1 q2 q3 => kk _ H1 locs1 rfl ⟨?_, q3⟩)
  rw [(g2 cy ad M L).2, e0, en] at q1
  exact q1
end ZR
end
section
/-! calls over the one world, the start and the end of a method -/
section ZC
variable {p : Program} {l : Launch} {e : Env} {R : Room} {s : State} {m : MethodId} {args : Array Value} {below : List Frame} {meth : Method} {c : Code} {cells slots : Nat} {Q : State → Prop} {cc : ByteArray} {nL : Nat} {own : String} {D : va_G} {cy : Nat → ClassId} {ad : Nat → Nat} {A : Nat → Prop}
variable {H : Heap} {locs : List Loc} {M : Mm} {L : Ml} {pc : Nat} {ls : Array Slot} {rest st : List Value} {y : MethodName} {bytes : ByteArray} {maxL : Nat} {ret : Option FieldType} {rm : Room} {n index k : Nat} {As : List Value} {h : Prop} {Qc : Array Value → State → Outcome → State → Prop} {free : Addr → Prop}
theorem zNs_same {u U : State} (h : u.vm = U.vm) (hz : zNs zN u) : zNs zN U := by
  intro w hw
  have h1 := hz w hw
  rcases zN_nest w hw with ⟨a, i, b, n, d, g, rfl⟩ | ⟨a, i, x, g, rfl⟩
  · exact va_Nw.same rfl h h1
  · exact va_Nw.same rfl h h1
theorem z_preS (X : zCx p R s m args c cells slots cc nL own D cy ad A) (hW : zWd D cy ad A s H locs M L) (hh : h) : PreS s H (va_Pc As (zPre D cy ad H.size M L h)) As :=
  ⟨fun a U g mk q => by
    obtain ⟨q0, q1, qK, qN, qP, qh⟩ := q
    exact ⟨q0, q1, va_K.moved (u := U) (U := U.calling g mk a) (Vm.Alike.refl U.vm) qK, zNs_same (u := U) (U := U.calling g mk a) rfl qN, qP, qh⟩,
   fun U hU hWm => ⟨rfl, by rw [hU], va_K.moved hWm.alike X.2.1, zNs_moved hWm X.2.2.1, by rw [hU]; exact hW.1, hh⟩⟩
theorem z_preV {ci N : Nat} {C : String} {T : u_T} (X : zCx p R s m args c cells slots cc nL own D cy ad A) (hW : zWd D cy ad A s H locs M L) (hh : h) (hO : zOb ci k) (hC : zCl ci C T N) : PreV s H C (ad k) (va_Pc (.ref (ad k) :: As) (zPre D cy ad H.size M L h)) As := by
  obtain ⟨fs, h1⟩ := hO
  obtain ⟨g1, g2⟩ := z_preS (As := .ref (ad k) :: As) X hW hh
  exact ⟨g1, va_recv X.2.1 hW.1 hC.1 (h1 cy ad M L), g2⟩
theorem z_free (X : zCx p R s m args c cells slots cc nL own D cy ad A) (hW : zWd D cy ad A s H locs M L) : ∀ q, zA ad H.size q → A q := by
  intro q hq
  rcases hq with ⟨k, hk, rfl⟩ | hq
  · exact X.2.2.2.2.2.1 k hk
  · exact X.2.2.2.2.1 q (Nat.le_trans hW.2.1 hq)
theorem z_runS (X : zCx p R s m args c cells slots cc nL own D cy ad A) (hc : zCal y bytes maxL ret) (hst : Cond.static y ∈ zG) (hlk : Cond.methodLink own index y ∈ zG) (hn : (parseMethodDescriptor y.desc).map (fun d => d.parameters.length) = some n) (hrm : rm.cells = 0 ∧ rm.slots = 0) (hR : rm.frames + 1 ≤ R.frames ∧ 8 + (maxL + 11) + rm.locals ≤ R.locals) (hM : Met l y (.code y bytes maxL ret :: zG) rm (va_Pc As (zPre D cy ad H.size M L h)) Qc 0 0 free) (hW : zWd D cy ad A s H locs M L) (hh : h) (hls : ls.size = nL) (hAn : As.length = n) (hstk : st = As.reverse ++ rest) (hsum : (rest.map fun v => v.category).sum ≤ 8) (hdg : decode cc pc = .ok (.invokestatic index, 3)) :
    va_Run p l e R s m args below meth c H locs cells slots 0 0 (F0 m pc ls st) rest (Qc As.toArray) free :=
  va_runS X.1 hM ⟨callB_of n X.1.2.2.2.2 (z_good hc.1) rfl hrm.1 hrm.2 (X.1.2.2.2.2 _ hc.2.1) (X.1.2.2.2.2 _ hlk) ⟨hc.2.2.1, hc.2.2.2, hn⟩ hR, X.1.2.2.2.2 _ hst⟩ (z_preS X hW hh) rfl hAn hls hstk (lv_room hsum) hdg ⟨X.2.2.2.2.2.2.1, X.2.2.2.2.2.2.2⟩
theorem z_runV {ci N : Nat} {T : u_T} (X : zCx p R s m args c cells slots cc nL own D cy ad A) (hO : zOb ci k) (hC : zCl ci y.cls T N) (hc : zCal y bytes maxL ret) (hst : zSel y) (hlk : Cond.methodLink own index y ∈ zG) (hn : (parseMethodDescriptor y.desc).map (fun d => d.parameters.length) = some n) (hrm : rm.cells = 0 ∧ rm.slots = 0) (hR : rm.frames + 1 ≤ R.frames ∧ 8 + (maxL + 11) + rm.locals ≤ R.locals) (hM : Met l y (.code y bytes maxL ret :: zG) rm (va_Pc (.ref (ad k) :: As) (zPre D cy ad H.size M L h)) Qc 0 0 free) (hW : zWd D cy ad A s H locs M L) (hh : h) (hls : ls.size = nL) (hAn : As.length = n) (hstk : st = As.reverse ++ .ref (ad k) :: rest) (hsum : (rest.map fun v => v.category).sum ≤ 8) (hdg : decode cc pc = .ok (.invokevirtual index, 3)) :
    va_Run p l e R s m args below meth c H locs cells slots 0 0 (F0 m pc ls st) rest (Qc (Value.ref (ad k) :: As).toArray) free :=
  va_runV X.1 hM ⟨callB_of n X.1.2.2.2.2 (z_good hc.1) rfl hrm.1 hrm.2 (X.1.2.2.2.2 _ hc.2.1) (X.1.2.2.2.2 _ hlk) ⟨hc.2.2.1, hc.2.2.2, hn⟩ hR, X.1.2.2.2.2 _ hst.1, X.1.2.2.2.2 _ hst.2⟩ (z_preV X hW hh hO hC) rfl hAn hls hstk (lv_room hsum) hdg ⟨X.2.2.2.2.2.2.1, X.2.2.2.2.2.2.2⟩
theorem z_runSN {host : String} (X : zCx p R s m args c cells slots cc nL own D cy ad A) (hc : zCal y bytes maxL ret) (hst : Cond.static y ∈ zG) (hlk : Cond.methodLinkNest own index y host ∈ zN) (hn : (parseMethodDescriptor y.desc).map (fun d => d.parameters.length) = some n) (hrm : rm.cells = 0 ∧ rm.slots = 0) (hR : rm.frames + 1 ≤ R.frames ∧ 8 + (maxL + 11) + rm.locals ≤ R.locals) (hM : Met l y (.code y bytes maxL ret :: zG) rm (va_Pc As (zPre D cy ad H.size M L h)) Qc 0 0 free) (hW : zWd D cy ad A s H locs M L) (hh : h) (hls : ls.size = nL) (hAn : As.length = n) (hstk : st = As.reverse ++ rest) (hsum : (rest.map fun v => v.category).sum ≤ 8) (hdg : decode cc pc = .ok (.invokestatic index, 3)) :
    va_Run p l e R s m args below meth c H locs cells slots 0 0 (F0 m pc ls st) rest (Qc As.toArray) free :=
  va_runSN X.1 hM ⟨va_cnB n X.1.2.2.2.2 (z_good hc.1) rfl hrm.1 hrm.2 (X.2.2.1 _ hlk) (X.1.2.2.2.2 _ hc.2.1) ⟨hc.2.2.1, hc.2.2.2, hn⟩ hR, X.1.2.2.2.2 _ hst, trivial⟩ (z_preS X hW hh) rfl hAn hls hstk (lv_room hsum) hdg ⟨X.2.2.2.2.2.2.1, X.2.2.2.2.2.2.2⟩
theorem z_runVN {ci N : Nat} {T : u_T} {host : String} (X : zCx p R s m args c cells slots cc nL own D cy ad A) (hO : zOb ci k) (hC : zCl ci y.cls T N) (hc : zCal y bytes maxL ret) (hst : zSel y) (hlk : Cond.methodLinkNest own index y host ∈ zN) (hn : (parseMethodDescriptor y.desc).map (fun d => d.parameters.length) = some n) (hrm : rm.cells = 0 ∧ rm.slots = 0) (hR : rm.frames + 1 ≤ R.frames ∧ 8 + (maxL + 11) + rm.locals ≤ R.locals) (hM : Met l y (.code y bytes maxL ret :: zG) rm (va_Pc (.ref (ad k) :: As) (zPre D cy ad H.size M L h)) Qc 0 0 free) (hW : zWd D cy ad A s H locs M L) (hh : h) (hls : ls.size = nL) (hAn : As.length = n) (hstk : st = As.reverse ++ .ref (ad k) :: rest) (hsum : (rest.map fun v => v.category).sum ≤ 8) (hdg : decode cc pc = .ok (.invokevirtual index, 3)) :
    va_Run p l e R s m args below meth c H locs cells slots 0 0 (F0 m pc ls st) rest (Qc (Value.ref (ad k) :: As).toArray) free :=
  va_runVN X.1 hM ⟨va_cnB n X.1.2.2.2.2 (z_good hc.1) rfl hrm.1 hrm.2 (X.2.2.1 _ hlk) (X.1.2.2.2.2 _ hc.2.1) ⟨hc.2.2.1, hc.2.2.2, hn⟩ hR, X.1.2.2.2.2 _ hst.1, X.1.2.2.2.2 _ hst.2⟩ (z_preV X hW hh hO hC) rfl hAn hls hstk (lv_room hsum) hdg ⟨X.2.2.2.2.2.2.1, X.2.2.2.2.2.2.2⟩
theorem z_ri {a : Array Value} {post : Int32 → Mm → Ml → Prop} (hr : va_Run p l e R s m args below meth c H locs cells slots 0 0 (F0 m pc ls st) rest (va_Qi (fun (r : Int32) (u : Mm × Ml) => post r u.1 u.2) (zAt D cy ad) (zA ad H.size) a) (zA ad H.size)) (X : zCx p R s m args c cells slots cc nL own D cy ad A) (hW : zWd D cy ad A s H locs M L)
    (kk : ∀ (r : Int32) (M1 : Mm) (L1 : Ml) (H1 : Heap) (locs1 : List Loc), post r M1 L1 → zWd D cy ad A s H1 locs1 M1 L1 → W p l e R s m args below meth c H1 locs1 cells slots Q (F0 m (pc + 3) ls (.int r :: rest))) : W p l e R s m args below meth c H locs cells slots Q (F0 m pc ls st) :=
  va_calli hr hW.2 (fun q _ h => z_free X hW q h) (z_free X hW) (fun r u t H1 locs1 ht _ hp hB _ _ hS => kk r u.1 u.2 H1 locs1 hp ⟨by rw [← ht]; exact hB, hS⟩)
theorem z_rl {a : Array Value} {post : Int64 → Mm → Ml → Prop} (hr : va_Run p l e R s m args below meth c H locs cells slots 0 0 (F0 m pc ls st) rest (va_Ql (fun (r : Int64) (u : Mm × Ml) => post r u.1 u.2) (zAt D cy ad) (zA ad H.size) a) (zA ad H.size)) (X : zCx p R s m args c cells slots cc nL own D cy ad A) (hW : zWd D cy ad A s H locs M L)
    (kk : ∀ (r : Int64) (M1 : Mm) (L1 : Ml) (H1 : Heap) (locs1 : List Loc), post r M1 L1 → zWd D cy ad A s H1 locs1 M1 L1 → W p l e R s m args below meth c H1 locs1 cells slots Q (F0 m (pc + 3) ls (.long r :: rest))) : W p l e R s m args below meth c H locs cells slots Q (F0 m pc ls st) :=
  va_calll hr hW.2 (fun q _ h => z_free X hW q h) (z_free X hW) (fun r u t H1 locs1 ht _ hp hB _ _ hS => kk r u.1 u.2 H1 locs1 hp ⟨by rw [← ht]; exact hB, hS⟩)
theorem z_rv {a : Array Value} {post : Mm → Ml → Prop} (hr : va_Run p l e R s m args below meth c H locs cells slots 0 0 (F0 m pc ls st) rest (va_Qv (fun (u : Mm × Ml) => post u.1 u.2) (zAt D cy ad) (zA ad H.size) a) (zA ad H.size)) (X : zCx p R s m args c cells slots cc nL own D cy ad A) (hW : zWd D cy ad A s H locs M L)
    (kk : ∀ (M1 : Mm) (L1 : Ml) (H1 : Heap) (locs1 : List Loc), post M1 L1 → zWd D cy ad A s H1 locs1 M1 L1 → W p l e R s m args below meth c H1 locs1 cells slots Q (F0 m (pc + 3) ls rest)) : W p l e R s m args below meth c H locs cells slots Q (F0 m pc ls st) :=
  va_callv hr hW.2 (fun q _ h => z_free X hW q h) (z_free X hW) (fun u t H1 locs1 ht _ hp hB _ _ hS => kk u.1 u.2 H1 locs1 hp ⟨by rw [← ht]; exact hB, hS⟩)
end ZC
/-- a method that answers an int (or a boolean), out of its walk from the entry -/
theorem zMi_of {l : Launch} {D : va_G} {cy : Nat → ClassId} {ad : Nat → Nat} {y : MethodName} {cc : ByteArray} {maxL : Nat} {ty : FieldType} {rm : Room} {As : List Value} {wp : Mm → Ml → (Int32 → Mm → Ml → Prop) → Prop} (hy : plainName y.cls = true) (hlen : (lg_sl As).length ≤ maxL) (hi : zInj ad)
    (body : ∀ {p : Program} {e : Env} {s : State} {m : MethodId} {args : Array Value} {below : List Frame} {meth : Method} {c : Code} (_ : zCx p rm s m args c 0 0 cc maxL y.cls D cy ad (zA ad s.heap.size)) (M : Mm) (L : Ml) (post : Int32 → Mm → Ml → Prop) {Q : State → Prop} (_ : ∀ (pc : Nat) (ls : Array Slot) (H : Heap) (locs : List Loc) (r : Int32) (M1 : Mm) (L1 : Ml), decode cc pc = .ok (.ireturn, 1) → narrow ty (.int r) = .int r → post r M1 L1 → zWd D cy ad (zA ad s.heap.size) s H locs M1 L1 → W p l e rm s m args below meth c H locs 0 0 Q (F0 m pc ls [.int r])) (ls : Array Slot) (_ : lv_has ls maxL (lv_args 0 As)) (_ : wp M L post) (_ : zWd D cy ad (zA ad s.heap.size) s s.heap [] M L), W p l e rm s m args below meth c s.heap [] 0 0 Q (F0 m 0 ls [])) : zMi l y (.code y cc maxL (some ty) :: zG) rm D cy ad As wp := by
  intro sz M L post
  refine Met.ofW (cc := cc) (maxL := maxL) (ret := some ty) hy rfl ?_
  intro p e s m args below meth c s₁ B hml hv
  obtain ⟨rfl, hsz, hK, hN, hP, hw⟩ := hv
  subst hsz
  have hts := atoms_spec (ws := Cond.code y cc maxL (some ty) :: zG) B.pre
  have hown : s.vm.findClass y.cls = some m.cls := findClass_of_methodNamed B.named
  have X : zCx p rm s m As.toArray c 0 0 cc maxL y.cls D cy ad (zA ad s.heap.size) := ⟨⟨B.exec, B.bytes, hml, hown, fun w h => hts w (List.mem_cons_of_mem _ h)⟩, hK, hN, hi, fun q h => Or.inr h, fun k h => Or.inl ⟨k, h, rfl⟩, Nat.zero_le _, Nat.zero_le _⟩
  have hl := lv_entry As (n := maxL) hlen
  rw [lg_entry_eq]
  have hlocks := B.notSynchronized
  exact body X M L post (fun pc ls H locs r M1 L1 hd hn hp hW => W.zret (v := r) (ty := ty) B.exec B.bytes B.returns hn (fun t ht _ => ⟨⟨r, (M1, L1), rfl, hp, by show va_P _ _ _ t.heap; rw [ht]; exact hW.1⟩, hW.2.F ht⟩) hW.2.2.2 hd) _ hl hw ⟨hP, va_S.rf⟩
theorem zMl_of {l : Launch} {D : va_G} {cy : Nat → ClassId} {ad : Nat → Nat} {y : MethodName} {cc : ByteArray} {maxL : Nat} {rm : Room} {As : List Value} {wp : Mm → Ml → (Int64 → Mm → Ml → Prop) → Prop} (hy : plainName y.cls = true) (hlen : (lg_sl As).length ≤ maxL) (hi : zInj ad)
    (body : ∀ {p : Program} {e : Env} {s : State} {m : MethodId} {args : Array Value} {below : List Frame} {meth : Method} {c : Code} (_ : zCx p rm s m args c 0 0 cc maxL y.cls D cy ad (zA ad s.heap.size)) (M : Mm) (L : Ml) (post : Int64 → Mm → Ml → Prop) {Q : State → Prop} (_ : ∀ (pc : Nat) (ls : Array Slot) (H : Heap) (locs : List Loc) (r : Int64) (M1 : Mm) (L1 : Ml), decode cc pc = .ok (.lreturn, 1) → post r M1 L1 → zWd D cy ad (zA ad s.heap.size) s H locs M1 L1 → W p l e rm s m args below meth c H locs 0 0 Q (F0 m pc ls [.long r])) (ls : Array Slot) (_ : lv_has ls maxL (lv_args 0 As)) (_ : wp M L post) (_ : zWd D cy ad (zA ad s.heap.size) s s.heap [] M L), W p l e rm s m args below meth c s.heap [] 0 0 Q (F0 m 0 ls [])) : zMl l y (.code y cc maxL (some .long) :: zG) rm D cy ad As wp := by
  intro sz M L post
  refine Met.ofW (cc := cc) (maxL := maxL) (ret := some .long) hy rfl ?_
  intro p e s m args below meth c s₁ B hml hv
  obtain ⟨rfl, hsz, hK, hN, hP, hw⟩ := hv
  subst hsz
  have hts := atoms_spec (ws := Cond.code y cc maxL (some .long) :: zG) B.pre
  have hown : s.vm.findClass y.cls = some m.cls := findClass_of_methodNamed B.named
  have X : zCx p rm s m As.toArray c 0 0 cc maxL y.cls D cy ad (zA ad s.heap.size) := ⟨⟨B.exec, B.bytes, hml, hown, fun w h => hts w (List.mem_cons_of_mem _ h)⟩, hK, hN, hi, fun q h => Or.inr h, fun k h => Or.inl ⟨k, h, rfl⟩, Nat.zero_le _, Nat.zero_le _⟩
  have hl := lv_entry As (n := maxL) hlen
  rw [lg_entry_eq]
  have hlocks := B.notSynchronized
  exact body X M L post (fun pc ls H locs r M1 L1 hd hp hW => W.lret (v := r) B.exec B.bytes B.returns (fun t ht _ => ⟨⟨r, (M1, L1), rfl, hp, by show va_P _ _ _ t.heap; rw [ht]; exact hW.1⟩, hW.2.F ht⟩) hW.2.2.2 hd) _ hl hw ⟨hP, va_S.rf⟩
theorem zMv_of {l : Launch} {D : va_G} {cy : Nat → ClassId} {ad : Nat → Nat} {y : MethodName} {cc : ByteArray} {maxL : Nat} {rm : Room} {As : List Value} {wp : Mm → Ml → (Mm → Ml → Prop) → Prop} (hy : plainName y.cls = true) (hlen : (lg_sl As).length ≤ maxL) (hi : zInj ad)
    (body : ∀ {p : Program} {e : Env} {s : State} {m : MethodId} {args : Array Value} {below : List Frame} {meth : Method} {c : Code} (_ : zCx p rm s m args c 0 0 cc maxL y.cls D cy ad (zA ad s.heap.size)) (M : Mm) (L : Ml) (post : Mm → Ml → Prop) {Q : State → Prop} (_ : ∀ (pc : Nat) (ls : Array Slot) (H : Heap) (locs : List Loc) (M1 : Mm) (L1 : Ml), decode cc pc = .ok (.return_, 1) → post M1 L1 → zWd D cy ad (zA ad s.heap.size) s H locs M1 L1 → W p l e rm s m args below meth c H locs 0 0 Q (F0 m pc ls [])) (ls : Array Slot) (_ : lv_has ls maxL (lv_args 0 As)) (_ : wp M L post) (_ : zWd D cy ad (zA ad s.heap.size) s s.heap [] M L), W p l e rm s m args below meth c s.heap [] 0 0 Q (F0 m 0 ls [])) : zMv l y (.code y cc maxL none :: zG) rm D cy ad As wp := by
  intro sz M L post
  refine Met.ofW (cc := cc) (maxL := maxL) (ret := none) hy rfl ?_
  intro p e s m args below meth c s₁ B hml hv
  obtain ⟨rfl, hsz, hK, hN, hP, hw⟩ := hv
  subst hsz
  have hts := atoms_spec (ws := Cond.code y cc maxL none :: zG) B.pre
  have hown : s.vm.findClass y.cls = some m.cls := findClass_of_methodNamed B.named
  have X : zCx p rm s m As.toArray c 0 0 cc maxL y.cls D cy ad (zA ad s.heap.size) := ⟨⟨B.exec, B.bytes, hml, hown, fun w h => hts w (List.mem_cons_of_mem _ h)⟩, hK, hN, hi, fun q h => Or.inr h, fun k h => Or.inl ⟨k, h, rfl⟩, Nat.zero_le _, Nat.zero_le _⟩
  have hl := lv_entry As (n := maxL) hlen
  rw [lg_entry_eq]
  have hlocks := B.notSynchronized
  exact body X M L post (fun pc ls H locs M1 L1 hd hp hW => W.vret B.exec B.bytes B.returns (fun t ht _ => ⟨⟨(M1, L1), rfl, hp, by show va_P _ _ _ t.heap; rw [ht]; exact hW.1⟩, hW.2.F ht⟩) hW.2.2.2 hd) _ hl hw ⟨hP, va_S.rf⟩
end
