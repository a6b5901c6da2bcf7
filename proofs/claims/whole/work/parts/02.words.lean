/-! the words: zG, those of the tables that every state keeps; zN, those of nest mates -/
def zG : List Cond := lw_tbl.filter goodWord
theorem z_t0 {w : Cond} (h : w ∈ tables_1) (hg : goodWord w = true) : w ∈ zG := List.mem_filter.mpr ⟨List.mem_append_right _ h, hg⟩
theorem z_t1 {w : Cond} (i : Nat) (h : tables_1_1[i]? = some w) (hg : goodWord w = true) : w ∈ zG := z_t0 (List.mem_append_left _ (List.mem_of_getElem? h)) hg
theorem z_t2 {w : Cond} (i : Nat) (h : tables_1_2[i]? = some w) (hg : goodWord w = true) : w ∈ zG := z_t0 (List.mem_append_right _ (List.mem_append_left _ (List.mem_of_getElem? h))) hg
theorem z_t3 {w : Cond} (i : Nat) (h : tables_1_3[i]? = some w) (hg : goodWord w = true) : w ∈ zG := z_t0 (List.mem_append_right _ (List.mem_append_right _ (List.mem_append_left _ (List.mem_of_getElem? h)))) hg
theorem z_t4 {w : Cond} (i : Nat) (h : tables_1_4[i]? = some w) (hg : goodWord w = true) : w ∈ zG := z_t0 (List.mem_append_right _ (List.mem_append_right _ (List.mem_append_right _ (List.mem_of_getElem? h)))) hg
theorem z_grow : GoodIn zG zG := fun w h => ⟨h, good_of_word (List.mem_filter.mp h).2⟩
theorem z_inT {w : Cond} (h : w ∈ zG) : w ∈ lw_tbl := (List.mem_filter.mp h).1
theorem z_good {y : MethodName} {b : ByteArray} {n : Nat} {r : Option FieldType} (h : Cond.code y b n r ∈ zG) : GoodIn zG (.code y b n r :: zG) := by
  intro w hw
  rcases List.mem_cons.mp hw with e | h1
  · rw [e]; exact z_grow _ h
  · exact z_grow _ h1
theorem z_sel {y : MethodName} {n : Nat} (h : (y, n) ∈ lw_privs) : Cond.selects y.cls y y ∈ zG := List.mem_filter.mpr ⟨List.mem_append_left _ (List.mem_map.mpr ⟨_, h, rfl⟩), rfl⟩
theorem z_p1 {q : MethodName × Nat} (i : Nat) (h : lw_privs_1[i]? = some q) : q ∈ lw_privs := List.mem_append_left _ (List.mem_of_getElem? h)
theorem z_p2 {q : MethodName × Nat} (i : Nat) (h : lw_privs_2[i]? = some q) : q ∈ lw_privs := List.mem_append_right _ (List.mem_append_left _ (List.mem_of_getElem? h))
theorem z_p3 {q : MethodName × Nat} (i : Nat) (h : lw_privs_3[i]? = some q) : q ∈ lw_privs := List.mem_append_right _ (List.mem_append_right _ (List.mem_append_left _ (List.mem_of_getElem? h)))
theorem z_p4 {q : MethodName × Nat} (i : Nat) (h : lw_privs_4[i]? = some q) : q ∈ lw_privs := List.mem_append_right _ (List.mem_append_right _ (List.mem_append_right _ (List.mem_append_left _ (List.mem_of_getElem? h))))
theorem z_p5 {q : MethodName × Nat} (i : Nat) (h : lw_privs_5[i]? = some q) : q ∈ lw_privs := List.mem_append_right _ (List.mem_append_right _ (List.mem_append_right _ (List.mem_append_right _ (List.mem_of_getElem? h))))
/-- a method: its code, that its class is initialised -/
def zCal (y : MethodName) (b : ByteArray) (n : Nat) (r : Option FieldType) : Prop := Cond.code y b n r ∈ zG ∧ Cond.initialized y.cls ∈ zG ∧ y.cls ≠ "java/lang/invoke/MethodHandle" ∧ y.cls ≠ "java/lang/invoke/VarHandle"
def zSel (y : MethodName) : Prop := Cond.instanceMethod y ∈ zG ∧ Cond.selects y.cls y y ∈ zG
theorem zc_X0_init : zCal yX0_init cX0_init 1 none := ⟨z_t1 147 rfl rfl, z_t1 5 rfl rfl, by decide +kernel, by decide +kernel⟩
theorem zi_X0_init : Cond.instanceMethod yX0_init ∈ zG := z_t1 146 rfl rfl
theorem zc_X0_fewestAirs : zCal yX0_fewestAirs cX0_fewestAirs 7 (some .int) := ⟨z_t2 171 rfl rfl, z_t1 5 rfl rfl, by decide +kernel, by decide +kernel⟩
theorem zs_X0_fewestAirs : zSel yX0_fewestAirs := ⟨z_t2 170 rfl rfl, z_sel (z_p2 7 rfl)⟩
theorem zc_X0_reach : zCal yX0_reach cX0_reach 3 none := ⟨z_t2 178 rfl rfl, z_t1 5 rfl rfl, by decide +kernel, by decide +kernel⟩
theorem zs_X0_reach : zSel yX0_reach := ⟨z_t2 177 rfl rfl, z_sel (z_p2 8 rfl)⟩
theorem zc_X1_canGet : zCal yX1_canGet cX1_canGet 4 (some .boolean) := ⟨z_t2 189 rfl rfl, z_t1 13 rfl rfl, by decide +kernel, by decide +kernel⟩
theorem zt_X1_canGet : Cond.static yX1_canGet ∈ zG := z_t2 188 rfl rfl
theorem zc_X1_byAddressees : zCal yX1_byAddressees cX1_byAddressees 4 (some .int) := ⟨z_t2 186 rfl rfl, z_t1 13 rfl rfl, by decide +kernel, by decide +kernel⟩
theorem zt_X1_byAddressees : Cond.static yX1_byAddressees ∈ zG := z_t2 185 rfl rfl
theorem zc_X1_byWhoever : zCal yX1_byWhoever cX1_byWhoever 7 (some .int) := ⟨z_t2 196 rfl rfl, z_t1 13 rfl rfl, by decide +kernel, by decide +kernel⟩
theorem zt_X1_byWhoever : Cond.static yX1_byWhoever ∈ zG := z_t2 195 rfl rfl
theorem zc_X1_joinedBy : zCal yX1_joinedBy cX1_joinedBy 6 (some .long) := ⟨z_t2 199 rfl rfl, z_t1 13 rfl rfl, by decide +kernel, by decide +kernel⟩
theorem zt_X1_joinedBy : Cond.static yX1_joinedBy ∈ zG := z_t2 198 rfl rfl
theorem zc_X2_init : zCal yX2_init cX2_init 1 none := ⟨z_t1 119 rfl rfl, z_t1 4 rfl rfl, by decide +kernel, by decide +kernel⟩
theorem zi_X2_init : Cond.instanceMethod yX2_init ∈ zG := z_t1 118 rfl rfl
theorem zc_X2_live : zCal yX2_live cX2_live 6 none := ⟨z_t2 50 rfl rfl, z_t1 4 rfl rfl, by decide +kernel, by decide +kernel⟩
theorem zs_X2_live : zSel yX2_live := ⟨z_t2 49 rfl rfl, z_sel (z_p1 7 rfl)⟩
theorem zc_X2_begin : zCal yX2_begin cX2_begin 2 none := ⟨z_t2 54 rfl rfl, z_t1 4 rfl rfl, by decide +kernel, by decide +kernel⟩
theorem zs_X2_begin : zSel yX2_begin := ⟨z_t2 53 rfl rfl, z_sel (z_p1 8 rfl)⟩
theorem zc_X2_cameDown : zCal yX2_cameDown cX2_cameDown 1 (some .int) := ⟨z_t2 116 rfl rfl, z_t1 4 rfl rfl, by decide +kernel, by decide +kernel⟩
theorem zs_X2_cameDown : zSel yX2_cameDown := ⟨z_t2 115 rfl rfl, z_sel (z_p2 5 rfl)⟩
theorem zc_X2_dreamYear : zCal yX2_dreamYear cX2_dreamYear 8 none := ⟨z_t3 34 rfl rfl, z_t1 4 rfl rfl, by decide +kernel, by decide +kernel⟩
theorem zs_X2_dreamYear : zSel yX2_dreamYear := ⟨z_t3 33 rfl rfl, z_sel (z_p3 0 rfl)⟩
theorem zc_X3_around : zCal yX3_around cX3_around 2 (some .int) := ⟨z_t2 95 rfl rfl, z_t1 11 rfl rfl, by decide +kernel, by decide +kernel⟩
theorem zt_X3_around : Cond.static yX3_around ∈ zG := z_t2 94 rfl rfl
theorem zc_X3_grown : zCal yX3_grown cX3_grown 4 (some .int) := ⟨z_t2 92 rfl rfl, z_t1 11 rfl rfl, by decide +kernel, by decide +kernel⟩
theorem zt_X3_grown : Cond.static yX3_grown ∈ zG := z_t2 91 rfl rfl
theorem zc_X3_readAloud : zCal yX3_readAloud cX3_readAloud 4 (some .int) := ⟨z_t2 148 rfl rfl, z_t1 11 rfl rfl, by decide +kernel, by decide +kernel⟩
theorem zt_X3_readAloud : Cond.static yX3_readAloud ∈ zG := z_t2 147 rfl rfl
theorem zc_X3_rows : zCal yX3_rows cX3_rows 5 (some .int) := ⟨z_t2 156 rfl rfl, z_t1 11 rfl rfl, by decide +kernel, by decide +kernel⟩
theorem zt_X3_rows : Cond.static yX3_rows ∈ zG := z_t2 155 rfl rfl
theorem zc_X3_firstRow : zCal yX3_firstRow cX3_firstRow 11 (some .long) := ⟨z_t2 161 rfl rfl, z_t1 11 rfl rfl, by decide +kernel, by decide +kernel⟩
theorem zt_X3_firstRow : Cond.static yX3_firstRow ∈ zG := z_t2 160 rfl rfl
theorem zc_X4_init : zCal yX4_init cX4_init 1 none := ⟨z_t1 163 rfl rfl, z_t1 6 rfl rfl, by decide +kernel, by decide +kernel⟩
theorem zi_X4_init : Cond.instanceMethod yX4_init ∈ zG := z_t1 162 rfl rfl
theorem zc_X4_fall : zCal yX4_fall cX4_fall 10 none := ⟨z_t3 12 rfl rfl, z_t1 6 rfl rfl, by decide +kernel, by decide +kernel⟩
theorem zs_X4_fall : zSel yX4_fall := ⟨z_t3 11 rfl rfl, z_sel (z_p2 13 rfl)⟩
theorem zc_X4_chance : zCal yX4_chance cX4_chance 7 (some .long) := ⟨z_t3 17 rfl rfl, z_t1 6 rfl rfl, by decide +kernel, by decide +kernel⟩
theorem zs_X4_chance : zSel yX4_chance := ⟨z_t3 16 rfl rfl, z_sel (z_p2 14 rfl)⟩
theorem zc_X4_all : zCal yX4_all cX4_all 3 (some .int) := ⟨z_t3 21 rfl rfl, z_t1 6 rfl rfl, by decide +kernel, by decide +kernel⟩
theorem zs_X4_all : zSel yX4_all := ⟨z_t3 20 rfl rfl, z_sel (z_p2 15 rfl)⟩
theorem zc_X5_init : zCal yX5_init cX5_init 1 none := ⟨z_t1 92 rfl rfl, z_t1 3 rfl rfl, by decide +kernel, by decide +kernel⟩
theorem zi_X5_init : Cond.instanceMethod yX5_init ∈ zG := z_t1 91 rfl rfl
theorem zc_X5_add : zCal yX5_add cX5_add 2 (some .boolean) := ⟨z_t2 17 rfl rfl, z_t1 3 rfl rfl, by decide +kernel, by decide +kernel⟩
theorem zs_X5_add : zSel yX5_add := ⟨z_t2 16 rfl rfl, z_sel (z_p1 4 rfl)⟩
theorem zc_X5_readActs : zCal yX5_readActs cX5_readActs 4 (some .int) := ⟨z_t2 29 rfl rfl, z_t1 3 rfl rfl, by decide +kernel, by decide +kernel⟩
theorem zs_X5_readActs : zSel yX5_readActs := ⟨z_t2 28 rfl rfl, z_sel (z_p1 5 rfl)⟩
theorem zc_X5_oneOf : zCal yX5_oneOf cX5_oneOf 1 (some .int) := ⟨z_t2 32 rfl rfl, z_t1 3 rfl rfl, by decide +kernel, by decide +kernel⟩
theorem zt_X5_oneOf : Cond.static yX5_oneOf ∈ zG := z_t2 31 rfl rfl
theorem zc_X5_weatherOf : zCal yX5_weatherOf cX5_weatherOf 1 (some .int) := ⟨z_t2 35 rfl rfl, z_t1 3 rfl rfl, by decide +kernel, by decide +kernel⟩
theorem zt_X5_weatherOf : Cond.static yX5_weatherOf ∈ zG := z_t2 34 rfl rfl
theorem zc_X5_deedOf : zCal yX5_deedOf cX5_deedOf 1 (some .int) := ⟨z_t2 38 rfl rfl, z_t1 3 rfl rfl, by decide +kernel, by decide +kernel⟩
theorem zt_X5_deedOf : Cond.static yX5_deedOf ∈ zG := z_t2 37 rfl rfl
theorem zc_X6_init : zCal yX6_init cX6_init 3 none := ⟨z_t1 173 rfl rfl, z_t1 7 rfl rfl, by decide +kernel, by decide +kernel⟩
theorem zi_X6_init : Cond.instanceMethod yX6_init ∈ zG := z_t1 172 rfl rfl
theorem zc_X6_winningTake : zCal yX6_winningTake cX6_winningTake 4 (some .int) := ⟨z_t1 178 rfl rfl, z_t1 7 rfl rfl, by decide +kernel, by decide +kernel⟩
theorem zs_X6_winningTake : zSel yX6_winningTake := ⟨z_t1 177 rfl rfl, z_sel (z_p1 0 rfl)⟩
theorem zc_X7_init : zCal yX7_init cX7_init 2 none := ⟨z_t1 27 rfl rfl, z_t1 2 rfl rfl, by decide +kernel, by decide +kernel⟩
theorem zi_X7_init : Cond.instanceMethod yX7_init ∈ zG := z_t1 26 rfl rfl
theorem zc_X7_copy : zCal yX7_copy cX7_copy 2 none := ⟨z_t2 58 rfl rfl, z_t1 2 rfl rfl, by decide +kernel, by decide +kernel⟩
theorem zs_X7_copy : zSel yX7_copy := ⟨z_t2 57 rfl rfl, z_sel (z_p1 9 rfl)⟩
theorem zc_X7_has : zCal yX7_has cX7_has 2 (some .boolean) := ⟨z_t1 235 rfl rfl, z_t1 2 rfl rfl, by decide +kernel, by decide +kernel⟩
theorem zs_X7_has : zSel yX7_has := ⟨z_t1 234 rfl rfl, z_sel (z_p1 2 rfl)⟩
theorem zc_X7_putFlake : zCal yX7_putFlake cX7_putFlake 6 none := ⟨z_t1 221 rfl rfl, z_t1 2 rfl rfl, by decide +kernel, by decide +kernel⟩
theorem zs_X7_putFlake : zSel yX7_putFlake := ⟨z_t1 220 rfl rfl, z_sel (z_p1 1 rfl)⟩
theorem zc_X7_removeFlake : zCal yX7_removeFlake cX7_removeFlake 2 none := ⟨z_t2 1 rfl rfl, z_t1 2 rfl rfl, by decide +kernel, by decide +kernel⟩
theorem zs_X7_removeFlake : zSel yX7_removeFlake := ⟨z_t2 0 rfl rfl, z_sel (z_p1 3 rfl)⟩
theorem zc_X7_falling : zCal yX7_falling cX7_falling 3 (some .int) := ⟨z_t2 69 rfl rfl, z_t1 2 rfl rfl, by decide +kernel, by decide +kernel⟩
theorem zs_X7_falling : zSel yX7_falling := ⟨z_t2 68 rfl rfl, z_sel (z_p1 11 rfl)⟩
theorem zc_X7_inRiver : zCal yX7_inRiver cX7_inRiver 3 (some .int) := ⟨z_t2 73 rfl rfl, z_t1 2 rfl rfl, by decide +kernel, by decide +kernel⟩
theorem zs_X7_inRiver : zSel yX7_inRiver := ⟨z_t2 72 rfl rfl, z_sel (z_p1 12 rfl)⟩
theorem zc_X7_down : zCal yX7_down cX7_down 1 (some .int) := ⟨z_t2 65 rfl rfl, z_t1 2 rfl rfl, by decide +kernel, by decide +kernel⟩
theorem zs_X7_down : zSel yX7_down := ⟨z_t2 64 rfl rfl, z_sel (z_p1 10 rfl)⟩
theorem zc_X7_flakesWith : zCal yX7_flakesWith cX7_flakesWith 4 (some .int) := ⟨z_t2 130 rfl rfl, z_t1 2 rfl rfl, by decide +kernel, by decide +kernel⟩
theorem zs_X7_flakesWith : zSel yX7_flakesWith := ⟨z_t2 129 rfl rfl, z_sel (z_p2 6 rfl)⟩
theorem zc_X7_delivered : zCal yX7_delivered cX7_delivered 3 (some .int) := ⟨z_t2 81 rfl rfl, z_t1 2 rfl rfl, by decide +kernel, by decide +kernel⟩
theorem zs_X7_delivered : zSel yX7_delivered := ⟨z_t2 80 rfl rfl, z_sel (z_p1 14 rfl)⟩
theorem zc_X7_trodden : zCal yX7_trodden cX7_trodden 4 (some .int) := ⟨z_t2 211 rfl rfl, z_t1 2 rfl rfl, by decide +kernel, by decide +kernel⟩
theorem zs_X7_trodden : zSel yX7_trodden := ⟨z_t2 210 rfl rfl, z_sel (z_p2 9 rfl)⟩
theorem zc_X7_whyNot : zCal yX7_whyNot cX7_whyNot 3 (some .int) := ⟨z_t2 77 rfl rfl, z_t1 2 rfl rfl, by decide +kernel, by decide +kernel⟩
theorem zs_X7_whyNot : zSel yX7_whyNot := ⟨z_t2 76 rfl rfl, z_sel (z_p1 13 rfl)⟩
theorem zc_X7_carryOut : zCal yX7_carryOut cX7_carryOut 3 none := ⟨z_t2 85 rfl rfl, z_t1 2 rfl rfl, by decide +kernel, by decide +kernel⟩
theorem zs_X7_carryOut : zSel yX7_carryOut := ⟨z_t2 84 rfl rfl, z_sel (z_p1 15 rfl)⟩
theorem zc_X7_growAll : zCal yX7_growAll cX7_growAll 3 none := ⟨z_t2 89 rfl rfl, z_t1 2 rfl rfl, by decide +kernel, by decide +kernel⟩
theorem zs_X7_growAll : zSel yX7_growAll := ⟨z_t2 88 rfl rfl, z_sel (z_p2 0 rfl)⟩
theorem zc_X7_blowAll : zCal yX7_blowAll cX7_blowAll 3 none := ⟨z_t2 100 rfl rfl, z_t1 2 rfl rfl, by decide +kernel, by decide +kernel⟩
theorem zs_X7_blowAll : zSel yX7_blowAll := ⟨z_t2 99 rfl rfl, z_sel (z_p2 1 rfl)⟩
theorem zc_X7_blow : zCal yX7_blow cX7_blow 3 none := ⟨z_t2 104 rfl rfl, z_t1 2 rfl rfl, by decide +kernel, by decide +kernel⟩
theorem zs_X7_blow : zSel yX7_blow := ⟨z_t2 103 rfl rfl, z_sel (z_p2 2 rfl)⟩
theorem zc_X7_lowerAll : zCal yX7_lowerAll cX7_lowerAll 2 none := ⟨z_t2 108 rfl rfl, z_t1 2 rfl rfl, by decide +kernel, by decide +kernel⟩
theorem zs_X7_lowerAll : zSel yX7_lowerAll := ⟨z_t2 107 rfl rfl, z_sel (z_p2 3 rfl)⟩
theorem zc_X7_catcherAt : zCal yX7_catcherAt cX7_catcherAt 3 (some .int) := ⟨z_t2 112 rfl rfl, z_t1 2 rfl rfl, by decide +kernel, by decide +kernel⟩
theorem zs_X7_catcherAt : zSel yX7_catcherAt := ⟨z_t2 111 rfl rfl, z_sel (z_p2 4 rfl)⟩
theorem zc_X7_addSight : zCal yX7_addSight cX7_addSight 5 none := ⟨z_t2 221 rfl rfl, z_t1 2 rfl rfl, by decide +kernel, by decide +kernel⟩
theorem zs_X7_addSight : zSel yX7_addSight := ⟨z_t2 220 rfl rfl, z_sel (z_p2 10 rfl)⟩
theorem zc_X7_fits : zCal yX7_fits cX7_fits 2 (some .boolean) := ⟨z_t2 234 rfl rfl, z_t1 2 rfl rfl, by decide +kernel, by decide +kernel⟩
theorem zs_X7_fits : zSel yX7_fits := ⟨z_t2 233 rfl rfl, z_sel (z_p2 11 rfl)⟩
theorem zc_X7_lawsLeftBy : zCal yX7_lawsLeftBy cX7_lawsLeftBy 4 (some .int) := ⟨z_t3 2 rfl rfl, z_t1 2 rfl rfl, by decide +kernel, by decide +kernel⟩
theorem zs_X7_lawsLeftBy : zSel yX7_lawsLeftBy := ⟨z_t3 1 rfl rfl, z_sel (z_p2 12 rfl)⟩
theorem zc_X8_init : zCal yX8_init cX8_init 1 none := ⟨z_t1 19 rfl rfl, z_t1 1 rfl rfl, by decide +kernel, by decide +kernel⟩
theorem zi_X8_init : Cond.instanceMethod yX8_init ∈ zG := z_t1 18 rfl rfl
theorem zc_X8_flake : zCal yX8_flake cX8_flake 6 (some .int) := ⟨z_t1 214 rfl rfl, z_t1 1 rfl rfl, by decide +kernel, by decide +kernel⟩
theorem zs_X8_flake : zSel yX8_flake := ⟨z_t1 212 rfl rfl, z_t1 213 rfl rfl⟩
theorem zc_X8_melt : zCal yX8_melt cX8_melt 2 (some .int) := ⟨z_t1 231 rfl rfl, z_t1 1 rfl rfl, by decide +kernel, by decide +kernel⟩
theorem zs_X8_melt : zSel yX8_melt := ⟨z_t1 229 rfl rfl, z_t1 230 rfl rfl⟩
theorem zc_X8_stand : zCal yX8_stand cX8_stand 4 (some .int) := ⟨z_t2 5 rfl rfl, z_t1 1 rfl rfl, by decide +kernel, by decide +kernel⟩
theorem zs_X8_stand : zSel yX8_stand := ⟨z_t2 3 rfl rfl, z_t2 4 rfl rfl⟩
theorem zc_X8_air : zCal yX8_air cX8_air 4 (some .int) := ⟨z_t2 9 rfl rfl, z_t1 1 rfl rfl, by decide +kernel, by decide +kernel⟩
theorem zs_X8_air : zSel yX8_air := ⟨z_t2 7 rfl rfl, z_t2 8 rfl rfl⟩
theorem zc_X8_say : zCal yX8_say cX8_say 2 (some .int) := ⟨z_t2 13 rfl rfl, z_t1 1 rfl rfl, by decide +kernel, by decide +kernel⟩
theorem zs_X8_say : zSel yX8_say := ⟨z_t2 11 rfl rfl, z_t2 12 rfl rfl⟩
theorem zc_X8_wipe : zCal yX8_wipe cX8_wipe 2 (some .int) := ⟨z_t2 21 rfl rfl, z_t1 1 rfl rfl, by decide +kernel, by decide +kernel⟩
theorem zs_X8_wipe : zSel yX8_wipe := ⟨z_t2 19 rfl rfl, z_t2 20 rfl rfl⟩
theorem zc_X8_fault : zCal yX8_fault cX8_fault 1 (some .int) := ⟨z_t2 25 rfl rfl, z_t1 1 rfl rfl, by decide +kernel, by decide +kernel⟩
theorem zs_X8_fault : zSel yX8_fault := ⟨z_t2 23 rfl rfl, z_t2 24 rfl rfl⟩
theorem zc_X8_judge : zCal yX8_judge cX8_judge 3 (some .int) := ⟨z_t2 42 rfl rfl, z_t1 1 rfl rfl, by decide +kernel, by decide +kernel⟩
theorem zs_X8_judge : zSel yX8_judge := ⟨z_t2 40 rfl rfl, z_t2 41 rfl rfl⟩
theorem zc_X8_behind : zCal yX8_behind cX8_behind 4 (some .int) := ⟨z_t2 121 rfl rfl, z_t1 1 rfl rfl, by decide +kernel, by decide +kernel⟩
theorem zs_X8_behind : zSel yX8_behind := ⟨z_t2 119 rfl rfl, z_t2 120 rfl rfl⟩
theorem zc_X8_stands : zCal yX8_stands cX8_stands 4 (some .int) := ⟨z_t2 125 rfl rfl, z_t1 1 rfl rfl, by decide +kernel, by decide +kernel⟩
theorem zs_X8_stands : zSel yX8_stands := ⟨z_t2 123 rfl rfl, z_t2 124 rfl rfl⟩
theorem zc_X8_posted : zCal yX8_posted cX8_posted 3 (some .int) := ⟨z_t2 134 rfl rfl, z_t1 1 rfl rfl, by decide +kernel, by decide +kernel⟩
theorem zs_X8_posted : zSel yX8_posted := ⟨z_t2 132 rfl rfl, z_t2 133 rfl rfl⟩
theorem zc_X8_done : zCal yX8_done cX8_done 2 (some .int) := ⟨z_t2 140 rfl rfl, z_t1 1 rfl rfl, by decide +kernel, by decide +kernel⟩
theorem zs_X8_done : zSel yX8_done := ⟨z_t2 138 rfl rfl, z_t2 139 rfl rfl⟩
theorem zc_X8_says : zCal yX8_says cX8_says 2 (some .int) := ⟨z_t2 145 rfl rfl, z_t1 1 rfl rfl, by decide +kernel, by decide +kernel⟩
theorem zs_X8_says : zSel yX8_says := ⟨z_t2 143 rfl rfl, z_t2 144 rfl rfl⟩
theorem zc_X8_grew : zCal yX8_grew cX8_grew 5 (some .long) := ⟨z_t2 152 rfl rfl, z_t1 1 rfl rfl, by decide +kernel, by decide +kernel⟩
theorem zs_X8_grew : zSel yX8_grew := ⟨z_t2 150 rfl rfl, z_t2 151 rfl rfl⟩
theorem zc_X8_soon : zCal yX8_soon cX8_soon 3 (some .int) := ⟨z_t2 167 rfl rfl, z_t1 1 rfl rfl, by decide +kernel, by decide +kernel⟩
theorem zs_X8_soon : zSel yX8_soon := ⟨z_t2 165 rfl rfl, z_t2 166 rfl rfl⟩
theorem zc_X8_most : zCal yX8_most cX8_most 2 (some .int) := ⟨z_t2 183 rfl rfl, z_t1 1 rfl rfl, by decide +kernel, by decide +kernel⟩
theorem zs_X8_most : zSel yX8_most := ⟨z_t2 181 rfl rfl, z_t2 182 rfl rfl⟩
theorem zc_X8_patch : zCal yX8_patch cX8_patch 7 (some .int) := ⟨z_t2 207 rfl rfl, z_t1 1 rfl rfl, by decide +kernel, by decide +kernel⟩
theorem zs_X8_patch : zSel yX8_patch := ⟨z_t2 205 rfl rfl, z_t2 206 rfl rfl⟩
theorem zc_X8_seen : zCal yX8_seen cX8_seen 3 (some .int) := ⟨z_t2 217 rfl rfl, z_t1 1 rfl rfl, by decide +kernel, by decide +kernel⟩
theorem zs_X8_seen : zSel yX8_seen := ⟨z_t2 215 rfl rfl, z_t2 216 rfl rfl⟩
theorem zc_X8_forget : zCal yX8_forget cX8_forget 2 (some .int) := ⟨z_t2 226 rfl rfl, z_t1 1 rfl rfl, by decide +kernel, by decide +kernel⟩
theorem zs_X8_forget : zSel yX8_forget := ⟨z_t2 224 rfl rfl, z_t2 225 rfl rfl⟩
theorem zc_X8_laws : zCal yX8_laws cX8_laws 4 (some .int) := ⟨z_t2 230 rfl rfl, z_t1 1 rfl rfl, by decide +kernel, by decide +kernel⟩
theorem zs_X8_laws : zSel yX8_laws := ⟨z_t2 228 rfl rfl, z_t2 229 rfl rfl⟩
theorem zc_X8_look : zCal yX8_look cX8_look 6 (some .int) := ⟨z_t2 238 rfl rfl, z_t1 1 rfl rfl, by decide +kernel, by decide +kernel⟩
theorem zs_X8_look : zSel yX8_look := ⟨z_t2 236 rfl rfl, z_t2 237 rfl rfl⟩
theorem zc_X8_gusts : zCal yX8_gusts cX8_gusts 8 (some .long) := ⟨z_t3 7 rfl rfl, z_t1 1 rfl rfl, by decide +kernel, by decide +kernel⟩
theorem zs_X8_gusts : zSel yX8_gusts := ⟨z_t3 5 rfl rfl, z_t3 6 rfl rfl⟩
theorem zc_X8_spoon : zCal yX8_spoon cX8_spoon 4 (some .int) := ⟨z_t3 25 rfl rfl, z_t1 1 rfl rfl, by decide +kernel, by decide +kernel⟩
theorem zs_X8_spoon : zSel yX8_spoon := ⟨z_t3 23 rfl rfl, z_t3 24 rfl rfl⟩
theorem zc_X8_year : zCal yX8_year cX8_year 4 (some .int) := ⟨z_t3 30 rfl rfl, z_t1 1 rfl rfl, by decide +kernel, by decide +kernel⟩
theorem zs_X8_year : zSel yX8_year := ⟨z_t3 28 rfl rfl, z_t3 29 rfl rfl⟩
theorem zc_X8_image : zCal yX8_image cX8_image 2 (some .int) := ⟨z_t3 40 rfl rfl, z_t1 1 rfl rfl, by decide +kernel, by decide +kernel⟩
theorem zs_X8_image : zSel yX8_image := ⟨z_t3 38 rfl rfl, z_t3 39 rfl rfl⟩
theorem zc_X8_restore : zCal yX8_restore cX8_restore 2 (some .int) := ⟨z_t3 44 rfl rfl, z_t1 1 rfl rfl, by decide +kernel, by decide +kernel⟩
theorem zs_X8_restore : zSel yX8_restore := ⟨z_t3 42 rfl rfl, z_t3 43 rfl rfl⟩
theorem zc_X8_told : zCal yX8_told cX8_told 2 (some .int) := ⟨z_t3 48 rfl rfl, z_t1 1 rfl rfl, by decide +kernel, by decide +kernel⟩
theorem zs_X8_told : zSel yX8_told := ⟨z_t3 46 rfl rfl, z_t3 47 rfl rfl⟩
theorem zc_X8_toldOfFlake : zCal yX8_toldOfFlake cX8_toldOfFlake 3 (some .int) := ⟨z_t3 56 rfl rfl, z_t1 1 rfl rfl, by decide +kernel, by decide +kernel⟩
theorem zs_X8_toldOfFlake : zSel yX8_toldOfFlake := ⟨z_t3 55 rfl rfl, z_sel (z_p3 2 rfl)⟩
theorem zc_X8_toldOfOne : zCal yX8_toldOfOne cX8_toldOfOne 3 (some .int) := ⟨z_t3 52 rfl rfl, z_t1 1 rfl rfl, by decide +kernel, by decide +kernel⟩
theorem zs_X8_toldOfOne : zSel yX8_toldOfOne := ⟨z_t3 51 rfl rfl, z_sel (z_p3 1 rfl)⟩
theorem zc_X8_refusalOfDays : zCal yX8_refusalOfDays cX8_refusalOfDays 1 (some .int) := ⟨z_t2 46 rfl rfl, z_t1 1 rfl rfl, by decide +kernel, by decide +kernel⟩
theorem zs_X8_refusalOfDays : zSel yX8_refusalOfDays := ⟨z_t2 45 rfl rfl, z_sel (z_p1 6 rfl)⟩
theorem zc_X8_isBelow : zCal yX8_isBelow cX8_isBelow 2 (some .boolean) := ⟨z_t1 217 rfl rfl, z_t1 1 rfl rfl, by decide +kernel, by decide +kernel⟩
theorem zt_X8_isBelow : Cond.static yX8_isBelow ∈ zG := z_t1 216 rfl rfl
theorem zc_X8_bit : zCal yX8_bit cX8_bit 2 (some .int) := ⟨z_t1 181 rfl rfl, z_t1 1 rfl rfl, by decide +kernel, by decide +kernel⟩
theorem zt_X8_bit : Cond.static yX8_bit ∈ zG := z_t1 180 rfl rfl
theorem zc_X9_init : zCal yX9_init cX9_init 2 none := ⟨z_t3 61 rfl rfl, z_t1 8 rfl rfl, by decide +kernel, by decide +kernel⟩
theorem zi_X9_init : Cond.instanceMethod yX9_init ∈ zG := z_t3 60 rfl rfl
theorem zc_X9_in : zCal yX9_in cX9_in 6 (some .boolean) := ⟨z_t3 178 rfl rfl, z_t1 8 rfl rfl, by decide +kernel, by decide +kernel⟩
theorem zt_X9_in : Cond.static yX9_in ∈ zG := z_t3 177 rfl rfl
theorem zc_X9_bitsOf : zCal yX9_bitsOf cX9_bitsOf 3 (some .int) := ⟨z_t3 191 rfl rfl, z_t1 8 rfl rfl, by decide +kernel, by decide +kernel⟩
theorem zt_X9_bitsOf : Cond.static yX9_bitsOf ∈ zG := z_t3 190 rfl rfl
theorem zc_X9_isFlake : zCal yX9_isFlake cX9_isFlake 2 (some .boolean) := ⟨z_t3 199 rfl rfl, z_t1 8 rfl rfl, by decide +kernel, by decide +kernel⟩
theorem zs_X9_isFlake : zSel yX9_isFlake := ⟨z_t3 198 rfl rfl, z_sel (z_p3 3 rfl)⟩
theorem zc_X9_isOne : zCal yX9_isOne cX9_isOne 1 (some .boolean) := ⟨z_t3 181 rfl rfl, z_t1 8 rfl rfl, by decide +kernel, by decide +kernel⟩
theorem zt_X9_isOne : Cond.static yX9_isOne ∈ zG := z_t3 180 rfl rfl
theorem zc_X9_isArm : zCal yX9_isArm cX9_isArm 1 (some .boolean) := ⟨z_t3 185 rfl rfl, z_t1 8 rfl rfl, by decide +kernel, by decide +kernel⟩
theorem zt_X9_isArm : Cond.static yX9_isArm ∈ zG := z_t3 184 rfl rfl
theorem zc_X9_flake : zCal yX9_flake cX9_flake 6 (some .int) := ⟨z_t3 174 rfl rfl, z_t1 8 rfl rfl, by decide +kernel, by decide +kernel⟩
theorem zs_X9_flake : zSel yX9_flake := ⟨z_t3 172 rfl rfl, z_t3 173 rfl rfl⟩
theorem zc_X9_melt : zCal yX9_melt cX9_melt 2 (some .int) := ⟨z_t3 195 rfl rfl, z_t1 8 rfl rfl, by decide +kernel, by decide +kernel⟩
theorem zs_X9_melt : zSel yX9_melt := ⟨z_t3 193 rfl rfl, z_t3 194 rfl rfl⟩
theorem zc_X9_stand : zCal yX9_stand cX9_stand 4 (some .int) := ⟨z_t3 203 rfl rfl, z_t1 8 rfl rfl, by decide +kernel, by decide +kernel⟩
theorem zs_X9_stand : zSel yX9_stand := ⟨z_t3 201 rfl rfl, z_t3 202 rfl rfl⟩
theorem zc_X9_air : zCal yX9_air cX9_air 4 (some .int) := ⟨z_t3 207 rfl rfl, z_t1 8 rfl rfl, by decide +kernel, by decide +kernel⟩
theorem zs_X9_air : zSel yX9_air := ⟨z_t3 205 rfl rfl, z_t3 206 rfl rfl⟩
theorem zc_X9_say : zCal yX9_say cX9_say 2 (some .int) := ⟨z_t3 211 rfl rfl, z_t1 8 rfl rfl, by decide +kernel, by decide +kernel⟩
theorem zs_X9_say : zSel yX9_say := ⟨z_t3 209 rfl rfl, z_t3 210 rfl rfl⟩
theorem zc_X9_wipe : zCal yX9_wipe cX9_wipe 2 (some .int) := ⟨z_t3 217 rfl rfl, z_t1 8 rfl rfl, by decide +kernel, by decide +kernel⟩
theorem zs_X9_wipe : zSel yX9_wipe := ⟨z_t3 215 rfl rfl, z_t3 216 rfl rfl⟩
theorem zc_X9_close : zCal yX9_close cX9_close 2 (some .int) := ⟨z_t3 229 rfl rfl, z_t1 8 rfl rfl, by decide +kernel, by decide +kernel⟩
theorem zs_X9_close : zSel yX9_close := ⟨z_t3 228 rfl rfl, z_sel (z_p3 5 rfl)⟩
theorem zc_X9_readOn : zCal yX9_readOn cX9_readOn 4 (some .int) := ⟨z_t3 225 rfl rfl, z_t1 8 rfl rfl, by decide +kernel, by decide +kernel⟩
theorem zs_X9_readOn : zSel yX9_readOn := ⟨z_t3 224 rfl rfl, z_sel (z_p3 4 rfl)⟩
theorem zc_X9_fault : zCal yX9_fault cX9_fault 3 (some .int) := ⟨z_t3 221 rfl rfl, z_t1 8 rfl rfl, by decide +kernel, by decide +kernel⟩
theorem zs_X9_fault : zSel yX9_fault := ⟨z_t3 219 rfl rfl, z_t3 220 rfl rfl⟩
theorem zc_X9_isAbove : zCal yX9_isAbove cX9_isAbove 2 (some .boolean) := ⟨z_t4 21 rfl rfl, z_t1 8 rfl rfl, by decide +kernel, by decide +kernel⟩
theorem zs_X9_isAbove : zSel yX9_isAbove := ⟨z_t4 20 rfl rfl, z_sel (z_p3 11 rfl)⟩
theorem zc_X9_aboveMany : zCal yX9_aboveMany cX9_aboveMany 3 (some .int) := ⟨z_t4 17 rfl rfl, z_t1 8 rfl rfl, by decide +kernel, by decide +kernel⟩
theorem zs_X9_aboveMany : zSel yX9_aboveMany := ⟨z_t4 16 rfl rfl, z_sel (z_p3 10 rfl)⟩
theorem zc_X9_whyNot : zCal yX9_whyNot cX9_whyNot 3 (some .int) := ⟨z_t4 13 rfl rfl, z_t1 8 rfl rfl, by decide +kernel, by decide +kernel⟩
theorem zs_X9_whyNot : zSel yX9_whyNot := ⟨z_t4 12 rfl rfl, z_sel (z_p3 9 rfl)⟩
theorem zc_X9_grown : zCal yX9_grown cX9_grown 8 (some .int) := ⟨z_t4 32 rfl rfl, z_t1 8 rfl rfl, by decide +kernel, by decide +kernel⟩
theorem zt_X9_grown : Cond.static yX9_grown ∈ zG := z_t4 31 rfl rfl
theorem zc_X9_grow : zCal yX9_grow cX9_grow 3 none := ⟨z_t4 29 rfl rfl, z_t1 8 rfl rfl, by decide +kernel, by decide +kernel⟩
theorem zs_X9_grow : zSel yX9_grow := ⟨z_t4 28 rfl rfl, z_sel (z_p3 13 rfl)⟩
theorem zc_X9_blowOne : zCal yX9_blowOne cX9_blowOne 5 none := ⟨z_t4 40 rfl rfl, z_t1 8 rfl rfl, by decide +kernel, by decide +kernel⟩
theorem zs_X9_blowOne : zSel yX9_blowOne := ⟨z_t4 39 rfl rfl, z_sel (z_p3 15 rfl)⟩
theorem zc_X9_blow : zCal yX9_blow cX9_blow 3 none := ⟨z_t4 36 rfl rfl, z_t1 8 rfl rfl, by decide +kernel, by decide +kernel⟩
theorem zs_X9_blow : zSel yX9_blow := ⟨z_t4 35 rfl rfl, z_sel (z_p3 14 rfl)⟩
theorem zc_X9_comeDown : zCal yX9_comeDown cX9_comeDown 3 none := ⟨z_t4 48 rfl rfl, z_t1 8 rfl rfl, by decide +kernel, by decide +kernel⟩
theorem zs_X9_comeDown : zSel yX9_comeDown := ⟨z_t4 47 rfl rfl, z_sel (z_p4 1 rfl)⟩
theorem zc_X9_fall : zCal yX9_fall cX9_fall 2 none := ⟨z_t4 44 rfl rfl, z_t1 8 rfl rfl, by decide +kernel, by decide +kernel⟩
theorem zs_X9_fall : zSel yX9_fall := ⟨z_t4 43 rfl rfl, z_sel (z_p4 0 rfl)⟩
theorem zc_X9_happen : zCal yX9_happen cX9_happen 3 none := ⟨z_t4 25 rfl rfl, z_t1 8 rfl rfl, by decide +kernel, by decide +kernel⟩
theorem zs_X9_happen : zSel yX9_happen := ⟨z_t4 24 rfl rfl, z_sel (z_p3 12 rfl)⟩
theorem zc_X9_keepNow : zCal yX9_keepNow cX9_keepNow 2 none := ⟨z_t4 4 rfl rfl, z_t1 8 rfl rfl, by decide +kernel, by decide +kernel⟩
theorem zs_X9_keepNow : zSel yX9_keepNow := ⟨z_t4 3 rfl rfl, z_sel (z_p3 7 rfl)⟩
theorem zc_X9_back : zCal yX9_back cX9_back 3 (some .int) := ⟨z_t4 52 rfl rfl, z_t1 8 rfl rfl, by decide +kernel, by decide +kernel⟩
theorem zs_X9_back : zSel yX9_back := ⟨z_t4 51 rfl rfl, z_sel (z_p4 2 rfl)⟩
theorem zc_X9_goDays : zCal yX9_goDays cX9_goDays 3 none := ⟨z_t4 9 rfl rfl, z_t1 8 rfl rfl, by decide +kernel, by decide +kernel⟩
theorem zs_X9_goDays : zSel yX9_goDays := ⟨z_t4 8 rfl rfl, z_sel (z_p3 8 rfl)⟩
theorem zc_X9_refusal : zCal yX9_refusal cX9_refusal 1 (some .int) := ⟨z_t4 0 rfl rfl, z_t1 8 rfl rfl, by decide +kernel, by decide +kernel⟩
theorem zs_X9_refusal : zSel yX9_refusal := ⟨z_t3 239 rfl rfl, z_sel (z_p3 6 rfl)⟩
theorem zc_X9_judge : zCal yX9_judge cX9_judge 3 (some .int) := ⟨z_t3 235 rfl rfl, z_t1 8 rfl rfl, by decide +kernel, by decide +kernel⟩
theorem zs_X9_judge : zSel yX9_judge := ⟨z_t3 233 rfl rfl, z_t3 234 rfl rfl⟩
theorem zc_X9_ofFlake : zCal yX9_ofFlake cX9_ofFlake 3 (some .int) := ⟨z_t4 61 rfl rfl, z_t1 8 rfl rfl, by decide +kernel, by decide +kernel⟩
theorem zs_X9_ofFlake : zSel yX9_ofFlake := ⟨z_t4 60 rfl rfl, z_sel (z_p4 3 rfl)⟩
theorem zc_X9_behind : zCal yX9_behind cX9_behind 4 (some .int) := ⟨z_t4 56 rfl rfl, z_t1 8 rfl rfl, by decide +kernel, by decide +kernel⟩
theorem zs_X9_behind : zSel yX9_behind := ⟨z_t4 54 rfl rfl, z_t4 55 rfl rfl⟩
theorem zc_X9_flakesOf : zCal yX9_flakesOf cX9_flakesOf 4 (some .int) := ⟨z_t4 69 rfl rfl, z_t1 8 rfl rfl, by decide +kernel, by decide +kernel⟩
theorem zs_X9_flakesOf : zSel yX9_flakesOf := ⟨z_t4 68 rfl rfl, z_sel (z_p4 4 rfl)⟩
theorem zc_X9_stands : zCal yX9_stands cX9_stands 5 (some .int) := ⟨z_t4 65 rfl rfl, z_t1 8 rfl rfl, by decide +kernel, by decide +kernel⟩
theorem zs_X9_stands : zSel yX9_stands := ⟨z_t4 63 rfl rfl, z_t4 64 rfl rfl⟩
theorem zc_X9_postedNow : zCal yX9_postedNow cX9_postedNow 3 (some .int) := ⟨z_t4 77 rfl rfl, z_t1 8 rfl rfl, by decide +kernel, by decide +kernel⟩
theorem zs_X9_postedNow : zSel yX9_postedNow := ⟨z_t4 76 rfl rfl, z_sel (z_p4 5 rfl)⟩
theorem zc_X9_riverNow : zCal yX9_riverNow cX9_riverNow 3 (some .int) := ⟨z_t4 81 rfl rfl, z_t1 8 rfl rfl, by decide +kernel, by decide +kernel⟩
theorem zs_X9_riverNow : zSel yX9_riverNow := ⟨z_t4 80 rfl rfl, z_sel (z_p4 6 rfl)⟩
theorem zc_X9_posted : zCal yX9_posted cX9_posted 4 (some .int) := ⟨z_t4 73 rfl rfl, z_t1 8 rfl rfl, by decide +kernel, by decide +kernel⟩
theorem zs_X9_posted : zSel yX9_posted := ⟨z_t4 71 rfl rfl, z_t4 72 rfl rfl⟩
theorem zc_X9_done : zCal yX9_done cX9_done 2 (some .int) := ⟨z_t4 85 rfl rfl, z_t1 8 rfl rfl, by decide +kernel, by decide +kernel⟩
theorem zs_X9_done : zSel yX9_done := ⟨z_t4 83 rfl rfl, z_t4 84 rfl rfl⟩
theorem zc_X9_says : zCal yX9_says cX9_says 6 (some .int) := ⟨z_t4 89 rfl rfl, z_t1 8 rfl rfl, by decide +kernel, by decide +kernel⟩
theorem zs_X9_says : zSel yX9_says := ⟨z_t4 87 rfl rfl, z_t4 88 rfl rfl⟩
theorem zc_X9_findWays : zCal yX9_findWays cX9_findWays 6 none := ⟨z_t4 99 rfl rfl, z_t1 8 rfl rfl, by decide +kernel, by decide +kernel⟩
theorem zs_X9_findWays : zSel yX9_findWays := ⟨z_t4 98 rfl rfl, z_sel (z_p4 7 rfl)⟩
theorem zc_X9_firstAirs : zCal yX9_firstAirs cX9_firstAirs 9 (some .long) := ⟨z_t4 104 rfl rfl, z_t1 8 rfl rfl, by decide +kernel, by decide +kernel⟩
theorem zs_X9_firstAirs : zSel yX9_firstAirs := ⟨z_t4 103 rfl rfl, z_sel (z_p4 8 rfl)⟩
theorem zc_X9_grew : zCal yX9_grew cX9_grew 7 (some .long) := ⟨z_t4 93 rfl rfl, z_t1 8 rfl rfl, by decide +kernel, by decide +kernel⟩
theorem zs_X9_grew : zSel yX9_grew := ⟨z_t4 91 rfl rfl, z_t4 92 rfl rfl⟩
theorem zc_X9_findOff : zCal yX9_findOff cX9_findOff 5 (some .boolean) := ⟨z_t4 112 rfl rfl, z_t1 8 rfl rfl, by decide +kernel, by decide +kernel⟩
theorem zs_X9_findOff : zSel yX9_findOff := ⟨z_t4 111 rfl rfl, z_sel (z_p4 9 rfl)⟩
theorem zc_X9_soon : zCal yX9_soon cX9_soon 4 (some .int) := ⟨z_t4 108 rfl rfl, z_t1 8 rfl rfl, by decide +kernel, by decide +kernel⟩
theorem zs_X9_soon : zSel yX9_soon := ⟨z_t4 106 rfl rfl, z_t4 107 rfl rfl⟩
theorem zc_X9_canGet : zCal yX9_canGet cX9_canGet 4 (some .boolean) := ⟨z_t4 124 rfl rfl, z_t1 8 rfl rfl, by decide +kernel, by decide +kernel⟩
theorem zs_X9_canGet : zSel yX9_canGet := ⟨z_t4 123 rfl rfl, z_sel (z_p4 11 rfl)⟩
theorem zc_X9_canGetOwn : zCal yX9_canGetOwn cX9_canGetOwn 4 (some .boolean) := ⟨z_t4 120 rfl rfl, z_t1 8 rfl rfl, by decide +kernel, by decide +kernel⟩
theorem zs_X9_canGetOwn : zSel yX9_canGetOwn := ⟨z_t4 119 rfl rfl, z_sel (z_p4 10 rfl)⟩
theorem zc_X9_addFlake : zCal yX9_addFlake cX9_addFlake 7 none := ⟨z_t4 128 rfl rfl, z_t1 8 rfl rfl, by decide +kernel, by decide +kernel⟩
theorem zs_X9_addFlake : zSel yX9_addFlake := ⟨z_t4 127 rfl rfl, z_sel (z_p4 12 rfl)⟩
theorem zc_X9_most : zCal yX9_most cX9_most 4 (some .int) := ⟨z_t4 116 rfl rfl, z_t1 8 rfl rfl, by decide +kernel, by decide +kernel⟩
theorem zs_X9_most : zSel yX9_most := ⟨z_t4 114 rfl rfl, z_t4 115 rfl rfl⟩
theorem zc_X9_isFree : zCal yX9_isFree cX9_isFree 5 (some .boolean) := ⟨z_t4 136 rfl rfl, z_t1 8 rfl rfl, by decide +kernel, by decide +kernel⟩
theorem zs_X9_isFree : zSel yX9_isFree := ⟨z_t4 135 rfl rfl, z_sel (z_p4 13 rfl)⟩
theorem zc_X9_patch : zCal yX9_patch cX9_patch 6 (some .int) := ⟨z_t4 132 rfl rfl, z_t1 8 rfl rfl, by decide +kernel, by decide +kernel⟩
theorem zs_X9_patch : zSel yX9_patch := ⟨z_t4 130 rfl rfl, z_t4 131 rfl rfl⟩
theorem zc_X9_seen : zCal yX9_seen cX9_seen 3 (some .int) := ⟨z_t4 140 rfl rfl, z_t1 8 rfl rfl, by decide +kernel, by decide +kernel⟩
theorem zs_X9_seen : zSel yX9_seen := ⟨z_t4 138 rfl rfl, z_t4 139 rfl rfl⟩
theorem zc_X9_forget : zCal yX9_forget cX9_forget 2 (some .int) := ⟨z_t4 144 rfl rfl, z_t1 8 rfl rfl, by decide +kernel, by decide +kernel⟩
theorem zs_X9_forget : zSel yX9_forget := ⟨z_t4 142 rfl rfl, z_t4 143 rfl rfl⟩
theorem zc_X9_fits : zCal yX9_fits cX9_fits 4 (some .boolean) := ⟨z_t4 152 rfl rfl, z_t1 8 rfl rfl, by decide +kernel, by decide +kernel⟩
theorem zs_X9_fits : zSel yX9_fits := ⟨z_t4 151 rfl rfl, z_sel (z_p4 14 rfl)⟩
theorem zc_X9_laws : zCal yX9_laws cX9_laws 4 (some .int) := ⟨z_t4 148 rfl rfl, z_t1 8 rfl rfl, by decide +kernel, by decide +kernel⟩
theorem zs_X9_laws : zSel yX9_laws := ⟨z_t4 146 rfl rfl, z_t4 147 rfl rfl⟩
theorem zc_X9_mostLeft : zCal yX9_mostLeft cX9_mostLeft 5 (some .int) := ⟨z_t4 160 rfl rfl, z_t1 8 rfl rfl, by decide +kernel, by decide +kernel⟩
theorem zs_X9_mostLeft : zSel yX9_mostLeft := ⟨z_t4 159 rfl rfl, z_sel (z_p4 15 rfl)⟩
theorem zc_X9_look : zCal yX9_look cX9_look 6 (some .int) := ⟨z_t4 156 rfl rfl, z_t1 8 rfl rfl, by decide +kernel, by decide +kernel⟩
theorem zs_X9_look : zSel yX9_look := ⟨z_t4 154 rfl rfl, z_t4 155 rfl rfl⟩
theorem zc_X9_gust : zCal yX9_gust cX9_gust 4 none := ⟨z_t4 174 rfl rfl, z_t1 8 rfl rfl, by decide +kernel, by decide +kernel⟩
theorem zs_X9_gust : zSel yX9_gust := ⟨z_t4 173 rfl rfl, z_sel (z_p5 0 rfl)⟩
theorem zc_X9_lowest : zCal yX9_lowest cX9_lowest 11 (some .long) := ⟨z_t4 177 rfl rfl, z_t1 8 rfl rfl, by decide +kernel, by decide +kernel⟩
theorem zt_X9_lowest : Cond.static yX9_lowest ∈ zG := z_t4 176 rfl rfl
theorem zc_X9_areGusts : zCal yX9_areGusts cX9_areGusts 5 (some .boolean) := ⟨z_t4 167 rfl rfl, z_t1 8 rfl rfl, by decide +kernel, by decide +kernel⟩
theorem zt_X9_areGusts : Cond.static yX9_areGusts ∈ zG := z_t4 166 rfl rfl
theorem zc_X9_gusts : zCal yX9_gusts cX9_gusts 10 (some .long) := ⟨z_t4 164 rfl rfl, z_t1 8 rfl rfl, by decide +kernel, by decide +kernel⟩
theorem zs_X9_gusts : zSel yX9_gusts := ⟨z_t4 162 rfl rfl, z_t4 163 rfl rfl⟩
theorem zc_X9_bestTake : zCal yX9_bestTake cX9_bestTake 6 (some .int) := ⟨z_t4 186 rfl rfl, z_t1 8 rfl rfl, by decide +kernel, by decide +kernel⟩
theorem zs_X9_bestTake : zSel yX9_bestTake := ⟨z_t4 185 rfl rfl, z_sel (z_p5 1 rfl)⟩
theorem zc_X9_spoon : zCal yX9_spoon cX9_spoon 5 (some .int) := ⟨z_t4 181 rfl rfl, z_t1 8 rfl rfl, by decide +kernel, by decide +kernel⟩
theorem zs_X9_spoon : zSel yX9_spoon := ⟨z_t4 179 rfl rfl, z_t4 180 rfl rfl⟩
theorem zc_X9_year : zCal yX9_year cX9_year 7 (some .int) := ⟨z_t4 190 rfl rfl, z_t1 8 rfl rfl, by decide +kernel, by decide +kernel⟩
theorem zs_X9_year : zSel yX9_year := ⟨z_t4 188 rfl rfl, z_t4 189 rfl rfl⟩
theorem zc_X9_pass : zCal yX9_pass cX9_pass 3 (some .int) := ⟨z_t4 207 rfl rfl, z_t1 8 rfl rfl, by decide +kernel, by decide +kernel⟩
theorem zs_X9_pass : zSel yX9_pass := ⟨z_t4 206 rfl rfl, z_sel (z_p5 3 rfl)⟩
theorem zc_X9_passRow : zCal yX9_passRow cX9_passRow 4 none := ⟨z_t4 211 rfl rfl, z_t1 8 rfl rfl, by decide +kernel, by decide +kernel⟩
theorem zs_X9_passRow : zSel yX9_passRow := ⟨z_t4 210 rfl rfl, z_sel (z_p5 4 rfl)⟩
theorem zc_X9_passAll : zCal yX9_passAll cX9_passAll 1 none := ⟨z_t4 203 rfl rfl, z_t1 8 rfl rfl, by decide +kernel, by decide +kernel⟩
theorem zs_X9_passAll : zSel yX9_passAll := ⟨z_t4 202 rfl rfl, z_sel (z_p5 2 rfl)⟩
theorem zc_X9_image : zCal yX9_image cX9_image 2 (some .int) := ⟨z_t4 199 rfl rfl, z_t1 8 rfl rfl, by decide +kernel, by decide +kernel⟩
theorem zs_X9_image : zSel yX9_image := ⟨z_t4 197 rfl rfl, z_t4 198 rfl rfl⟩
theorem zc_X9_restore : zCal yX9_restore cX9_restore 2 (some .int) := ⟨z_t4 215 rfl rfl, z_t1 8 rfl rfl, by decide +kernel, by decide +kernel⟩
theorem zs_X9_restore : zSel yX9_restore := ⟨z_t4 213 rfl rfl, z_t4 214 rfl rfl⟩
theorem zc_X9_toldOf : zCal yX9_toldOf cX9_toldOf 3 (some .int) := ⟨z_t4 226 rfl rfl, z_t1 8 rfl rfl, by decide +kernel, by decide +kernel⟩
theorem zs_X9_toldOf : zSel yX9_toldOf := ⟨z_t4 225 rfl rfl, z_sel (z_p5 5 rfl)⟩
theorem zc_X9_told : zCal yX9_told cX9_told 3 (some .int) := ⟨z_t4 219 rfl rfl, z_t1 8 rfl rfl, by decide +kernel, by decide +kernel⟩
theorem zs_X9_told : zSel yX9_told := ⟨z_t4 217 rfl rfl, z_t4 218 rfl rfl⟩
theorem zc_J6_bitCount_0f7a4 : zCal yJ6_bitCount_0f7a4 cJ6_bitCount_0f7a4 1 (some .int) := ⟨z_t1 224 rfl rfl, z_t1 9 rfl rfl, by decide +kernel, by decide +kernel⟩
theorem zt_J6_bitCount_0f7a4 : Cond.static yJ6_bitCount_0f7a4 ∈ zG := z_t1 223 rfl rfl
theorem zc_J9_abs_0f7a4 : zCal yJ9_abs_0f7a4 cJ9_abs_0f7a4 1 (some .int) := ⟨z_t2 192 rfl rfl, z_t1 14 rfl rfl, by decide +kernel, by decide +kernel⟩
theorem zt_J9_abs_0f7a4 : Cond.static yJ9_abs_0f7a4 ∈ zG := z_t2 191 rfl rfl
theorem zc_J9_max_7cf53 : zCal yJ9_max_7cf53 cJ9_max_7cf53 2 (some .int) := ⟨z_t2 203 rfl rfl, z_t1 14 rfl rfl, by decide +kernel, by decide +kernel⟩
theorem zt_J9_max_7cf53 : Cond.static yJ9_max_7cf53 ∈ zG := z_t2 202 rfl rfl
theorem zc_J7_fill_53178 : zCal yJ7_fill_53178 cJ7_fill_53178 4 none := ⟨z_t2 174 rfl rfl, z_t1 12 rfl rfl, by decide +kernel, by decide +kernel⟩
theorem zt_J7_fill_53178 : Cond.static yJ7_fill_53178 ∈ zG := z_t2 173 rfl rfl
theorem zd_L_7 : Cond.classLink RL 7 RX8 ∈ zG := z_t1 15 rfl rfl
theorem zx_X8 : Cond.instantiable RX8 8 ∈ zG := z_t1 16 rfl rfl
theorem zl_L_9 : Cond.methodLink RL 9 yX8_init ∈ zG := z_t1 17 rfl rfl
theorem zl_X8_1 : Cond.methodLink RX8 1 objectInit ∈ zG := z_t1 20 rfl rfl
theorem zd_X8_7 : Cond.classLink RX8 7 RX7 ∈ zG := z_t1 23 rfl rfl
theorem zx_X7 : Cond.instantiable RX7 13 ∈ zG := z_t1 24 rfl rfl
theorem zl_X7_3 : Cond.methodLink RX7 3 objectInit ∈ zG := z_t1 28 rfl rfl
theorem zl_X7_9 : Cond.fieldLink RX7 9 "FlakePost$Yard" "there" "I" ∈ zG := z_t1 29 rfl rfl
theorem zl_X7_15 : Cond.fieldLink RX7 15 "FlakePost$Yard" "arm" "[I" ∈ zG := z_t1 31 rfl rfl
theorem zl_X7_19 : Cond.fieldLink RX7 19 "FlakePost$Yard" "place" "[I" ∈ zG := z_t1 33 rfl rfl
theorem zl_X7_22 : Cond.fieldLink RX7 22 "FlakePost$Yard" "height" "[I" ∈ zG := z_t1 36 rfl rfl
theorem zl_X7_25 : Cond.fieldLink RX7 25 "FlakePost$Yard" "addressee" "[I" ∈ zG := z_t1 39 rfl rfl
theorem zl_X7_28 : Cond.fieldLink RX7 28 "FlakePost$Yard" "with" "[I" ∈ zG := z_t1 42 rfl rfl
theorem zl_X7_31 : Cond.fieldLink RX7 31 "FlakePost$Yard" "standing" "[I" ∈ zG := z_t1 44 rfl rfl
theorem zl_X7_34 : Cond.fieldLink RX7 34 "FlakePost$Yard" "umbrellas" "I" ∈ zG := z_t1 47 rfl rfl
theorem zl_X7_37 : Cond.fieldLink RX7 37 "FlakePost$Yard" "coldLaw" "I" ∈ zG := z_t1 49 rfl rfl
theorem zl_X7_40 : Cond.fieldLink RX7 40 "FlakePost$Yard" "dampLaw" "I" ∈ zG := z_t1 51 rfl rfl
theorem zl_X7_43 : Cond.fieldLink RX7 43 "FlakePost$Yard" "sights" "I" ∈ zG := z_t1 53 rfl rfl
theorem zl_X7_46 : Cond.fieldLink RX7 46 "FlakePost$Yard" "lawHas" "I" ∈ zG := z_t1 55 rfl rfl
theorem zl_X7_49 : Cond.fieldLink RX7 49 "FlakePost$Yard" "lawLacks" "I" ∈ zG := z_t1 57 rfl rfl
theorem zd_X8_24 : Cond.classLink RX8 24 RX5 ∈ zG := z_t1 88 rfl rfl
theorem zx_X5 : Cond.instantiable RX5 5 ∈ zG := z_t1 89 rfl rfl
theorem zl_X5_3 : Cond.methodLink RX5 3 objectInit ∈ zG := z_t1 93 rfl rfl
theorem zl_X5_11 : Cond.fieldLink RX5 11 "FlakePost$Pad" "signs" "[I" ∈ zG := z_t1 94 rfl rfl
theorem zl_X5_15 : Cond.fieldLink RX5 15 "FlakePost$Pad" "count" "I" ∈ zG := z_t1 95 rfl rfl
theorem zl_X5_19 : Cond.fieldLink RX5 19 "FlakePost$Pad" "kinds" "[I" ∈ zG := z_t1 97 rfl rfl
theorem zl_X5_22 : Cond.fieldLink RX5 22 "FlakePost$Pad" "ones" "[I" ∈ zG := z_t1 99 rfl rfl
theorem zl_X5_25 : Cond.fieldLink RX5 25 "FlakePost$Pad" "acts" "I" ∈ zG := z_t1 101 rfl rfl
theorem zd_X8_31 : Cond.classLink RX8 31 RX2 ∈ zG := z_t1 115 rfl rfl
theorem zx_X2 : Cond.instantiable RX2 5 ∈ zG := z_t1 116 rfl rfl
theorem zl_X2_3 : Cond.methodLink RX2 3 objectInit ∈ zG := z_t1 120 rfl rfl
theorem zd_X2_9 : Cond.classLink RX2 9 RX7 ∈ zG := z_t1 121 rfl rfl
theorem zl_X2_12 : Cond.fieldLink RX2 12 "FlakePost$Day" "after" "LFlakePost$Yard;" ∈ zG := z_t1 123 rfl rfl
theorem zl_X2_18 : Cond.fieldLink RX2 18 "FlakePost$Day" "badAct" "I" ∈ zG := z_t1 125 rfl rfl
theorem zl_X2_22 : Cond.fieldLink RX2 22 "FlakePost$Day" "badWhy" "I" ∈ zG := z_t1 127 rfl rfl
theorem zl_X2_25 : Cond.fieldLink RX2 25 "FlakePost$Day" "firstDelivery" "I" ∈ zG := z_t1 129 rfl rfl
theorem zl_X2_28 : Cond.fieldLink RX2 28 "FlakePost$Day" "downAtFirst" "I" ∈ zG := z_t1 131 rfl rfl
theorem zd_X8_38 : Cond.classLink RX8 38 RX0 ∈ zG := z_t1 143 rfl rfl
theorem zx_X0 : Cond.instantiable RX0 3 ∈ zG := z_t1 144 rfl rfl
theorem zl_X0_3 : Cond.methodLink RX0 3 objectInit ∈ zG := z_t1 148 rfl rfl
theorem zl_X0_9 : Cond.fieldLink RX0 9 "FlakePost$AirSearch" "airs" "[I" ∈ zG := z_t1 149 rfl rfl
theorem zl_X0_15 : Cond.fieldLink RX0 15 "FlakePost$AirSearch" "queue" "[I" ∈ zG := z_t1 150 rfl rfl
theorem zl_X0_18 : Cond.fieldLink RX0 18 "FlakePost$AirSearch" "waiting" "I" ∈ zG := z_t1 151 rfl rfl
theorem zd_X8_45 : Cond.classLink RX8 45 RX4 ∈ zG := z_t1 159 rfl rfl
theorem zx_X4 : Cond.instantiable RX4 1 ∈ zG := z_t1 160 rfl rfl
theorem zl_X4_3 : Cond.methodLink RX4 3 objectInit ∈ zG := z_t1 164 rfl rfl
theorem zl_X4_9 : Cond.fieldLink RX4 9 "FlakePost$GustRow" "ways" "[I" ∈ zG := z_t1 165 rfl rfl
theorem zd_X8_52 : Cond.classLink RX8 52 RX6 ∈ zG := z_t1 169 rfl rfl
theorem zx_X6 : Cond.instantiable RX6 1 ∈ zG := z_t1 170 rfl rfl
theorem zl_X6_3 : Cond.methodLink RX6 3 objectInit ∈ zG := z_t1 174 rfl rfl
theorem zl_X6_15 : Cond.methodLink RX6 15 yX6_winningTake ∈ zG := z_t1 175 rfl rfl
theorem zl_X6_9 : Cond.fieldLink RX6 9 "FlakePost$SpoonTable" "wins" "[I" ∈ zG := z_t1 182 rfl rfl
theorem zl_X8_10 : Cond.fieldLink RX8 10 "FlakePost" "now" "LFlakePost$Yard;" ∈ zG := z_t1 186 rfl rfl
theorem zl_X8_16 : Cond.fieldLink RX8 16 "FlakePost" "images" "[LFlakePost$Yard;" ∈ zG := z_t1 187 rfl rfl
theorem zl_X8_20 : Cond.fieldLink RX8 20 "FlakePost" "imagesKept" "I" ∈ zG := z_t1 188 rfl rfl
theorem zl_X8_27 : Cond.fieldLink RX8 27 "FlakePost" "pad" "LFlakePost$Pad;" ∈ zG := z_t1 189 rfl rfl
theorem zl_X8_34 : Cond.fieldLink RX8 34 "FlakePost" "day" "LFlakePost$Day;" ∈ zG := z_t1 190 rfl rfl
theorem zl_X8_41 : Cond.fieldLink RX8 41 "FlakePost" "search" "LFlakePost$AirSearch;" ∈ zG := z_t1 191 rfl rfl
theorem zl_X8_48 : Cond.fieldLink RX8 48 "FlakePost" "gustRow" "LFlakePost$GustRow;" ∈ zG := z_t1 192 rfl rfl
theorem zl_X8_55 : Cond.fieldLink RX8 55 "FlakePost" "spoons" "LFlakePost$SpoonTable;" ∈ zG := z_t1 193 rfl rfl
theorem zl_L_13 : Cond.methodLink RL 13 yX8_flake ∈ zG := z_t1 211 rfl rfl
theorem zl_X8_59 : Cond.methodLink RX8 59 yX8_isBelow ∈ zG := z_t1 215 rfl rfl
theorem zl_X8_70 : Cond.methodLink RX8 70 yJ6_bitCount_0f7a4 ∈ zG := z_t1 222 rfl rfl
theorem zk_J6_265 : Cond.constant RJ6 265 (1431655765) ∈ zG := z_t1 225 rfl rfl
theorem zk_J6_266 : Cond.constant RJ6 266 (858993459) ∈ zG := z_t1 226 rfl rfl
theorem zk_J6_267 : Cond.constant RJ6 267 (252645135) ∈ zG := z_t1 227 rfl rfl
theorem zl_L_18 : Cond.methodLink RL 18 yX8_melt ∈ zG := z_t1 228 rfl rfl
theorem zl_L_23 : Cond.methodLink RL 23 yX8_stand ∈ zG := z_t2 2 rfl rfl
theorem zl_L_28 : Cond.methodLink RL 28 yX8_air ∈ zG := z_t2 6 rfl rfl
theorem zl_L_32 : Cond.methodLink RL 32 yX8_say ∈ zG := z_t2 10 rfl rfl
theorem zl_L_36 : Cond.methodLink RL 36 yX8_wipe ∈ zG := z_t2 18 rfl rfl
theorem zl_L_41 : Cond.methodLink RL 41 yX8_fault ∈ zG := z_t2 22 rfl rfl
theorem zl_X5_28 : Cond.methodLink RX5 28 yX5_oneOf ∈ zG := z_t2 30 rfl rfl
theorem zl_X5_32 : Cond.methodLink RX5 32 yX5_weatherOf ∈ zG := z_t2 33 rfl rfl
theorem zl_X5_35 : Cond.methodLink RX5 35 yX5_deedOf ∈ zG := z_t2 36 rfl rfl
theorem zl_L_45 : Cond.methodLink RL 45 yX8_judge ∈ zG := z_t2 39 rfl rfl
theorem zl_X8_107 : Cond.methodLink RX8 107 yX8_refusalOfDays ∈ zG := z_t2 43 rfl rfl
theorem zl_X2_31 : Cond.methodLink RX2 31 yX2_begin ∈ zG := z_t2 51 rfl rfl
theorem zl_X7_52 : Cond.methodLink RX7 52 arraycopyName ∈ zG := z_t2 59 rfl rfl
theorem zl_X7_66 : Cond.methodLink RX7 66 yX7_falling ∈ zG := z_t2 66 rfl rfl
theorem zl_X7_70 : Cond.methodLink RX7 70 yX7_inRiver ∈ zG := z_t2 70 rfl rfl
theorem zl_X7_80 : Cond.methodLink RX7 80 yX7_growAll ∈ zG := z_t2 86 rfl rfl
theorem zl_X3_9 : Cond.methodLink RX3 9 yX3_around ∈ zG := z_t2 93 rfl rfl
theorem zl_X7_84 : Cond.methodLink RX7 84 yX7_blowAll ∈ zG := z_t2 97 rfl rfl
theorem zl_X7_95 : Cond.methodLink RX7 95 yX7_blow ∈ zG := z_t2 101 rfl rfl
theorem zl_X7_87 : Cond.methodLink RX7 87 yX7_lowerAll ∈ zG := z_t2 105 rfl rfl
theorem zl_X7_99 : Cond.methodLink RX7 99 yX7_catcherAt ∈ zG := z_t2 109 rfl rfl
theorem zl_X2_65 : Cond.methodLink RX2 65 yJ6_bitCount_0f7a4 ∈ zG := z_t2 117 rfl rfl
theorem zl_L_49 : Cond.methodLink RL 49 yX8_behind ∈ zG := z_t2 118 rfl rfl
theorem zl_L_53 : Cond.methodLink RL 53 yX8_stands ∈ zG := z_t2 122 rfl rfl
theorem zl_X8_134 : Cond.methodLink RX8 134 yX8_bit ∈ zG := z_t2 126 rfl rfl
theorem zl_L_57 : Cond.methodLink RL 57 yX8_posted ∈ zG := z_t2 131 rfl rfl
theorem zl_L_61 : Cond.methodLink RL 61 yX8_done ∈ zG := z_t2 137 rfl rfl
theorem zl_L_65 : Cond.methodLink RL 65 yX8_says ∈ zG := z_t2 142 rfl rfl
theorem zl_L_69 : Cond.methodLink RL 69 yX8_grew ∈ zG := z_t2 149 rfl rfl
theorem zk_X8_162 : Cond.constantLong RX8 162 (-2) ∈ zG := z_t2 153 rfl rfl
theorem zl_X3_18 : Cond.methodLink RX3 18 yX3_grown ∈ zG := z_t2 157 rfl rfl
theorem zl_X3_21 : Cond.methodLink RX3 21 yX3_rows ∈ zG := z_t2 158 rfl rfl
theorem zk_X3_25 : Cond.constantLong RX3 25 (-6) ∈ zG := z_t2 162 rfl rfl
theorem zk_X3_27 : Cond.constantLong RX3 27 (10) ∈ zG := z_t2 163 rfl rfl
theorem zl_L_74 : Cond.methodLink RL 74 yX8_soon ∈ zG := z_t2 164 rfl rfl
theorem zl_X0_22 : Cond.methodLink RX0 22 yJ7_fill_53178 ∈ zG := z_t2 172 rfl rfl
theorem zl_X0_28 : Cond.methodLink RX0 28 yX0_reach ∈ zG := z_t2 175 rfl rfl
theorem zl_L_78 : Cond.methodLink RL 78 yX8_most ∈ zG := z_t2 180 rfl rfl
theorem zl_X1_30 : Cond.methodLink RX1 30 yX1_canGet ∈ zG := z_t2 187 rfl rfl
theorem zl_X1_21 : Cond.methodLink RX1 21 yJ9_abs_0f7a4 ∈ zG := z_t2 190 rfl rfl
theorem zl_X1_36 : Cond.methodLink RX1 36 yJ6_bitCount_0f7a4 ∈ zG := z_t2 193 rfl rfl
theorem zl_X1_41 : Cond.methodLink RX1 41 yX1_joinedBy ∈ zG := z_t2 197 rfl rfl
theorem zl_X1_45 : Cond.methodLink RX1 45 yJ9_max_7cf53 ∈ zG := z_t2 201 rfl rfl
theorem zl_L_82 : Cond.methodLink RL 82 yX8_patch ∈ zG := z_t2 204 rfl rfl
theorem zl_X7_73 : Cond.methodLink RX7 73 yX7_down ∈ zG := z_t2 212 rfl rfl
theorem zl_X7_76 : Cond.methodLink RX7 76 yX7_flakesWith ∈ zG := z_t2 213 rfl rfl
theorem zl_L_86 : Cond.methodLink RL 86 yX8_seen ∈ zG := z_t2 214 rfl rfl
theorem zl_L_90 : Cond.methodLink RL 90 yX8_forget ∈ zG := z_t2 223 rfl rfl
theorem zl_L_94 : Cond.methodLink RL 94 yX8_laws ∈ zG := z_t2 227 rfl rfl
theorem zl_L_98 : Cond.methodLink RL 98 yX8_look ∈ zG := z_t2 235 rfl rfl
theorem zl_X7_105 : Cond.methodLink RX7 105 yJ6_bitCount_0f7a4 ∈ zG := z_t3 3 rfl rfl
theorem zl_L_102 : Cond.methodLink RL 102 yX8_gusts ∈ zG := z_t3 4 rfl rfl
theorem zk_X8_207 : Cond.constantLong RX8 207 (-1000000000000000002) ∈ zG := z_t3 8 rfl rfl
theorem zl_X4_15 : Cond.methodLink RX4 15 yJ7_fill_53178 ∈ zG := z_t3 13 rfl rfl
theorem zl_X4_21 : Cond.methodLink RX4 21 yX4_all ∈ zG := z_t3 18 rfl rfl
theorem zl_L_107 : Cond.methodLink RL 107 yX8_spoon ∈ zG := z_t3 22 rfl rfl
theorem zl_L_111 : Cond.methodLink RL 111 yX8_year ∈ zG := z_t3 27 rfl rfl
theorem zk_X2_71 : Cond.constant RX2 71 (65537) ∈ zG := z_t3 35 rfl rfl
theorem zl_L_116 : Cond.methodLink RL 116 yX8_image ∈ zG := z_t3 37 rfl rfl
theorem zl_L_120 : Cond.methodLink RL 120 yX8_restore ∈ zG := z_t3 41 rfl rfl
theorem zl_L_124 : Cond.methodLink RL 124 yX8_told ∈ zG := z_t3 45 rfl rfl
theorem zl_X8_227 : Cond.methodLink RX8 227 yX8_toldOfOne ∈ zG := z_t3 49 rfl rfl
theorem zl_X8_230 : Cond.methodLink RX8 230 yX8_toldOfFlake ∈ zG := z_t3 53 rfl rfl
theorem zd_L_10 : Cond.classLink RL 10 RX9 ∈ zG := z_t3 57 rfl rfl
theorem zx_X9 : Cond.instantiable RX9 35 ∈ zG := z_t3 58 rfl rfl
theorem zl_L_12 : Cond.methodLink RL 12 yX9_init ∈ zG := z_t3 59 rfl rfl
theorem zl_X9_1 : Cond.methodLink RX9 1 objectInit ∈ zG := z_t3 62 rfl rfl
theorem zl_X9_90 : Cond.fieldLink RX9 90 "FlakePostModel" "there" "I" ∈ zG := z_t3 63 rfl rfl
theorem zl_X9_7 : Cond.fieldLink RX9 7 "FlakePostModel" "arm" "[I" ∈ zG := z_t3 64 rfl rfl
theorem zl_X9_13 : Cond.fieldLink RX9 13 "FlakePostModel" "place" "[I" ∈ zG := z_t3 65 rfl rfl
theorem zl_X9_16 : Cond.fieldLink RX9 16 "FlakePostModel" "height" "[I" ∈ zG := z_t3 66 rfl rfl
theorem zl_X9_19 : Cond.fieldLink RX9 19 "FlakePostModel" "meant" "[I" ∈ zG := z_t3 67 rfl rfl
theorem zl_X9_22 : Cond.fieldLink RX9 22 "FlakePostModel" "with" "[I" ∈ zG := z_t3 68 rfl rfl
theorem zl_X9_25 : Cond.fieldLink RX9 25 "FlakePostModel" "stood" "[I" ∈ zG := z_t3 69 rfl rfl
theorem zl_X9_28 : Cond.fieldLink RX9 28 "FlakePostModel" "covered" "[I" ∈ zG := z_t3 70 rfl rfl
theorem zl_X9_31 : Cond.fieldLink RX9 31 "FlakePostModel" "airs" "[I" ∈ zG := z_t3 71 rfl rfl
theorem zl_X9_34 : Cond.fieldLink RX9 34 "FlakePostModel" "sightFrom" "[I" ∈ zG := z_t3 72 rfl rfl
theorem zl_X9_37 : Cond.fieldLink RX9 37 "FlakePostModel" "sightTo" "[I" ∈ zG := z_t3 73 rfl rfl
theorem zl_X9_245 : Cond.fieldLink RX9 245 "FlakePostModel" "sights" "I" ∈ zG := z_t3 74 rfl rfl
theorem zl_X9_40 : Cond.fieldLink RX9 40 "FlakePostModel" "pad" "[I" ∈ zG := z_t3 75 rfl rfl
theorem zl_X9_120 : Cond.fieldLink RX9 120 "FlakePostModel" "padMany" "I" ∈ zG := z_t3 76 rfl rfl
theorem zl_X9_43 : Cond.fieldLink RX9 43 "FlakePostModel" "act" "[I" ∈ zG := z_t3 77 rfl rfl
theorem zl_X9_46 : Cond.fieldLink RX9 46 "FlakePostModel" "who" "[I" ∈ zG := z_t3 78 rfl rfl
theorem zl_X9_123 : Cond.fieldLink RX9 123 "FlakePostModel" "acts" "I" ∈ zG := z_t3 79 rfl rfl
theorem zl_X9_151 : Cond.fieldLink RX9 151 "FlakePostModel" "downMany" "I" ∈ zG := z_t3 80 rfl rfl
theorem zl_X9_154 : Cond.fieldLink RX9 154 "FlakePostModel" "firstPosted" "I" ∈ zG := z_t3 81 rfl rfl
theorem zl_X9_157 : Cond.fieldLink RX9 157 "FlakePostModel" "actNow" "I" ∈ zG := z_t3 82 rfl rfl
theorem zl_X9_49 : Cond.fieldLink RX9 49 "FlakePostModel" "had" "[I" ∈ zG := z_t3 83 rfl rfl
theorem zl_X9_173 : Cond.fieldLink RX9 173 "FlakePostModel" "badAct" "I" ∈ zG := z_t3 84 rfl rfl
theorem zl_X9_176 : Cond.fieldLink RX9 176 "FlakePostModel" "badWhy" "I" ∈ zG := z_t3 85 rfl rfl
theorem zl_X9_52 : Cond.fieldLink RX9 52 "FlakePostModel" "ways" "[J" ∈ zG := z_t3 86 rfl rfl
theorem zl_X9_56 : Cond.fieldLink RX9 56 "FlakePostModel" "off" "[I" ∈ zG := z_t3 87 rfl rfl
theorem zl_X9_59 : Cond.fieldLink RX9 59 "FlakePostModel" "mostBy" "[I" ∈ zG := z_t3 88 rfl rfl
theorem zl_X9_62 : Cond.fieldLink RX9 62 "FlakePostModel" "byArm" "[I" ∈ zG := z_t3 89 rfl rfl
theorem zl_X9_65 : Cond.fieldLink RX9 65 "FlakePostModel" "isLaw" "[Z" ∈ zG := z_t3 90 rfl rfl
theorem zl_X9_69 : Cond.fieldLink RX9 69 "FlakePostModel" "parts" "[J" ∈ zG := z_t3 91 rfl rfl
theorem zl_X9_72 : Cond.fieldLink RX9 72 "FlakePostModel" "partsThen" "[J" ∈ zG := z_t3 92 rfl rfl
theorem zl_X9_75 : Cond.fieldLink RX9 75 "FlakePostModel" "takes" "[I" ∈ zG := z_t3 93 rfl rfl
theorem zl_X9_78 : Cond.fieldLink RX9 78 "FlakePostModel" "kept" "[I" ∈ zG := z_t3 94 rfl rfl
theorem zl_X9_81 : Cond.fieldLink RX9 81 "FlakePostModel" "isKept" "[Z" ∈ zG := z_t3 95 rfl rfl
theorem zl_X9_290 : Cond.fieldLink RX9 290 "FlakePostModel" "keptAt" "I" ∈ zG := z_t3 96 rfl rfl
theorem zl_X9_286 : Cond.fieldLink RX9 286 "FlakePostModel" "isWriting" "Z" ∈ zG := z_t3 97 rfl rfl
theorem zl_L_17 : Cond.methodLink RL 17 yX9_flake ∈ zG := z_t3 171 rfl rfl
theorem zk_X9_84 : Cond.constantLong RX9 84 (7) ∈ zG := z_t3 175 rfl rfl
theorem zl_X9_86 : Cond.methodLink RX9 86 yX9_in ∈ zG := z_t3 176 rfl rfl
theorem zl_X9_98 : Cond.methodLink RX9 98 yX9_isOne ∈ zG := z_t3 179 rfl rfl
theorem zk_X9_94 : Cond.constantLong RX9 94 (5) ∈ zG := z_t3 182 rfl rfl
theorem zl_X9_102 : Cond.methodLink RX9 102 yX9_isArm ∈ zG := z_t3 183 rfl rfl
theorem zk_X9_96 : Cond.constantLong RX9 96 (255) ∈ zG := z_t3 186 rfl rfl
theorem zk_X9_105 : Cond.constantLong RX9 105 (15) ∈ zG := z_t3 187 rfl rfl
theorem zk_X9_107 : Cond.constantLong RX9 107 (9) ∈ zG := z_t3 188 rfl rfl
theorem zl_X9_109 : Cond.methodLink RX9 109 yX9_bitsOf ∈ zG := z_t3 189 rfl rfl
theorem zl_L_22 : Cond.methodLink RL 22 yX9_melt ∈ zG := z_t3 192 rfl rfl
theorem zl_X9_113 : Cond.methodLink RX9 113 yX9_isFlake ∈ zG := z_t3 196 rfl rfl
theorem zl_L_27 : Cond.methodLink RL 27 yX9_stand ∈ zG := z_t3 200 rfl rfl
theorem zl_L_31 : Cond.methodLink RL 31 yX9_air ∈ zG := z_t3 204 rfl rfl
theorem zl_L_35 : Cond.methodLink RL 35 yX9_say ∈ zG := z_t3 208 rfl rfl
theorem zk_X9_116 : Cond.constantLong RX9 116 (33) ∈ zG := z_t3 212 rfl rfl
theorem zk_X9_118 : Cond.constantLong RX9 118 (126) ∈ zG := z_t3 213 rfl rfl
theorem zl_L_40 : Cond.methodLink RL 40 yX9_wipe ∈ zG := z_t3 214 rfl rfl
theorem zl_L_44 : Cond.methodLink RL 44 yX9_fault ∈ zG := z_t3 218 rfl rfl
theorem zl_X9_133 : Cond.methodLink RX9 133 yX9_readOn ∈ zG := z_t3 222 rfl rfl
theorem zl_X9_126 : Cond.methodLink RX9 126 yX9_close ∈ zG := z_t3 226 rfl rfl
theorem zk_X9_129 : Cond.constantLong RX9 129 (65) ∈ zG := z_t3 230 rfl rfl
theorem zk_X9_131 : Cond.constantLong RX9 131 (70) ∈ zG := z_t3 231 rfl rfl
theorem zl_L_48 : Cond.methodLink RL 48 yX9_judge ∈ zG := z_t3 232 rfl rfl
theorem zk_X9_194 : Cond.constantLong RX9 194 (2) ∈ zG := z_t3 236 rfl rfl
theorem zl_X9_196 : Cond.methodLink RX9 196 yX9_refusal ∈ zG := z_t3 237 rfl rfl
theorem zl_X9_185 : Cond.methodLink RX9 185 yX9_keepNow ∈ zG := z_t4 1 rfl rfl
theorem zl_X9_188 : Cond.methodLink RX9 188 yX9_fault ∈ zG := z_t4 5 rfl rfl
theorem zl_X9_191 : Cond.methodLink RX9 191 yX9_goDays ∈ zG := z_t4 6 rfl rfl
theorem zl_X9_179 : Cond.methodLink RX9 179 yX9_whyNot ∈ zG := z_t4 10 rfl rfl
theorem zl_X9_140 : Cond.methodLink RX9 140 yX9_aboveMany ∈ zG := z_t4 14 rfl rfl
theorem zl_X9_137 : Cond.methodLink RX9 137 yX9_isAbove ∈ zG := z_t4 18 rfl rfl
theorem zl_X9_182 : Cond.methodLink RX9 182 yX9_happen ∈ zG := z_t4 22 rfl rfl
theorem zl_X9_164 : Cond.methodLink RX9 164 yX9_grow ∈ zG := z_t4 26 rfl rfl
theorem zl_X9_144 : Cond.methodLink RX9 144 yX9_grown ∈ zG := z_t4 30 rfl rfl
theorem zl_X9_167 : Cond.methodLink RX9 167 yX9_blow ∈ zG := z_t4 33 rfl rfl
theorem zl_X9_147 : Cond.methodLink RX9 147 yX9_blowOne ∈ zG := z_t4 37 rfl rfl
theorem zl_X9_170 : Cond.methodLink RX9 170 yX9_fall ∈ zG := z_t4 41 rfl rfl
theorem zl_X9_160 : Cond.methodLink RX9 160 yX9_comeDown ∈ zG := z_t4 45 rfl rfl
theorem zl_X9_199 : Cond.methodLink RX9 199 yX9_back ∈ zG := z_t4 49 rfl rfl
theorem zl_L_52 : Cond.methodLink RL 52 yX9_behind ∈ zG := z_t4 53 rfl rfl
theorem zk_X9_202 : Cond.constantLong RX9 202 (3) ∈ zG := z_t4 57 rfl rfl
theorem zl_X9_204 : Cond.methodLink RX9 204 yX9_ofFlake ∈ zG := z_t4 58 rfl rfl
theorem zl_L_56 : Cond.methodLink RL 56 yX9_stands ∈ zG := z_t4 62 rfl rfl
theorem zl_X9_207 : Cond.methodLink RX9 207 yX9_flakesOf ∈ zG := z_t4 66 rfl rfl
theorem zl_L_60 : Cond.methodLink RL 60 yX9_posted ∈ zG := z_t4 70 rfl rfl
theorem zl_X9_210 : Cond.methodLink RX9 210 yX9_postedNow ∈ zG := z_t4 74 rfl rfl
theorem zl_X9_213 : Cond.methodLink RX9 213 yX9_riverNow ∈ zG := z_t4 78 rfl rfl
theorem zl_L_64 : Cond.methodLink RL 64 yX9_done ∈ zG := z_t4 82 rfl rfl
theorem zl_L_68 : Cond.methodLink RL 68 yX9_says ∈ zG := z_t4 86 rfl rfl
theorem zl_L_73 : Cond.methodLink RL 73 yX9_grew ∈ zG := z_t4 90 rfl rfl
theorem zk_X9_216 : Cond.constantLong RX9 216 (10) ∈ zG := z_t4 94 rfl rfl
theorem zk_X9_218 : Cond.constantLong RX9 218 (-2) ∈ zG := z_t4 95 rfl rfl
theorem zl_X9_220 : Cond.methodLink RX9 220 yX9_findWays ∈ zG := z_t4 96 rfl rfl
theorem zk_X9_223 : Cond.constantLong RX9 223 (-6) ∈ zG := z_t4 100 rfl rfl
theorem zl_X9_225 : Cond.methodLink RX9 225 yX9_firstAirs ∈ zG := z_t4 101 rfl rfl
theorem zl_L_77 : Cond.methodLink RL 77 yX9_soon ∈ zG := z_t4 105 rfl rfl
theorem zl_X9_229 : Cond.methodLink RX9 229 yX9_findOff ∈ zG := z_t4 109 rfl rfl
theorem zl_L_81 : Cond.methodLink RL 81 yX9_most ∈ zG := z_t4 113 rfl rfl
theorem zl_X9_236 : Cond.methodLink RX9 236 yX9_canGetOwn ∈ zG := z_t4 117 rfl rfl
theorem zl_X9_232 : Cond.methodLink RX9 232 yX9_canGet ∈ zG := z_t4 121 rfl rfl
theorem zl_X9_239 : Cond.methodLink RX9 239 yX9_addFlake ∈ zG := z_t4 125 rfl rfl
theorem zl_L_85 : Cond.methodLink RL 85 yX9_patch ∈ zG := z_t4 129 rfl rfl
theorem zl_X9_242 : Cond.methodLink RX9 242 yX9_isFree ∈ zG := z_t4 133 rfl rfl
theorem zl_L_89 : Cond.methodLink RL 89 yX9_seen ∈ zG := z_t4 137 rfl rfl
theorem zl_L_93 : Cond.methodLink RL 93 yX9_forget ∈ zG := z_t4 141 rfl rfl
theorem zl_L_97 : Cond.methodLink RL 97 yX9_laws ∈ zG := z_t4 145 rfl rfl
theorem zl_X9_248 : Cond.methodLink RX9 248 yX9_fits ∈ zG := z_t4 149 rfl rfl
theorem zl_L_101 : Cond.methodLink RL 101 yX9_look ∈ zG := z_t4 153 rfl rfl
theorem zl_X9_251 : Cond.methodLink RX9 251 yX9_mostLeft ∈ zG := z_t4 157 rfl rfl
theorem zl_L_106 : Cond.methodLink RL 106 yX9_gusts ∈ zG := z_t4 161 rfl rfl
theorem zl_X9_258 : Cond.methodLink RX9 258 yX9_areGusts ∈ zG := z_t4 165 rfl rfl
theorem zk_X9_254 : Cond.constantLong RX9 254 (6) ∈ zG := z_t4 168 rfl rfl
theorem zk_X9_256 : Cond.constantLong RX9 256 (-1) ∈ zG := z_t4 169 rfl rfl
theorem zk_X9_262 : Cond.constantLong RX9 262 (-1000000000000000002) ∈ zG := z_t4 170 rfl rfl
theorem zl_X9_264 : Cond.methodLink RX9 264 yX9_gust ∈ zG := z_t4 171 rfl rfl
theorem zl_X9_267 : Cond.methodLink RX9 267 yX9_lowest ∈ zG := z_t4 175 rfl rfl
theorem zl_L_110 : Cond.methodLink RL 110 yX9_spoon ∈ zG := z_t4 178 rfl rfl
theorem zk_X9_271 : Cond.constantLong RX9 271 (60) ∈ zG := z_t4 182 rfl rfl
theorem zl_X9_273 : Cond.methodLink RX9 273 yX9_bestTake ∈ zG := z_t4 183 rfl rfl
theorem zl_L_115 : Cond.methodLink RL 115 yX9_year ∈ zG := z_t4 187 rfl rfl
theorem zk_X9_276 : Cond.constantLong RX9 276 (9999) ∈ zG := z_t4 191 rfl rfl
theorem zk_X9_278 : Cond.constantLong RX9 278 (99) ∈ zG := z_t4 192 rfl rfl
theorem zk_X9_280 : Cond.constantLong RX9 280 (75) ∈ zG := z_t4 193 rfl rfl
theorem zk_X9_282 : Cond.constantLong RX9 282 (74) ∈ zG := z_t4 194 rfl rfl
theorem zk_X9_284 : Cond.constantLong RX9 284 (65537) ∈ zG := z_t4 195 rfl rfl
theorem zl_L_119 : Cond.methodLink RL 119 yX9_image ∈ zG := z_t4 196 rfl rfl
theorem zl_X9_300 : Cond.methodLink RX9 300 yX9_passAll ∈ zG := z_t4 200 rfl rfl
theorem zl_X9_293 : Cond.methodLink RX9 293 yX9_pass ∈ zG := z_t4 204 rfl rfl
theorem zl_X9_296 : Cond.methodLink RX9 296 yX9_passRow ∈ zG := z_t4 208 rfl rfl
theorem zl_L_123 : Cond.methodLink RL 123 yX9_restore ∈ zG := z_t4 212 rfl rfl
theorem zl_L_127 : Cond.methodLink RL 127 yX9_told ∈ zG := z_t4 216 rfl rfl
theorem zk_X9_303 : Cond.constantLong RX9 303 (100) ∈ zG := z_t4 220 rfl rfl
theorem zk_X9_305 : Cond.constantLong RX9 305 (159) ∈ zG := z_t4 221 rfl rfl
theorem zk_X9_307 : Cond.constantLong RX9 307 (89) ∈ zG := z_t4 222 rfl rfl
theorem zl_X9_309 : Cond.methodLink RX9 309 yX9_toldOf ∈ zG := z_t4 223 rfl rfl
theorem zw_native : Cond.native arraycopyName ∈ zG := z_t2 61 rfl rfl
theorem zw_nstat : Cond.static arraycopyName ∈ zG := z_t2 60 rfl rfl
theorem zw_nini : Cond.initialized "java/lang/System" ∈ zG := z_t1 10 rfl rfl
theorem zw_oi : Cond.instanceMethod objectInit ∈ zG := z_t1 21 rfl rfl
theorem zw_oc : Cond.code objectInit ⟨#[0xb1]⟩ 1 none ∈ zG := z_t1 22 rfl rfl
theorem zw_acint : Cond.arrayClass .int ∈ zG := z_t1 86 rfl rfl
theorem zw_aclong : Cond.arrayClass .long ∈ zG := z_t3 169 rfl rfl
theorem zw_acboolean : Cond.arrayClass .boolean ∈ zG := z_t3 170 rfl rfl
def zN : List Cond := [Cond.methodLinkNest RX8 9 yX7_init RX8,
  Cond.fieldLinkNest RX8 67 "FlakePost$Yard" "there" "I" RX8,
  Cond.fieldLinkNest RX8 122 "FlakePost$Yard" "arm" "[I" RX8,
  Cond.fieldLinkNest RX1 18 "FlakePost$Yard" "place" "[I" RX8,
  Cond.fieldLinkNest RX8 125 "FlakePost$Yard" "place" "[I" RX8,
  Cond.fieldLinkNest RX1 9 "FlakePost$Yard" "height" "[I" RX8,
  Cond.fieldLinkNest RX8 128 "FlakePost$Yard" "height" "[I" RX8,
  Cond.fieldLinkNest RX1 27 "FlakePost$Yard" "addressee" "[I" RX8,
  Cond.fieldLinkNest RX8 233 "FlakePost$Yard" "addressee" "[I" RX8,
  Cond.fieldLinkNest RX8 131 "FlakePost$Yard" "with" "[I" RX8,
  Cond.fieldLinkNest RX1 15 "FlakePost$Yard" "standing" "[I" RX8,
  Cond.fieldLinkNest RX8 84 "FlakePost$Yard" "standing" "[I" RX8,
  Cond.fieldLinkNest RX8 88 "FlakePost$Yard" "umbrellas" "I" RX8,
  Cond.fieldLinkNest RX8 91 "FlakePost$Yard" "coldLaw" "I" RX8,
  Cond.fieldLinkNest RX8 94 "FlakePost$Yard" "dampLaw" "I" RX8,
  Cond.fieldLinkNest RX8 188 "FlakePost$Yard" "sights" "I" RX8,
  Cond.fieldLinkNest RX8 195 "FlakePost$Yard" "lawHas" "I" RX8,
  Cond.fieldLinkNest RX8 198 "FlakePost$Yard" "lawLacks" "I" RX8,
  Cond.methodLinkNest RX8 26 yX5_init RX8,
  Cond.fieldLinkNest RX8 100 "FlakePost$Pad" "count" "I" RX8,
  Cond.fieldLinkNest RX2 40 "FlakePost$Pad" "kinds" "[I" RX8,
  Cond.fieldLinkNest RX2 44 "FlakePost$Pad" "ones" "[I" RX8,
  Cond.fieldLinkNest RX2 35 "FlakePost$Pad" "acts" "I" RX8,
  Cond.fieldLinkNest RX8 154 "FlakePost$Pad" "acts" "I" RX8,
  Cond.methodLinkNest RX8 33 yX2_init RX8,
  Cond.methodLinkNest RX2 11 yX7_init RX8,
  Cond.fieldLinkNest RX8 119 "FlakePost$Day" "after" "LFlakePost$Yard;" RX8,
  Cond.fieldLinkNest RX8 110 "FlakePost$Day" "badAct" "I" RX8,
  Cond.fieldLinkNest RX8 113 "FlakePost$Day" "badWhy" "I" RX8,
  Cond.fieldLinkNest RX8 144 "FlakePost$Day" "firstDelivery" "I" RX8,
  Cond.methodLinkNest RX8 40 yX0_init RX8,
  Cond.methodLinkNest RX8 47 yX4_init RX8,
  Cond.methodLinkNest RX8 54 yX6_init RX8,
  Cond.methodLinkNest RX6 19 yX8_bit RX8,
  Cond.methodLinkNest RX8 63 yX7_putFlake RX8,
  Cond.methodLinkNest RX8 76 yX7_has RX8,
  Cond.methodLinkNest RX7 58 yX8_isBelow RX8,
  Cond.methodLinkNest RX7 62 yX8_bit RX8,
  Cond.methodLinkNest RX8 80 yX7_removeFlake RX8,
  Cond.methodLinkNest RX8 97 yX5_add RX8,
  Cond.methodLinkNest RX8 103 yX5_readActs RX8,
  Cond.methodLinkNest RX8 236 yX2_live RX8,
  Cond.methodLinkNest RX2 59 yX7_copy RX8,
  Cond.methodLinkNest RX2 62 yX7_down RX8,
  Cond.methodLinkNest RX2 47 yX7_whyNot RX8,
  Cond.methodLinkNest RX2 51 yX7_delivered RX8,
  Cond.methodLinkNest RX2 55 yX7_carryOut RX8,
  Cond.methodLinkNest RX7 90 yX3_grown RX8,
  Cond.methodLinkNest RX3 15 yX8_bit RX8,
  Cond.methodLinkNest RX8 116 yX2_cameDown RX8,
  Cond.methodLinkNest RX8 138 yX7_flakesWith RX8,
  Cond.methodLinkNest RX8 141 yX7_delivered RX8,
  Cond.methodLinkNest RX8 147 yX7_inRiver RX8,
  Cond.methodLinkNest RX8 150 yX7_copy RX8,
  Cond.methodLinkNest RX8 157 yX3_readAloud RX8,
  Cond.methodLinkNest RX8 164 yX3_rows RX8,
  Cond.methodLinkNest RX8 168 yX3_firstRow RX8,
  Cond.methodLinkNest RX8 172 yX0_fewestAirs RX8,
  Cond.methodLinkNest RX0 32 yX3_grown RX8,
  Cond.methodLinkNest RX8 176 yX1_byAddressees RX8,
  Cond.methodLinkNest RX8 182 yX1_byWhoever RX8,
  Cond.methodLinkNest RX1 49 yX8_bit RX8,
  Cond.methodLinkNest RX8 185 yX7_trodden RX8,
  Cond.methodLinkNest RX8 191 yX7_addSight RX8,
  Cond.methodLinkNest RX7 102 yX3_around RX8,
  Cond.methodLinkNest RX8 201 yX7_fits RX8,
  Cond.methodLinkNest RX8 204 yX7_lawsLeftBy RX8,
  Cond.methodLinkNest RX8 209 yX4_fall RX8,
  Cond.methodLinkNest RX8 213 yX4_chance RX8,
  Cond.methodLinkNest RX8 217 yX6_winningTake RX8,
  Cond.methodLinkNest RX8 220 yX2_dreamYear RX8,
  Cond.methodLinkNest RX8 224 yX7_falling RX8]
theorem zn_X8_9 : Cond.methodLinkNest RX8 9 yX7_init RX8 ∈ zN := List.mem_of_getElem? (i := 0) rfl
theorem zn_X8_67 : Cond.fieldLinkNest RX8 67 "FlakePost$Yard" "there" "I" RX8 ∈ zN := List.mem_of_getElem? (i := 1) rfl
theorem zn_X8_122 : Cond.fieldLinkNest RX8 122 "FlakePost$Yard" "arm" "[I" RX8 ∈ zN := List.mem_of_getElem? (i := 2) rfl
theorem zn_X1_18 : Cond.fieldLinkNest RX1 18 "FlakePost$Yard" "place" "[I" RX8 ∈ zN := List.mem_of_getElem? (i := 3) rfl
theorem zn_X8_125 : Cond.fieldLinkNest RX8 125 "FlakePost$Yard" "place" "[I" RX8 ∈ zN := List.mem_of_getElem? (i := 4) rfl
theorem zn_X1_9 : Cond.fieldLinkNest RX1 9 "FlakePost$Yard" "height" "[I" RX8 ∈ zN := List.mem_of_getElem? (i := 5) rfl
theorem zn_X8_128 : Cond.fieldLinkNest RX8 128 "FlakePost$Yard" "height" "[I" RX8 ∈ zN := List.mem_of_getElem? (i := 6) rfl
theorem zn_X1_27 : Cond.fieldLinkNest RX1 27 "FlakePost$Yard" "addressee" "[I" RX8 ∈ zN := List.mem_of_getElem? (i := 7) rfl
theorem zn_X8_233 : Cond.fieldLinkNest RX8 233 "FlakePost$Yard" "addressee" "[I" RX8 ∈ zN := List.mem_of_getElem? (i := 8) rfl
theorem zn_X8_131 : Cond.fieldLinkNest RX8 131 "FlakePost$Yard" "with" "[I" RX8 ∈ zN := List.mem_of_getElem? (i := 9) rfl
theorem zn_X1_15 : Cond.fieldLinkNest RX1 15 "FlakePost$Yard" "standing" "[I" RX8 ∈ zN := List.mem_of_getElem? (i := 10) rfl
theorem zn_X8_84 : Cond.fieldLinkNest RX8 84 "FlakePost$Yard" "standing" "[I" RX8 ∈ zN := List.mem_of_getElem? (i := 11) rfl
theorem zn_X8_88 : Cond.fieldLinkNest RX8 88 "FlakePost$Yard" "umbrellas" "I" RX8 ∈ zN := List.mem_of_getElem? (i := 12) rfl
theorem zn_X8_91 : Cond.fieldLinkNest RX8 91 "FlakePost$Yard" "coldLaw" "I" RX8 ∈ zN := List.mem_of_getElem? (i := 13) rfl
theorem zn_X8_94 : Cond.fieldLinkNest RX8 94 "FlakePost$Yard" "dampLaw" "I" RX8 ∈ zN := List.mem_of_getElem? (i := 14) rfl
theorem zn_X8_188 : Cond.fieldLinkNest RX8 188 "FlakePost$Yard" "sights" "I" RX8 ∈ zN := List.mem_of_getElem? (i := 15) rfl
theorem zn_X8_195 : Cond.fieldLinkNest RX8 195 "FlakePost$Yard" "lawHas" "I" RX8 ∈ zN := List.mem_of_getElem? (i := 16) rfl
theorem zn_X8_198 : Cond.fieldLinkNest RX8 198 "FlakePost$Yard" "lawLacks" "I" RX8 ∈ zN := List.mem_of_getElem? (i := 17) rfl
theorem zn_X8_26 : Cond.methodLinkNest RX8 26 yX5_init RX8 ∈ zN := List.mem_of_getElem? (i := 18) rfl
theorem zn_X8_100 : Cond.fieldLinkNest RX8 100 "FlakePost$Pad" "count" "I" RX8 ∈ zN := List.mem_of_getElem? (i := 19) rfl
theorem zn_X2_40 : Cond.fieldLinkNest RX2 40 "FlakePost$Pad" "kinds" "[I" RX8 ∈ zN := List.mem_of_getElem? (i := 20) rfl
theorem zn_X2_44 : Cond.fieldLinkNest RX2 44 "FlakePost$Pad" "ones" "[I" RX8 ∈ zN := List.mem_of_getElem? (i := 21) rfl
theorem zn_X2_35 : Cond.fieldLinkNest RX2 35 "FlakePost$Pad" "acts" "I" RX8 ∈ zN := List.mem_of_getElem? (i := 22) rfl
theorem zn_X8_154 : Cond.fieldLinkNest RX8 154 "FlakePost$Pad" "acts" "I" RX8 ∈ zN := List.mem_of_getElem? (i := 23) rfl
theorem zn_X8_33 : Cond.methodLinkNest RX8 33 yX2_init RX8 ∈ zN := List.mem_of_getElem? (i := 24) rfl
theorem zn_X2_11 : Cond.methodLinkNest RX2 11 yX7_init RX8 ∈ zN := List.mem_of_getElem? (i := 25) rfl
theorem zn_X8_119 : Cond.fieldLinkNest RX8 119 "FlakePost$Day" "after" "LFlakePost$Yard;" RX8 ∈ zN := List.mem_of_getElem? (i := 26) rfl
theorem zn_X8_110 : Cond.fieldLinkNest RX8 110 "FlakePost$Day" "badAct" "I" RX8 ∈ zN := List.mem_of_getElem? (i := 27) rfl
theorem zn_X8_113 : Cond.fieldLinkNest RX8 113 "FlakePost$Day" "badWhy" "I" RX8 ∈ zN := List.mem_of_getElem? (i := 28) rfl
theorem zn_X8_144 : Cond.fieldLinkNest RX8 144 "FlakePost$Day" "firstDelivery" "I" RX8 ∈ zN := List.mem_of_getElem? (i := 29) rfl
theorem zn_X8_40 : Cond.methodLinkNest RX8 40 yX0_init RX8 ∈ zN := List.mem_of_getElem? (i := 30) rfl
theorem zn_X8_47 : Cond.methodLinkNest RX8 47 yX4_init RX8 ∈ zN := List.mem_of_getElem? (i := 31) rfl
theorem zn_X8_54 : Cond.methodLinkNest RX8 54 yX6_init RX8 ∈ zN := List.mem_of_getElem? (i := 32) rfl
theorem zn_X6_19 : Cond.methodLinkNest RX6 19 yX8_bit RX8 ∈ zN := List.mem_of_getElem? (i := 33) rfl
theorem zn_X8_63 : Cond.methodLinkNest RX8 63 yX7_putFlake RX8 ∈ zN := List.mem_of_getElem? (i := 34) rfl
theorem zn_X8_76 : Cond.methodLinkNest RX8 76 yX7_has RX8 ∈ zN := List.mem_of_getElem? (i := 35) rfl
theorem zn_X7_58 : Cond.methodLinkNest RX7 58 yX8_isBelow RX8 ∈ zN := List.mem_of_getElem? (i := 36) rfl
theorem zn_X7_62 : Cond.methodLinkNest RX7 62 yX8_bit RX8 ∈ zN := List.mem_of_getElem? (i := 37) rfl
theorem zn_X8_80 : Cond.methodLinkNest RX8 80 yX7_removeFlake RX8 ∈ zN := List.mem_of_getElem? (i := 38) rfl
theorem zn_X8_97 : Cond.methodLinkNest RX8 97 yX5_add RX8 ∈ zN := List.mem_of_getElem? (i := 39) rfl
theorem zn_X8_103 : Cond.methodLinkNest RX8 103 yX5_readActs RX8 ∈ zN := List.mem_of_getElem? (i := 40) rfl
theorem zn_X8_236 : Cond.methodLinkNest RX8 236 yX2_live RX8 ∈ zN := List.mem_of_getElem? (i := 41) rfl
theorem zn_X2_59 : Cond.methodLinkNest RX2 59 yX7_copy RX8 ∈ zN := List.mem_of_getElem? (i := 42) rfl
theorem zn_X2_62 : Cond.methodLinkNest RX2 62 yX7_down RX8 ∈ zN := List.mem_of_getElem? (i := 43) rfl
theorem zn_X2_47 : Cond.methodLinkNest RX2 47 yX7_whyNot RX8 ∈ zN := List.mem_of_getElem? (i := 44) rfl
theorem zn_X2_51 : Cond.methodLinkNest RX2 51 yX7_delivered RX8 ∈ zN := List.mem_of_getElem? (i := 45) rfl
theorem zn_X2_55 : Cond.methodLinkNest RX2 55 yX7_carryOut RX8 ∈ zN := List.mem_of_getElem? (i := 46) rfl
theorem zn_X7_90 : Cond.methodLinkNest RX7 90 yX3_grown RX8 ∈ zN := List.mem_of_getElem? (i := 47) rfl
theorem zn_X3_15 : Cond.methodLinkNest RX3 15 yX8_bit RX8 ∈ zN := List.mem_of_getElem? (i := 48) rfl
theorem zn_X8_116 : Cond.methodLinkNest RX8 116 yX2_cameDown RX8 ∈ zN := List.mem_of_getElem? (i := 49) rfl
theorem zn_X8_138 : Cond.methodLinkNest RX8 138 yX7_flakesWith RX8 ∈ zN := List.mem_of_getElem? (i := 50) rfl
theorem zn_X8_141 : Cond.methodLinkNest RX8 141 yX7_delivered RX8 ∈ zN := List.mem_of_getElem? (i := 51) rfl
theorem zn_X8_147 : Cond.methodLinkNest RX8 147 yX7_inRiver RX8 ∈ zN := List.mem_of_getElem? (i := 52) rfl
theorem zn_X8_150 : Cond.methodLinkNest RX8 150 yX7_copy RX8 ∈ zN := List.mem_of_getElem? (i := 53) rfl
theorem zn_X8_157 : Cond.methodLinkNest RX8 157 yX3_readAloud RX8 ∈ zN := List.mem_of_getElem? (i := 54) rfl
theorem zn_X8_164 : Cond.methodLinkNest RX8 164 yX3_rows RX8 ∈ zN := List.mem_of_getElem? (i := 55) rfl
theorem zn_X8_168 : Cond.methodLinkNest RX8 168 yX3_firstRow RX8 ∈ zN := List.mem_of_getElem? (i := 56) rfl
theorem zn_X8_172 : Cond.methodLinkNest RX8 172 yX0_fewestAirs RX8 ∈ zN := List.mem_of_getElem? (i := 57) rfl
theorem zn_X0_32 : Cond.methodLinkNest RX0 32 yX3_grown RX8 ∈ zN := List.mem_of_getElem? (i := 58) rfl
theorem zn_X8_176 : Cond.methodLinkNest RX8 176 yX1_byAddressees RX8 ∈ zN := List.mem_of_getElem? (i := 59) rfl
theorem zn_X8_182 : Cond.methodLinkNest RX8 182 yX1_byWhoever RX8 ∈ zN := List.mem_of_getElem? (i := 60) rfl
theorem zn_X1_49 : Cond.methodLinkNest RX1 49 yX8_bit RX8 ∈ zN := List.mem_of_getElem? (i := 61) rfl
theorem zn_X8_185 : Cond.methodLinkNest RX8 185 yX7_trodden RX8 ∈ zN := List.mem_of_getElem? (i := 62) rfl
theorem zn_X8_191 : Cond.methodLinkNest RX8 191 yX7_addSight RX8 ∈ zN := List.mem_of_getElem? (i := 63) rfl
theorem zn_X7_102 : Cond.methodLinkNest RX7 102 yX3_around RX8 ∈ zN := List.mem_of_getElem? (i := 64) rfl
theorem zn_X8_201 : Cond.methodLinkNest RX8 201 yX7_fits RX8 ∈ zN := List.mem_of_getElem? (i := 65) rfl
theorem zn_X8_204 : Cond.methodLinkNest RX8 204 yX7_lawsLeftBy RX8 ∈ zN := List.mem_of_getElem? (i := 66) rfl
theorem zn_X8_209 : Cond.methodLinkNest RX8 209 yX4_fall RX8 ∈ zN := List.mem_of_getElem? (i := 67) rfl
theorem zn_X8_213 : Cond.methodLinkNest RX8 213 yX4_chance RX8 ∈ zN := List.mem_of_getElem? (i := 68) rfl
theorem zn_X8_217 : Cond.methodLinkNest RX8 217 yX6_winningTake RX8 ∈ zN := List.mem_of_getElem? (i := 69) rfl
theorem zn_X8_220 : Cond.methodLinkNest RX8 220 yX2_dreamYear RX8 ∈ zN := List.mem_of_getElem? (i := 70) rfl
theorem zn_X8_224 : Cond.methodLinkNest RX8 224 yX7_falling RX8 ∈ zN := List.mem_of_getElem? (i := 71) rfl
theorem zN_in : ∀ w ∈ zN, w ∈ tables_1 := by
  intro w hw
  obtain ⟨i, hi⟩ := List.getElem?_of_mem hw
  have hlt : i < 72 := (List.getElem?_eq_some_iff.mp hi).1
  have key : ∀ (i : Nat) (w : Cond), i < 72 → zN[i]? = some w → w ∈ tables_1 := by
    intro i w hlt hi
    match i, hlt, hi with
    | 0, _, hi => cases hi; exact List.mem_append_left _ (List.mem_of_getElem? (i := 25) rfl)
    | 1, _, hi => cases hi; exact List.mem_append_left _ (List.mem_of_getElem? (i := 30) rfl)
    | 2, _, hi => cases hi; exact List.mem_append_left _ (List.mem_of_getElem? (i := 32) rfl)
    | 3, _, hi => cases hi; exact List.mem_append_left _ (List.mem_of_getElem? (i := 34) rfl)
    | 4, _, hi => cases hi; exact List.mem_append_left _ (List.mem_of_getElem? (i := 35) rfl)
    | 5, _, hi => cases hi; exact List.mem_append_left _ (List.mem_of_getElem? (i := 37) rfl)
    | 6, _, hi => cases hi; exact List.mem_append_left _ (List.mem_of_getElem? (i := 38) rfl)
    | 7, _, hi => cases hi; exact List.mem_append_left _ (List.mem_of_getElem? (i := 40) rfl)
    | 8, _, hi => cases hi; exact List.mem_append_left _ (List.mem_of_getElem? (i := 41) rfl)
    | 9, _, hi => cases hi; exact List.mem_append_left _ (List.mem_of_getElem? (i := 43) rfl)
    | 10, _, hi => cases hi; exact List.mem_append_left _ (List.mem_of_getElem? (i := 45) rfl)
    | 11, _, hi => cases hi; exact List.mem_append_left _ (List.mem_of_getElem? (i := 46) rfl)
    | 12, _, hi => cases hi; exact List.mem_append_left _ (List.mem_of_getElem? (i := 48) rfl)
    | 13, _, hi => cases hi; exact List.mem_append_left _ (List.mem_of_getElem? (i := 50) rfl)
    | 14, _, hi => cases hi; exact List.mem_append_left _ (List.mem_of_getElem? (i := 52) rfl)
    | 15, _, hi => cases hi; exact List.mem_append_left _ (List.mem_of_getElem? (i := 54) rfl)
    | 16, _, hi => cases hi; exact List.mem_append_left _ (List.mem_of_getElem? (i := 56) rfl)
    | 17, _, hi => cases hi; exact List.mem_append_left _ (List.mem_of_getElem? (i := 58) rfl)
    | 18, _, hi => cases hi; exact List.mem_append_left _ (List.mem_of_getElem? (i := 90) rfl)
    | 19, _, hi => cases hi; exact List.mem_append_left _ (List.mem_of_getElem? (i := 96) rfl)
    | 20, _, hi => cases hi; exact List.mem_append_left _ (List.mem_of_getElem? (i := 98) rfl)
    | 21, _, hi => cases hi; exact List.mem_append_left _ (List.mem_of_getElem? (i := 100) rfl)
    | 22, _, hi => cases hi; exact List.mem_append_left _ (List.mem_of_getElem? (i := 102) rfl)
    | 23, _, hi => cases hi; exact List.mem_append_left _ (List.mem_of_getElem? (i := 103) rfl)
    | 24, _, hi => cases hi; exact List.mem_append_left _ (List.mem_of_getElem? (i := 117) rfl)
    | 25, _, hi => cases hi; exact List.mem_append_left _ (List.mem_of_getElem? (i := 122) rfl)
    | 26, _, hi => cases hi; exact List.mem_append_left _ (List.mem_of_getElem? (i := 124) rfl)
    | 27, _, hi => cases hi; exact List.mem_append_left _ (List.mem_of_getElem? (i := 126) rfl)
    | 28, _, hi => cases hi; exact List.mem_append_left _ (List.mem_of_getElem? (i := 128) rfl)
    | 29, _, hi => cases hi; exact List.mem_append_left _ (List.mem_of_getElem? (i := 130) rfl)
    | 30, _, hi => cases hi; exact List.mem_append_left _ (List.mem_of_getElem? (i := 145) rfl)
    | 31, _, hi => cases hi; exact List.mem_append_left _ (List.mem_of_getElem? (i := 161) rfl)
    | 32, _, hi => cases hi; exact List.mem_append_left _ (List.mem_of_getElem? (i := 171) rfl)
    | 33, _, hi => cases hi; exact List.mem_append_left _ (List.mem_of_getElem? (i := 179) rfl)
    | 34, _, hi => cases hi; exact List.mem_append_left _ (List.mem_of_getElem? (i := 218) rfl)
    | 35, _, hi => cases hi; exact List.mem_append_left _ (List.mem_of_getElem? (i := 232) rfl)
    | 36, _, hi => cases hi; exact List.mem_append_left _ (List.mem_of_getElem? (i := 236) rfl)
    | 37, _, hi => cases hi; exact List.mem_append_left _ (List.mem_of_getElem? (i := 237) rfl)
    | 38, _, hi => cases hi; exact List.mem_append_left _ (List.mem_of_getElem? (i := 238) rfl)
    | 39, _, hi => cases hi; exact List.mem_append_right _ (List.mem_append_left _ (List.mem_of_getElem? (i := 14) rfl))
    | 40, _, hi => cases hi; exact List.mem_append_right _ (List.mem_append_left _ (List.mem_of_getElem? (i := 26) rfl))
    | 41, _, hi => cases hi; exact List.mem_append_right _ (List.mem_append_left _ (List.mem_of_getElem? (i := 47) rfl))
    | 42, _, hi => cases hi; exact List.mem_append_right _ (List.mem_append_left _ (List.mem_of_getElem? (i := 55) rfl))
    | 43, _, hi => cases hi; exact List.mem_append_right _ (List.mem_append_left _ (List.mem_of_getElem? (i := 62) rfl))
    | 44, _, hi => cases hi; exact List.mem_append_right _ (List.mem_append_left _ (List.mem_of_getElem? (i := 74) rfl))
    | 45, _, hi => cases hi; exact List.mem_append_right _ (List.mem_append_left _ (List.mem_of_getElem? (i := 78) rfl))
    | 46, _, hi => cases hi; exact List.mem_append_right _ (List.mem_append_left _ (List.mem_of_getElem? (i := 82) rfl))
    | 47, _, hi => cases hi; exact List.mem_append_right _ (List.mem_append_left _ (List.mem_of_getElem? (i := 90) rfl))
    | 48, _, hi => cases hi; exact List.mem_append_right _ (List.mem_append_left _ (List.mem_of_getElem? (i := 96) rfl))
    | 49, _, hi => cases hi; exact List.mem_append_right _ (List.mem_append_left _ (List.mem_of_getElem? (i := 113) rfl))
    | 50, _, hi => cases hi; exact List.mem_append_right _ (List.mem_append_left _ (List.mem_of_getElem? (i := 127) rfl))
    | 51, _, hi => cases hi; exact List.mem_append_right _ (List.mem_append_left _ (List.mem_of_getElem? (i := 135) rfl))
    | 52, _, hi => cases hi; exact List.mem_append_right _ (List.mem_append_left _ (List.mem_of_getElem? (i := 136) rfl))
    | 53, _, hi => cases hi; exact List.mem_append_right _ (List.mem_append_left _ (List.mem_of_getElem? (i := 141) rfl))
    | 54, _, hi => cases hi; exact List.mem_append_right _ (List.mem_append_left _ (List.mem_of_getElem? (i := 146) rfl))
    | 55, _, hi => cases hi; exact List.mem_append_right _ (List.mem_append_left _ (List.mem_of_getElem? (i := 154) rfl))
    | 56, _, hi => cases hi; exact List.mem_append_right _ (List.mem_append_left _ (List.mem_of_getElem? (i := 159) rfl))
    | 57, _, hi => cases hi; exact List.mem_append_right _ (List.mem_append_left _ (List.mem_of_getElem? (i := 168) rfl))
    | 58, _, hi => cases hi; exact List.mem_append_right _ (List.mem_append_left _ (List.mem_of_getElem? (i := 179) rfl))
    | 59, _, hi => cases hi; exact List.mem_append_right _ (List.mem_append_left _ (List.mem_of_getElem? (i := 184) rfl))
    | 60, _, hi => cases hi; exact List.mem_append_right _ (List.mem_append_left _ (List.mem_of_getElem? (i := 194) rfl))
    | 61, _, hi => cases hi; exact List.mem_append_right _ (List.mem_append_left _ (List.mem_of_getElem? (i := 200) rfl))
    | 62, _, hi => cases hi; exact List.mem_append_right _ (List.mem_append_left _ (List.mem_of_getElem? (i := 208) rfl))
    | 63, _, hi => cases hi; exact List.mem_append_right _ (List.mem_append_left _ (List.mem_of_getElem? (i := 218) rfl))
    | 64, _, hi => cases hi; exact List.mem_append_right _ (List.mem_append_left _ (List.mem_of_getElem? (i := 222) rfl))
    | 65, _, hi => cases hi; exact List.mem_append_right _ (List.mem_append_left _ (List.mem_of_getElem? (i := 231) rfl))
    | 66, _, hi => cases hi; exact List.mem_append_right _ (List.mem_append_left _ (List.mem_of_getElem? (i := 239) rfl))
    | 67, _, hi => cases hi; exact List.mem_append_right _ (List.mem_append_right _ (List.mem_append_left _ (List.mem_of_getElem? (i := 9) rfl)))
    | 68, _, hi => cases hi; exact List.mem_append_right _ (List.mem_append_right _ (List.mem_append_left _ (List.mem_of_getElem? (i := 14) rfl)))
    | 69, _, hi => cases hi; exact List.mem_append_right _ (List.mem_append_right _ (List.mem_append_left _ (List.mem_of_getElem? (i := 26) rfl)))
    | 70, _, hi => cases hi; exact List.mem_append_right _ (List.mem_append_right _ (List.mem_append_left _ (List.mem_of_getElem? (i := 31) rfl)))
    | 71, _, hi => cases hi; exact List.mem_append_right _ (List.mem_append_right _ (List.mem_append_left _ (List.mem_of_getElem? (i := 36) rfl)))
    | _ + 72, hlt, _ => exact absurd hlt (by omega)
  exact key i w hlt hi
theorem zN_nest : ∀ w ∈ zN, (∃ a i b n d h, w = Cond.fieldLinkNest a i b n d h) ∨ ∃ a i x h, w = Cond.methodLinkNest a i x h := by
  intro w hw
  simp only [zN, List.mem_cons, List.not_mem_nil, or_false] at hw
  rcases hw with rfl | rfl | rfl | rfl | rfl | rfl | rfl | rfl | rfl | rfl | rfl | rfl | rfl | rfl | rfl | rfl | rfl | rfl | rfl | rfl | rfl | rfl | rfl | rfl | rfl | rfl | rfl | rfl | rfl | rfl | rfl | rfl | rfl | rfl | rfl | rfl | rfl | rfl | rfl | rfl | rfl | rfl | rfl | rfl | rfl | rfl | rfl | rfl | rfl | rfl | rfl | rfl | rfl | rfl | rfl | rfl | rfl | rfl | rfl | rfl | rfl | rfl | rfl | rfl | rfl | rfl | rfl | rfl | rfl | rfl | rfl | rfl
  · exact Or.inr ⟨_, _, _, _, rfl⟩
  · exact Or.inl ⟨_, _, _, _, _, _, rfl⟩
  · exact Or.inl ⟨_, _, _, _, _, _, rfl⟩
  · exact Or.inl ⟨_, _, _, _, _, _, rfl⟩
  · exact Or.inl ⟨_, _, _, _, _, _, rfl⟩
  · exact Or.inl ⟨_, _, _, _, _, _, rfl⟩
  · exact Or.inl ⟨_, _, _, _, _, _, rfl⟩
  · exact Or.inl ⟨_, _, _, _, _, _, rfl⟩
  · exact Or.inl ⟨_, _, _, _, _, _, rfl⟩
  · exact Or.inl ⟨_, _, _, _, _, _, rfl⟩
  · exact Or.inl ⟨_, _, _, _, _, _, rfl⟩
  · exact Or.inl ⟨_, _, _, _, _, _, rfl⟩
  · exact Or.inl ⟨_, _, _, _, _, _, rfl⟩
  · exact Or.inl ⟨_, _, _, _, _, _, rfl⟩
  · exact Or.inl ⟨_, _, _, _, _, _, rfl⟩
  · exact Or.inl ⟨_, _, _, _, _, _, rfl⟩
  · exact Or.inl ⟨_, _, _, _, _, _, rfl⟩
  · exact Or.inl ⟨_, _, _, _, _, _, rfl⟩
  · exact Or.inr ⟨_, _, _, _, rfl⟩
  · exact Or.inl ⟨_, _, _, _, _, _, rfl⟩
  · exact Or.inl ⟨_, _, _, _, _, _, rfl⟩
  · exact Or.inl ⟨_, _, _, _, _, _, rfl⟩
  · exact Or.inl ⟨_, _, _, _, _, _, rfl⟩
  · exact Or.inl ⟨_, _, _, _, _, _, rfl⟩
  · exact Or.inr ⟨_, _, _, _, rfl⟩
  · exact Or.inr ⟨_, _, _, _, rfl⟩
  · exact Or.inl ⟨_, _, _, _, _, _, rfl⟩
  · exact Or.inl ⟨_, _, _, _, _, _, rfl⟩
  · exact Or.inl ⟨_, _, _, _, _, _, rfl⟩
  · exact Or.inl ⟨_, _, _, _, _, _, rfl⟩
  · exact Or.inr ⟨_, _, _, _, rfl⟩
  · exact Or.inr ⟨_, _, _, _, rfl⟩
  · exact Or.inr ⟨_, _, _, _, rfl⟩
  · exact Or.inr ⟨_, _, _, _, rfl⟩
  · exact Or.inr ⟨_, _, _, _, rfl⟩
  · exact Or.inr ⟨_, _, _, _, rfl⟩
  · exact Or.inr ⟨_, _, _, _, rfl⟩
  · exact Or.inr ⟨_, _, _, _, rfl⟩
  · exact Or.inr ⟨_, _, _, _, rfl⟩
  · exact Or.inr ⟨_, _, _, _, rfl⟩
  · exact Or.inr ⟨_, _, _, _, rfl⟩
  · exact Or.inr ⟨_, _, _, _, rfl⟩
  · exact Or.inr ⟨_, _, _, _, rfl⟩
  · exact Or.inr ⟨_, _, _, _, rfl⟩
  · exact Or.inr ⟨_, _, _, _, rfl⟩
  · exact Or.inr ⟨_, _, _, _, rfl⟩
  · exact Or.inr ⟨_, _, _, _, rfl⟩
  · exact Or.inr ⟨_, _, _, _, rfl⟩
  · exact Or.inr ⟨_, _, _, _, rfl⟩
  · exact Or.inr ⟨_, _, _, _, rfl⟩
  · exact Or.inr ⟨_, _, _, _, rfl⟩
  · exact Or.inr ⟨_, _, _, _, rfl⟩
  · exact Or.inr ⟨_, _, _, _, rfl⟩
  · exact Or.inr ⟨_, _, _, _, rfl⟩
  · exact Or.inr ⟨_, _, _, _, rfl⟩
  · exact Or.inr ⟨_, _, _, _, rfl⟩
  · exact Or.inr ⟨_, _, _, _, rfl⟩
  · exact Or.inr ⟨_, _, _, _, rfl⟩
  · exact Or.inr ⟨_, _, _, _, rfl⟩
  · exact Or.inr ⟨_, _, _, _, rfl⟩
  · exact Or.inr ⟨_, _, _, _, rfl⟩
  · exact Or.inr ⟨_, _, _, _, rfl⟩
  · exact Or.inr ⟨_, _, _, _, rfl⟩
  · exact Or.inr ⟨_, _, _, _, rfl⟩
  · exact Or.inr ⟨_, _, _, _, rfl⟩
  · exact Or.inr ⟨_, _, _, _, rfl⟩
  · exact Or.inr ⟨_, _, _, _, rfl⟩
  · exact Or.inr ⟨_, _, _, _, rfl⟩
  · exact Or.inr ⟨_, _, _, _, rfl⟩
  · exact Or.inr ⟨_, _, _, _, rfl⟩
  · exact Or.inr ⟨_, _, _, _, rfl⟩
  · exact Or.inr ⟨_, _, _, _, rfl⟩
theorem zu_X0 : ∀ w ∈ wsX00, w ∈ zG := by
  intro w hw
  obtain ⟨k, hk, rfl⟩ := List.mem_map.mp hw
  have hk := List.mem_range.mp hk
  match k, hk with
  | 0, _ => exact z_t1 152 rfl rfl
  | 1, _ => exact z_t1 154 rfl rfl
  | 2, _ => exact z_t1 156 rfl rfl
  | _ + 3, hk => exact absurd hk (by omega)
theorem zu_X2 : ∀ w ∈ wsX20, w ∈ zG := by
  intro w hw
  obtain ⟨k, hk, rfl⟩ := List.mem_map.mp hw
  have hk := List.mem_range.mp hk
  match k, hk with
  | 0, _ => exact z_t1 132 rfl rfl
  | 1, _ => exact z_t1 134 rfl rfl
  | 2, _ => exact z_t1 136 rfl rfl
  | 3, _ => exact z_t1 138 rfl rfl
  | 4, _ => exact z_t1 140 rfl rfl
  | _ + 5, hk => exact absurd hk (by omega)
theorem zu_X4 : ∀ w ∈ wsX40, w ∈ zG := by
  intro w hw
  obtain ⟨k, hk, rfl⟩ := List.mem_map.mp hw
  have hk := List.mem_range.mp hk
  match k, hk with
  | 0, _ => exact z_t1 166 rfl rfl
  | _ + 1, hk => exact absurd hk (by omega)
theorem zu_X5 : ∀ w ∈ wsX50, w ∈ zG := by
  intro w hw
  obtain ⟨k, hk, rfl⟩ := List.mem_map.mp hw
  have hk := List.mem_range.mp hk
  match k, hk with
  | 0, _ => exact z_t1 104 rfl rfl
  | 1, _ => exact z_t1 106 rfl rfl
  | 2, _ => exact z_t1 108 rfl rfl
  | 3, _ => exact z_t1 110 rfl rfl
  | 4, _ => exact z_t1 112 rfl rfl
  | _ + 5, hk => exact absurd hk (by omega)
theorem zu_X6 : ∀ w ∈ wsX60, w ∈ zG := by
  intro w hw
  obtain ⟨k, hk, rfl⟩ := List.mem_map.mp hw
  have hk := List.mem_range.mp hk
  match k, hk with
  | 0, _ => exact z_t1 183 rfl rfl
  | _ + 1, hk => exact absurd hk (by omega)
theorem zu_X7 : ∀ w ∈ wsX70, w ∈ zG := by
  intro w hw
  obtain ⟨k, hk, rfl⟩ := List.mem_map.mp hw
  have hk := List.mem_range.mp hk
  match k, hk with
  | 0, _ => exact z_t1 59 rfl rfl
  | 1, _ => exact z_t1 61 rfl rfl
  | 2, _ => exact z_t1 63 rfl rfl
  | 3, _ => exact z_t1 65 rfl rfl
  | 4, _ => exact z_t1 67 rfl rfl
  | 5, _ => exact z_t1 69 rfl rfl
  | 6, _ => exact z_t1 71 rfl rfl
  | 7, _ => exact z_t1 73 rfl rfl
  | 8, _ => exact z_t1 75 rfl rfl
  | 9, _ => exact z_t1 77 rfl rfl
  | 10, _ => exact z_t1 79 rfl rfl
  | 11, _ => exact z_t1 81 rfl rfl
  | 12, _ => exact z_t1 83 rfl rfl
  | _ + 13, hk => exact absurd hk (by omega)
theorem zu_X8 : ∀ w ∈ wsX80, w ∈ zG := by
  intro w hw
  obtain ⟨k, hk, rfl⟩ := List.mem_map.mp hw
  have hk := List.mem_range.mp hk
  match k, hk with
  | 0, _ => exact z_t1 194 rfl rfl
  | 1, _ => exact z_t1 196 rfl rfl
  | 2, _ => exact z_t1 198 rfl rfl
  | 3, _ => exact z_t1 200 rfl rfl
  | 4, _ => exact z_t1 202 rfl rfl
  | 5, _ => exact z_t1 204 rfl rfl
  | 6, _ => exact z_t1 206 rfl rfl
  | 7, _ => exact z_t1 208 rfl rfl
  | _ + 8, hk => exact absurd hk (by omega)
theorem zu_X9 : ∀ w ∈ wsX90, w ∈ zG := by
  intro w hw
  obtain ⟨k, hk, rfl⟩ := List.mem_map.mp hw
  have hk := List.mem_range.mp hk
  match k, hk with
  | 0, _ => exact z_t3 98 rfl rfl
  | 1, _ => exact z_t3 100 rfl rfl
  | 2, _ => exact z_t3 102 rfl rfl
  | 3, _ => exact z_t3 104 rfl rfl
  | 4, _ => exact z_t3 106 rfl rfl
  | 5, _ => exact z_t3 108 rfl rfl
  | 6, _ => exact z_t3 110 rfl rfl
  | 7, _ => exact z_t3 112 rfl rfl
  | 8, _ => exact z_t3 114 rfl rfl
  | 9, _ => exact z_t3 116 rfl rfl
  | 10, _ => exact z_t3 118 rfl rfl
  | 11, _ => exact z_t3 120 rfl rfl
  | 12, _ => exact z_t3 122 rfl rfl
  | 13, _ => exact z_t3 124 rfl rfl
  | 14, _ => exact z_t3 126 rfl rfl
  | 15, _ => exact z_t3 128 rfl rfl
  | 16, _ => exact z_t3 130 rfl rfl
  | 17, _ => exact z_t3 132 rfl rfl
  | 18, _ => exact z_t3 134 rfl rfl
  | 19, _ => exact z_t3 136 rfl rfl
  | 20, _ => exact z_t3 138 rfl rfl
  | 21, _ => exact z_t3 140 rfl rfl
  | 22, _ => exact z_t3 142 rfl rfl
  | 23, _ => exact z_t3 144 rfl rfl
  | 24, _ => exact z_t3 146 rfl rfl
  | 25, _ => exact z_t3 148 rfl rfl
  | 26, _ => exact z_t3 150 rfl rfl
  | 27, _ => exact z_t3 152 rfl rfl
  | 28, _ => exact z_t3 154 rfl rfl
  | 29, _ => exact z_t3 156 rfl rfl
  | 30, _ => exact z_t3 158 rfl rfl
  | 31, _ => exact z_t3 160 rfl rfl
  | 32, _ => exact z_t3 162 rfl rfl
  | 33, _ => exact z_t3 164 rfl rfl
  | 34, _ => exact z_t3 166 rfl rfl
  | _ + 35, hk => exact absurd hk (by omega)
