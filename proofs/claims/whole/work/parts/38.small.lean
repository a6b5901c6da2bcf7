/-! stand, air, say, wipe, fault, says -/
section SMALLB
variable {M : Mm} {L : Ml} {post : Int32 → Mm → Ml → Prop}
theorem pr_stand (hR : RI M) {x y : Int32} (h : ∀ r M1 L1, agr (wpX9_stand x y) r M1 L1 → post r M1 L1) : wpX8_stand x y M L post := by
  obtain ⟨⟨t, u, hY⟩, -⟩ := id hR
  have ht := hY.1
  have hu := hY.2.1
  have e7 : M 14 7 = nI u := hY.2.2.2.2.1
  unfold wpX8_stand
  refine sX8_isBelow 6 (fun hx => b1 ?_) (fun hout => b0 (h _ _ _ (fun p2 hp => ?_)))
  rotate_left
  · unfold wpX9_stand
    exact sX9_isOne (fun z => absurd z hout) (fun _ => b0 (hp _ _ hR))
  refine sX8_isBelow 16 (fun hy => b1 ?_) (fun hout => b0 (h _ _ _ (fun p2 hp => ?_)))
  rotate_left
  · unfold wpX9_stand
    exact sX9_isOne (fun _ => b1 (sX9_in 0 15 (fun z => absurd ⟨z.1, by omega⟩ hout) (fun _ => b0 (hp _ _ hR)))) (fun z => absurd hx z)
  obtain ⟨k, hk, rfl⟩ := z_rng (n := 6) hx (by decide)
  have ek : (nI k).toNatClampNeg = k := nI_clamp (by omega)
  have vk : vp_in (nI k) 6 := vp_in_nI hk (by decide)
  obtain ⟨r1, r2, r3⟩ := z_rem6 u hu k hk
  rw [ek]
  refine ⟨vk, fun a ea => ⟨vk, fun A1 f1 A2 f2 => h _ _ _ (fun p2 hp => ?_)⟩⟩
  rw [f1, zs_ne (by decide), e7, r1] at f2
  have a7 : A2 14 7 = nI (u &&& (63 ^^^ 2 ^ k)) := by rw [f2, zs_eq]
  have aj : ∀ j, j ≠ 7 → A2 14 j = M 14 j := fun j hj => by rw [f2, zs_nj hj, zs_ne (by decide)]
  have a20 : ∀ j, A2 20 j = if j = k then y else M 20 j := fun j => by rw [f2, zs_ne (by decide), zs_at]
  have an : ∀ i, i ≠ 14 → i ≠ 20 → A2 i = M i := fun i h1 h2 => by rw [f2, zs_ne h1, zs_ne h2]
  unfold wpX9_stand
  refine sX9_isOne (fun _ => b1 (sX9_in 0 15 (fun _ => b1 ?_) (fun z => absurd ⟨hy.1, by omega⟩ z))) (fun z => absurd hx z)
  rw [ek]
  refine ⟨vk, fun b eb => ⟨vk, fun B1 g1 => ⟨vk, fun B2 g2 => ?_⟩⟩⟩
  have hO := hY.2.2.2.2.2.2.1
  have o1 : M 48 k = M 20 k := (hO k hk).1
  rw [an 48 (by decide) (by decide), o1, ← ea] at eb
  rw [eb]
  have bn : ∀ i, i ≠ 48 → i ≠ 49 → B2 i = A2 i := fun i h1 h2 => by rw [g2, zs_ne h2, g1, zs_ne h1]
  have b48 : ∀ j, B2 48 j = if j = k then y else M 48 j := fun j => by rw [g2, zs_ne (by decide), g1, zs_at, an 48 (by decide) (by decide)]
  have b49 : ∀ j, B2 49 j = if j = k then 0 else M 49 j := fun j => by rw [g2, zs_at, g1, zs_ne (by decide), an 49 (by decide) (by decide)]
  have bm : ∀ i, i ≠ 48 → i ≠ 49 → i ≠ 14 → i ≠ 20 → B2 i = M i := fun i h1 h2 h3 h4 => by rw [bn i h1 h2, an i h3 h4]
  refine hp _ _ (RI_yard hR ⟨t, _, ht, r2, ?_, ?_, ?_, ?_, ?_, ?_, ?_⟩ (fun i hi => bm i (by omega) (by omega) (by omega) (by omega)) (by rw [bm 42 (by decide) (by decide) (by decide) (by decide)]))
  · rw [bn 14 (by decide) (by decide), aj 0 (by decide)]; exact hY.2.2.1
  · show B2 42 0 = nI t
    rw [bm 42 (by decide) (by decide) (by decide) (by decide)]; exact hY.2.2.2.1
  · rw [bn 14 (by decide) (by decide)]; exact a7
  · intro i hi
    have hf := hY.2.2.2.2.2.1 i hi
    show (t.testBit i = true → (B2 43 i = B2 15 i ∧ B2 44 i = B2 16 i ∧ B2 45 i = B2 17 i ∧ B2 46 i = B2 18 i ∧ B2 47 i = B2 19 i) ∧ FRg (B2 15 i) (B2 16 i) (B2 17 i) (B2 18 i) (B2 19 i)) ∧ (t.testBit i = false → B2 17 i = 0)
    rw [bm 43 (by decide) (by decide) (by decide) (by decide), bm 44 (by decide) (by decide) (by decide) (by decide), bm 45 (by decide) (by decide) (by decide) (by decide), bm 46 (by decide) (by decide) (by decide) (by decide), bm 47 (by decide) (by decide) (by decide) (by decide), bm 15 (by decide) (by decide) (by decide) (by decide), bm 16 (by decide) (by decide) (by decide) (by decide), bm 17 (by decide) (by decide) (by decide) (by decide), bm 18 (by decide) (by decide) (by decide) (by decide), bm 19 (by decide) (by decide) (by decide) (by decide)]
    exact hf
  · intro e he
    obtain ⟨q1, q2, q3⟩ := hO e he
    have q3 : M 49 e = if u.testBit e then 1 else 0 := q3
    have q1 : M 48 e = M 20 e := q1
    show B2 48 e = B2 20 e ∧ zlt 16 (B2 20 e) ∧ B2 49 e = _
    rw [bn 20 (by decide) (by decide), a20, b48, b49, r3 e he]
    by_cases q : e = k
    · rw [if_pos q, if_pos q, if_pos q]
      exact ⟨rfl, z_rng (n := 16) hy (by decide), by simp [q]⟩
    · rw [if_neg q, if_neg q, if_neg q]
      exact ⟨q1, q2, by simp only [q, decide_false, Bool.not_false, Bool.true_and]; exact q3⟩
  · show B2 50 0 = B2 14 8 ∧ B2 50 1 = B2 14 9 ∧ zlt 256 (B2 14 8) ∧ zlt 256 (B2 14 9)
    rw [bn 14 (by decide) (by decide), aj 8 (by decide), aj 9 (by decide), bm 50 (by decide) (by decide) (by decide) (by decide)]; exact hY.2.2.2.2.2.2.2.1
  · exact YS_cong hY.2.2.2.2.2.2.2.2 (by rw [bn 14 (by decide) (by decide)]; exact aj 10 (by decide)) (by rw [bn 14 (by decide) (by decide)]; exact aj 11 (by decide)) (by rw [bn 14 (by decide) (by decide)]; exact aj 12 (by decide)) (by funext j; show B2 51 j = M 51 j; rw [bm 51 (by decide) (by decide) (by decide) (by decide)]) (by funext j; show B2 52 j = M 52 j; rw [bm 52 (by decide) (by decide) (by decide) (by decide)]) (by show B2 42 11 = M 42 11; rw [bm 42 (by decide) (by decide) (by decide) (by decide)])
theorem YD_airs {t u : Nat} (hY : YD 14 (vM M) t u M) {P : Mm} (pj : ∀ j, j ≠ 8 → j ≠ 9 → P 14 j = M 14 j) (pn : ∀ i, i ≠ 14 → i ≠ 50 → P i = M i) (hA : P 50 0 = P 14 8 ∧ P 50 1 = P 14 9 ∧ zlt 256 (P 14 8) ∧ zlt 256 (P 14 9)) : YD 14 (vM P) t u P := by
  obtain ⟨ht, hu, h0, hv0, h7, hF, hO, -, hS⟩ := hY
  refine ⟨ht, hu, by rw [pj 0 (by decide) (by decide)]; exact h0, ?_, by rw [pj 7 (by decide) (by decide)]; exact h7, ?_, ?_, hA, ?_⟩
  · show P 42 0 = nI t
    rw [pn 42 (by decide) (by decide)]; exact hv0
  · intro i hi
    have hf := hF i hi
    show (t.testBit i = true → (P 43 i = P 15 i ∧ P 44 i = P 16 i ∧ P 45 i = P 17 i ∧ P 46 i = P 18 i ∧ P 47 i = P 19 i) ∧ FRg (P 15 i) (P 16 i) (P 17 i) (P 18 i) (P 19 i)) ∧ (t.testBit i = false → P 17 i = 0)
    rw [pn 43 (by decide) (by decide), pn 44 (by decide) (by decide), pn 45 (by decide) (by decide), pn 46 (by decide) (by decide), pn 47 (by decide) (by decide), pn 15 (by decide) (by decide), pn 16 (by decide) (by decide), pn 17 (by decide) (by decide), pn 18 (by decide) (by decide), pn 19 (by decide) (by decide)]
    exact hf
  · intro e he
    have := hO e he
    show P 48 e = P 20 e ∧ zlt 16 (P 20 e) ∧ P 49 e = _
    rw [pn 48 (by decide) (by decide), pn 49 (by decide) (by decide), pn 20 (by decide) (by decide)]; exact this
  · exact YS_cong hS (pj 10 (by decide) (by decide)) (pj 11 (by decide) (by decide)) (pj 12 (by decide) (by decide)) (by funext j; show P 51 j = M 51 j; rw [pn 51 (by decide) (by decide)]) (by funext j; show P 52 j = M 52 j; rw [pn 52 (by decide) (by decide)]) (by show P 42 11 = M 42 11; rw [pn 42 (by decide) (by decide)])
theorem pr_air (hR : RI M) {x y : Int32} (h : ∀ r M1 L1, agr (wpX9_air x y) r M1 L1 → post r M1 L1) : wpX8_air x y M L post := by
  obtain ⟨⟨t, u, hY⟩, -⟩ := id hR
  obtain ⟨a1, a2, a3, a4⟩ := hY.2.2.2.2.2.2.2.1
  have a1 : M 50 0 = M 14 8 := a1
  have a2 : M 50 1 = M 14 9 := a2
  unfold wpX8_air wpX8_air_18 wpX8_air_42 wpX8_air_66
  refine sX8_isBelow 2 (fun hx => c1 ?_) (fun hout => c0 (h _ _ _ (fun p2 hp => ?_)))
  rotate_left
  · unfold wpX9_air wpX9_air_22
    exact sX9_in 0 1 (fun z => absurd ⟨z.1, by omega⟩ hout) (fun _ => c0 (hp _ _ hR))
  refine sX8_isBelow 256 (fun hy => b1 ?_) (fun hout => b0 (h _ _ _ (fun p2 hp => ?_)))
  rotate_left
  · unfold wpX9_air wpX9_air_22
    exact sX9_in 0 1 (fun _ => c1 (sX9_in 0 255 (fun z => absurd ⟨z.1, by omega⟩ hout) (fun _ => b0 (hp _ _ hR)))) (fun z => absurd ⟨hx.1, by omega⟩ z)
  have hy' : zlt 256 y := z_rng (n := 256) hy (by decide)
  have key : ∀ (v : Int32) (A : Mm) (k : Nat), k < 2 → x = nI k → (∀ i, i ≠ 14 → A i = M i) → v = M 50 k → (∀ p2 : Int32 → Mm → Ml → Prop, (∀ B : Mm, B = zs A 50 k y → p2 v B L) → wpX9_air x y A L p2) := by
    intro v A k hk ex hA hv p2 hp
    unfold wpX9_air
    refine sX9_in 0 1 (fun _ => c1 (sX9_in 0 255 (fun _ => b1 ?_) (fun z => absurd ⟨hy.1, by omega⟩ z))) (fun z => absurd ⟨hx.1, by omega⟩ z)
    have ek : (nI k).toNatClampNeg = k := nI_clamp (by omega)
    have vk : vp_in (nI k) 2 := vp_in_nI hk (by decide)
    rw [ex, ek, hA 50 (by decide), ← hv]
    exact ⟨vk, fun a ea => ⟨vk, fun B eB => by rw [ea]; exact hp B eB⟩⟩
  refine ⟨fun n0 => nf_ n0 (fun A f => h _ _ _ (fun p2 hp => ?_)), fun e0 => nt_ e0 (fun A f => h _ _ _ (fun p2 hp => ?_))⟩
  · have e1 : x = nI 1 := by
      obtain ⟨k, hk, rfl⟩ := z_rng (n := 2) hx (by decide)
      rcases (show k = 0 ∨ k = 1 by omega) with rfl | rfl
      · exact absurd rfl n0
      · rfl
    refine key _ A 1 (by decide) e1 (fun i hi => by rw [f, zs_ne hi]) a2.symm p2 (fun B eB => hp _ _ ?_)
    have b14 : ∀ j, B 14 j = if j = 9 then y else M 14 j := fun j => by rw [eB, zs_ne (by decide), f, zs_at]
    have bn : ∀ i, i ≠ 14 → i ≠ 50 → B i = M i := fun i h1 h2 => by rw [eB, zs_ne h2, f, zs_ne h1]
    have b50 : ∀ j, B 50 j = if j = 1 then y else M 50 j := fun j => by rw [eB, zs_at, f, zs_ne (by decide)]
    refine RI_yard hR ⟨t, u, YD_airs hY (fun j h1 h2 => by rw [b14, if_neg h2]) bn ?_⟩ (fun i hi => bn i (by omega) (by omega)) (by rw [bn 42 (by decide) (by decide)])
    rw [b50, b50, b14, b14]
    exact ⟨a1, rfl, a3, hy'⟩
  · refine key _ A 0 (by decide) e0 (fun i hi => by rw [f, zs_ne hi]) a1.symm p2 (fun B eB => hp _ _ ?_)
    have b14 : ∀ j, B 14 j = if j = 8 then y else M 14 j := fun j => by rw [eB, zs_ne (by decide), f, zs_at]
    have bn : ∀ i, i ≠ 14 → i ≠ 50 → B i = M i := fun i h1 h2 => by rw [eB, zs_ne h2, f, zs_ne h1]
    have b50 : ∀ j, B 50 j = if j = 0 then y else M 50 j := fun j => by rw [eB, zs_at, f, zs_ne (by decide)]
    refine RI_yard hR ⟨t, u, YD_airs hY (fun j h1 h2 => by rw [b14, if_neg h1]) bn ?_⟩ (fun i hi => bn i (by omega) (by omega)) (by rw [bn 42 (by decide) (by decide)])
    rw [b50, b50, b14, b14]
    exact ⟨rfl, a2, hy', a4⟩
/-- only the pad is new -/
theorem RI_pad {c : Nat} {P : Mm} (h : RI M) (hP : PD c P) (hc : ∀ a, a ≠ 2 → a ≠ 3 → a ≠ 53 → a ≠ 42 → P a = M a) (p0 : P 42 0 = M 42 0) (p11 : P 42 11 = M 42 11) : RI P := by
  obtain ⟨⟨t, u, hY⟩, -, hW, hI⟩ := h
  have ev : ∀ i, 1 ≤ i → i ≤ 10 → ∀ k, vM P i k = vM M i k := fun i h1 h2 k => by
    unfold vM
    rw [if_neg (by omega), if_neg (by omega), if_neg (by omega), if_neg (by omega), hc _ (by omega) (by omega) (by omega) (by omega)]
  refine ⟨⟨t, u, YD_view (V := vM M) (YD_same hY (fun i hi => hc _ (by omega) (by omega) (by omega) (by omega))) p0 (fun i h1 h2 k _ => ev i h1 (by omega) k) (fun i h1 h2 k _ => ev i (by omega) (by omega) k) (fun k _ => ev 8 (by decide) (by decide) k) p11 (fun i h1 h2 k _ => ev i (by omega) (by omega) k)⟩, ⟨c, hP⟩, fun n hn => by rw [hc 13 (by decide) (by decide) (by decide) (by decide)]; exact hW n hn, ?_⟩
  exact IM_cong hI (by rw [hc 0 (by decide) (by decide) (by decide) (by decide)]) (hc 65 (by decide) (by decide) (by decide) (by decide)) (hc 66 (by decide) (by decide) (by decide) (by decide)) (fun a h1 h2 => hc a (by omega) (by omega) (by omega) (by omega))
theorem pr_say (hR : RI M) {x : Int32} (h : ∀ r M1 L1, agr (wpX9_say x) r M1 L1 → post r M1 L1) : wpX8_say x M L post := by
  obtain ⟨-, ⟨c, p1, p2, p3, p4⟩, -⟩ := id hR
  unfold wpX8_say wpX8_say_12 wpX8_say_38
  have e33 : (33 : Int32).toInt = 33 := rfl
  have e126 : (126 : Int32).toInt = 126 := rfl
  have hout : ¬ (33 ≤ x.toInt ∧ x.toInt ≤ 126) → agr (wpX9_say x) (-2) M L := fun z p2 hp => by
    unfold wpX9_say
    exact sX9_in 33 126 (fun q => absurd q z) (fun _ => b0 (hp _ _ hR))
  refine ⟨fun hl => h _ _ _ (hout ?_), fun hl => ⟨fun hle => ?_, fun hle => h _ _ _ (hout ?_)⟩⟩
  · rw [fa_lt, e33] at hl; omega
  · have hin : 33 ≤ x.toInt ∧ x.toInt ≤ 126 := by
      rw [fa_lt, e33] at hl
      rw [fa_le, e126] at hle
      omega
    have hx : zlt 127 x := z_rng (n := 127) ⟨by omega, by omega⟩ (by decide)
    unfold wpX5_add
    rw [p2]
    have ec : (nI c).toNatClampNeg = c := nI_clamp (by omega)
    have q60 : (nI c < (60 : Int32)) ↔ c < 60 := nI_ltI (b := 60) (by omega) (by decide)
    refine ⟨fun hlt => ?_, fun hge => c0 (h _ _ _ (fun p2 hp => ?_))⟩
    · have hc : c < 60 := q60.mp hlt
      rw [ec]
      refine ⟨vp_in_nI hc (by decide), fun A1 f1 A2 f2 => c1 (h _ _ _ (fun p2' hp => ?_))⟩
      rw [f1, zs_ne (by decide), p2, nI_1] at f2
      unfold wpX9_say
      have a42 : A2 42 = M 42 := by rw [f2, zs_ne (by decide), zs_ne (by decide)]
      refine sX9_in 33 126 (fun _ => b1 ?_) (fun z => absurd hin z)
      rw [a42, p3, ec]
      refine nf_ (fun z => absurd (nI_inj (a := c) (b := 60) (by omega) (by decide) z) (by omega)) ⟨vp_in_nI hc (by decide), fun B1 g1 B2 g2 => ?_⟩
      rw [g1, zs_ne (by decide), a42, p3, nI_1] at g2
      have e : B2 42 13 = A2 2 1 := by rw [g2, zs_eq, f2, zs_eq]
      rw [e]
      have e2 : A2 2 1 = nI (c + 1) := by rw [f2, zs_eq]
      have b3 : ∀ j, B2 3 j = if j = c then x else M 3 j := fun j => by rw [g2, zs_ne (by decide), zs_ne (by decide), f2, zs_ne (by decide), zs_at]
      have b53 : ∀ j, B2 53 j = if j = c then x else M 53 j := fun j => by rw [g2, zs_ne (by decide), zs_at, f2, zs_ne (by decide), zs_ne (by decide)]
      refine hp _ _ (RI_pad (c := c + 1) hR ⟨by omega, ?_, by rw [e, e2], fun i hi => ?_⟩ (fun a h1 h2 h3 h4 => ?_) ?_ ?_)
      · rw [g2, zs_ne (by decide), zs_ne (by decide)]; exact e2
      · rw [b3, b53]
        by_cases q : i = c
        · rw [if_pos q, if_pos q]; exact ⟨rfl, hx⟩
        · rw [if_neg q, if_neg q]; exact p4 i (by omega)
      · rw [g2, zs_ne h4, zs_ne h3, f2, zs_ne h1, zs_ne h2]
      · rw [g2, zs_nj (by decide), zs_ne (by decide), a42]
      · rw [g2, zs_nj (by decide), zs_ne (by decide), a42]
    · have hc : c = 60 := by
        have : ¬ c < 60 := fun z => hge (q60.mpr z)
        omega
      unfold wpX9_say
      refine sX9_in 33 126 (fun _ => b1 ?_) (fun z => absurd hin z)
      rw [p3, hc]
      exact nt_ rfl (hp _ _ hR)
  · rw [fa_le, e126] at hle; omega
theorem pr_wipe (hR : RI M) (h : ∀ r M1 L1, agr wpX9_wipe r M1 L1 → post r M1 L1) : wpX8_wipe M L post := by
  obtain ⟨-, ⟨c, p1, p2, p3, p4⟩, -⟩ := id hR
  unfold wpX8_wipe
  refine fun a ea A f => h _ _ _ (fun p2' hp => ?_)
  unfold wpX9_wipe
  intro b eb B g
  have e : b = a := by rw [eb, ea, f, zs_ne (by decide), p2, p3]
  rw [e]
  refine hp _ _ (RI_pad (c := 0) hR ⟨by decide, ?_, ?_, fun i hi => absurd hi (by omega)⟩ (fun a h1 h2 h3 h4 => ?_) ?_ ?_)
  · rw [g, zs_ne (by decide), f, zs_eq]; rfl
  · rw [g, zs_eq]; rfl
  · rw [g, zs_ne h4, f, zs_ne h1]
  · rw [g, zs_nj (by decide), f, zs_ne (by decide)]
  · rw [g, zs_nj (by decide), f, zs_ne (by decide)]
theorem pr_fault (hR : RI M) (h : ∀ r M1 L1, agr wpX9_fault r M1 L1 → post r M1 L1) : wpX8_fault M L post := by
  obtain ⟨-, ⟨c, p1, p2, p3, p4⟩, -⟩ := id hR
  unfold wpX8_fault
  refine sX5_readActs (c := c) p1 p2 (fun i hi => (p4 i hi).2) (fun M0 hA hok hlen => h _ _ _ (fun p2' hp => ?_))
  obtain ⟨a1, a2, a3, a4⟩ := hA
  have e53 : M0 53 = M 53 := a1 53 (by decide) (by decide) (by decide)
  have epr : prun (M0 53) c 0 (-6) [] = prun (M 3) c 0 (-6) [] := by
    rw [e53]
    exact prun_cong c 0 (-6) [] (fun j hj => ((p4 j (by omega)).1).symm)
  refine sX9_fault (c := c) p1 (by rw [a1 42 (by decide) (by decide) (by decide)]; exact p3) (fun i hi => by rw [e53, ← (p4 i hi).1]; exact (p4 i hi).2) (fun M2 hM => ?_)
  rw [epr]
  obtain ⟨m1, m2, m3, m4⟩ := hM
  refine hp _ _ (RI_same hR (fun a ha => ?_) ?_ ?_ ?_ ?_)
  · unfold kp at ha
    rw [m1 a (by omega) (by omega) (by omega), a1 a (by omega) (by omega) (by omega)]
  · rw [m1 2 (by decide) (by decide) (by decide), a2 1 (by decide)]
  · rw [m2 0 (by decide), a1 42 (by decide) (by decide) (by decide)]
  · rw [m2 11 (by decide), a1 42 (by decide) (by decide) (by decide)]
  · rw [m2 13 (by decide), a1 42 (by decide) (by decide) (by decide)]
/-- an arm read aloud: said, alike -/
def sy (x : Int32) : Nat → Int32 × Int32
  | 0 => (0, 0)
  | k + 1 => if k = 7 ∨ ¬ (x >>> (nI k &&& 31)) &&& 1 = (x >>> (nI (k + 1) &&& 31)) &&& 1 then ((sy x k).1 * 10 + ((sy x k).2 + 1), 0) else ((sy x k).1, (sy x k).2 + 1)
theorem pr_says (hR : RI M) {x : Int32} (h : ∀ r M1 L1, agr (wpX9_says x) r M1 L1 → post r M1 L1) : wpX8_says x M L post := by
  unfold wpX8_says wpX8_says_19
  refine sX8_isBelow 256 (fun hx => c1 ?_) (fun hout => c0 (h _ _ _ (fun p2 hp => ?_)))
  rotate_left
  · unfold wpX9_says
    exact sX9_isArm (fun z => absurd z hout) (fun _ => b0 (hp _ _ hR))
  have k7 : ∀ k, k < 8 → (nI k = (7 : Int32) ↔ k = 7) := fun k hk => ⟨fun z => nI_inj (a := k) (b := 7) (by omega) (by decide) z, fun z => by rw [z]; rfl⟩
  unfold wpX3_readAloud wlX3_readAloud_6
  refine zlp_for 8 (fun k => (M, L, x, (sy x k).1, (sy x k).2, nI k)) ?_ ?_
  · intro k K hk hK
    show wpX3_readAloud_6 _ _ M L x (sy x k).1 (sy x k).2 (nI k)
    unfold wpX3_readAloud_6 wpX3_readAloud_36 wpX3_readAloud_45 wpX8_bit
    rw [nI_1]
    refine pk_le 8 k (fun h => by omega) (fun _ a12 e12 => ?_)
    rw [e12, k7 k hk]
    unfold sy at hK
    refine ⟨fun q7 b eb a ea => ?_, fun q7 => ⟨fun q a ea => ?_, fun q b eb a ea => ?_⟩⟩
    · rw [if_pos (Or.inl q7)] at hK
      rw [eb, ea]; exact hK
    · rw [if_neg (fun z => z.elim q7 (fun w => w q))] at hK
      rw [ea]; exact hK
    · rw [if_pos (Or.inr q)] at hK
      rw [eb, ea]; exact hK
  · intro K
    show wpX3_readAloud_6 _ _ M L x (sy x 8).1 (sy x 8).2 (nI 8)
    unfold wpX3_readAloud_6
    refine pk_le 8 8 (fun _ => h _ _ _ (fun p2 hp => ?_)) (fun h => by omega)
    unfold wpX9_says
    refine sX9_isArm (fun _ => b1 ?_) (fun z => absurd hx z)
    unfold wlX9_says_17
    refine zlp_for 8 (fun k => (M, L, x, (sy x k).1, (sy x k).2, nI k)) ?_ ?_
    · intro k K hk hK
      show wpX9_says_17 _ _ M L x (sy x k).1 (sy x k).2 (nI k)
      unfold wpX9_says_17 wpX9_says_51 wpX9_says_56 wpX9_says_73 wpX9_says_84
      rw [nI_1]
      refine pk_le 8 k (fun h => by omega) (fun _ a12 e12 => ?_)
      rw [e12, k7 k hk]
      unfold sy at hK
      refine ⟨fun q7 => ?_, fun q7 => ⟨fun q => ?_, fun q => ?_⟩⟩
      · rw [if_pos (Or.inl q7)] at hK
        refine c1 (c1 (fun a ea => ?_))
        rw [Int32.mul_comm, ea]; exact hK
      · rw [if_neg (fun z => z.elim q7 (fun w => w q))] at hK
        refine c0 (c0 (fun a ea => ?_))
        rw [ea]; exact hK
      · rw [if_pos (Or.inr q)] at hK
        refine c1 (c1 (fun a ea => ?_))
        rw [Int32.mul_comm, ea]; exact hK
    · intro K
      show wpX9_says_17 _ _ M L x (sy x 8).1 (sy x 8).2 (nI 8)
      unfold wpX9_says_17
      exact pk_le 8 8 (fun _ => hp _ _ hR) (fun h => by omega)
end SMALLB
