/-! the small pairs -/
theorem zs_at2 (M : Mm) (c k : Nat) (v : Int32) (a j : Nat) : zs M c k v a j = if a = c then (if j = k then v else M a j) else M a j := by
  by_cases h : a = c
  · subst h; rw [if_pos rfl, zs_at]
  · rw [if_neg h, zs_ne h]
theorem z_setb : ∀ t, t < 256 → ∀ k, k < 8 → (t ||| 2 ^ k) < 256 ∧ ∀ i, i < 8 → (t ||| 2 ^ k).testBit i = (decide (i = k) || t.testBit i) := by decide +kernel
theorem z_rem : ∀ t, t < 256 → ∀ k, k < 8 → nI t &&& (((1 : Int32) <<< (nI k &&& 31)) ^^^ (-1 : Int32)) = nI (t &&& (255 ^^^ 2 ^ k)) ∧ (t &&& (255 ^^^ 2 ^ k)) < 256 ∧ ∀ i, i < 8 → (t &&& (255 ^^^ 2 ^ k)).testBit i = (!decide (i = k) && t.testBit i) := by decide +kernel
theorem z_rem6 : ∀ t, t < 64 → ∀ k, k < 6 → nI t &&& (((1 : Int32) <<< (nI k &&& 31)) ^^^ (-1 : Int32)) = nI (t &&& (63 ^^^ 2 ^ k)) ∧ (t &&& (63 ^^^ 2 ^ k)) < 64 ∧ ∀ i, i < 6 → (t &&& (63 ^^^ 2 ^ k)).testBit i = (!decide (i = k) && t.testBit i) := by decide +kernel
theorem RI_yard {M P : Mm} (h : RI M) (hY : YR 14 (vM P) P) (hc : ∀ a, a = 0 ∨ a = 2 ∨ a = 3 ∨ a = 13 ∨ (21 ≤ a ∧ a ≤ 34) ∨ a = 53 ∨ a = 65 ∨ a = 66 → P a = M a) (p13 : P 42 13 = M 42 13) : RI P := by
  obtain ⟨-, ⟨c, c1, c2, c3, c4⟩, hW, hI⟩ := h
  refine ⟨hY, ⟨c, c1, by rw [hc 2 (by omega)]; exact c2, by rw [p13]; exact c3, fun i hi => by rw [hc 3 (by omega), hc 53 (by omega)]; exact c4 i hi⟩, fun n hn => by rw [hc 13 (by omega)]; exact hW n hn, ?_⟩
  exact IM_cong hI (by rw [hc 0 (by omega)]) (hc 65 (by omega)) (hc 66 (by omega)) (fun a h1 h2 => hc a (by omega))
section SMALL
variable {M : Mm} {L : Ml} {post : Int32 → Mm → Ml → Prop}
theorem YD_put {t u k : Nat} (hY : YD 14 (vM M) t u M) (hk : k < 8) {a1 a2 a3 a4 a5 : Int32} (hg : FRg a1 a2 a3 a4 a5) {P : Mm} (p0 : P 14 0 = nI (t ||| 2 ^ k)) (pj : ∀ j, j ≠ 0 → P 14 j = M 14 j) (p1 : ∀ j, P 15 j = if j = k then a1 else M 15 j) (p2 : ∀ j, P 16 j = if j = k then a2 else M 16 j) (p3 : ∀ j, P 17 j = if j = k then a3 else M 17 j) (p4 : ∀ j, P 18 j = if j = k then a4 else M 18 j) (p5 : ∀ j, P 19 j = if j = k then a5 else M 19 j) (p6 : P 20 = M 20) (q0 : P 42 0 = nI (t ||| 2 ^ k)) (q11 : P 42 11 = M 42 11) (q1 : ∀ j, P 43 j = if j = k then a1 else M 43 j) (q2 : ∀ j, P 44 j = if j = k then a2 else M 44 j) (q3 : ∀ j, P 45 j = if j = k then a3 else M 45 j) (q4 : ∀ j, P 46 j = if j = k then a4 else M 46 j) (q5 : ∀ j, P 47 j = if j = k then a5 else M 47 j) (q6 : ∀ a, 48 ≤ a → a ≤ 52 → P a = M a) : YD 14 (vM P) (t ||| 2 ^ k) u P := by
  obtain ⟨ht, hu, h0, hv0, h7, hF, hO, hA, hS⟩ := hY
  obtain ⟨z1, z2⟩ := z_setb t ht k hk
  refine ⟨z1, hu, p0, q0, by rw [pj 7 (by decide)]; exact h7, ?_, ?_, ?_, ?_⟩
  · intro i hi
    have hf := hF i hi
    show ((t ||| 2 ^ k).testBit i = true → (P 43 i = P 15 i ∧ P 44 i = P 16 i ∧ P 45 i = P 17 i ∧ P 46 i = P 18 i ∧ P 47 i = P 19 i) ∧ FRg (P 15 i) (P 16 i) (P 17 i) (P 18 i) (P 19 i)) ∧ ((t ||| 2 ^ k).testBit i = false → P 17 i = 0)
    rw [z2 i hi, p1, p2, p3, p4, p5, q1, q2, q3, q4, q5]
    by_cases e : i = k
    · rw [if_pos e, if_pos e, if_pos e, if_pos e, if_pos e, if_pos e, if_pos e, if_pos e, if_pos e, if_pos e]
      exact ⟨fun _ => ⟨⟨rfl, rfl, rfl, rfl, rfl⟩, hg⟩, fun z => by simp [e] at z⟩
    · rw [if_neg e, if_neg e, if_neg e, if_neg e, if_neg e, if_neg e, if_neg e, if_neg e, if_neg e, if_neg e]
      simp only [e, decide_false, Bool.false_or]
      exact hf
  · intro e he
    have := hO e he
    show P 48 e = P 20 e ∧ zlt 16 (P 20 e) ∧ P 49 e = _
    rw [p6, q6 48 (by decide) (by decide), q6 49 (by decide) (by decide)]; exact this
  · show P 50 0 = P 14 8 ∧ P 50 1 = P 14 9 ∧ zlt 256 (P 14 8) ∧ zlt 256 (P 14 9)
    rw [pj 8 (by decide), pj 9 (by decide), q6 50 (by decide) (by decide)]; exact hA
  · exact YS_cong hS (pj 10 (by decide)) (pj 11 (by decide)) (pj 12 (by decide)) (by funext j; show P 51 j = M 51 j; rw [q6 51 (by decide) (by decide)]) (by funext j; show P 52 j = M 52 j; rw [q6 52 (by decide) (by decide)]) q11
theorem pr_flake (hR : RI M) {x a p g o : Int32} (h : ∀ r M1 L1, agr (wpX9_flake x a p g o) r M1 L1 → post r M1 L1) : wpX8_flake x a p g o M L post := by
  obtain ⟨⟨t, u, hY⟩, -⟩ := id hR
  have ht := hY.1
  have e14 : M 14 0 = nI t := hY.2.2.1
  have e42 : M 42 0 = nI t := hY.2.2.2.1
  unfold wpX8_flake wpX8_flake_19 wpX8_flake_50
  have key : wpX9_flake x a p g o = fun M L post => wpX9_flake x a p g o M L post := rfl
  refine sX8_isBelow 8 (fun hx => c1 ?_) (fun hx => c0 (h _ _ _ (fun p2 hp => ?_)))
  rotate_left
  · unfold wpX9_flake wpX9_flake_20
    exact sX9_in 0 7 (fun z => absurd ⟨z.1, by omega⟩ hx) (fun _ => c0 (hp _ _ hR))
  refine sX8_isBelow 6 (fun ho => b1 ?_) (fun ho => b0 (h _ _ _ (fun p2 hp => ?_)))
  rotate_left
  · unfold wpX9_flake wpX9_flake_20
    exact sX9_in 0 7 (fun _ => c1 (sX9_isOne (fun z => absurd z ho) (fun _ => b0 (hp _ _ hR)))) (fun z => absurd ⟨hx.1, by omega⟩ z)
  refine sX8_isBelow 256 (fun ha => c1 ?_) (fun ha => c0 (h _ _ _ (fun p2 hp => ?_)))
  rotate_left
  · unfold wpX9_flake wpX9_flake_54
    exact sX9_in 0 7 (fun _ => c1 (sX9_isOne (fun _ => b1 (sX9_isArm (fun z => absurd z ha) (fun _ => c0 (hp _ _ hR)))) (fun z => absurd ho z))) (fun z => absurd ⟨hx.1, by omega⟩ z)
  refine sX8_isBelow 16 (fun hp16 => c1 ?_) (fun hp16 => c0 (h _ _ _ (fun p2 hp => ?_)))
  rotate_left
  · unfold wpX9_flake wpX9_flake_54
    exact sX9_in 0 7 (fun _ => c1 (sX9_isOne (fun _ => b1 (sX9_isArm (fun _ => c1 (sX9_in 0 15 (fun z => absurd ⟨z.1, by omega⟩ hp16) (fun _ => c0 (hp _ _ hR)))) (fun z => absurd ha z))) (fun z => absurd ho z))) (fun z => absurd ⟨hx.1, by omega⟩ z)
  refine sX8_isBelow 10 (fun hg => b1 ?_) (fun hg => b0 (h _ _ _ (fun p2 hp => ?_)))
  rotate_left
  · unfold wpX9_flake wpX9_flake_54
    exact sX9_in 0 7 (fun _ => c1 (sX9_isOne (fun _ => b1 (sX9_isArm (fun _ => c1 (sX9_in 0 15 (fun _ => c1 (sX9_in 0 9 (fun z => absurd ⟨z.1, by omega⟩ hg) (fun _ => b0 (hp _ _ hR)))) (fun z => absurd ⟨hp16.1, by omega⟩ z))) (fun z => absurd ha z))) (fun z => absurd ho z))) (fun z => absurd ⟨hx.1, by omega⟩ z)
  obtain ⟨k, hk, rfl⟩ := z_rng (n := 8) hx (by decide)
  have ek : (nI k).toNatClampNeg = k := nI_clamp (by omega)
  have vk : vp_in (nI k) 8 := vp_in_nI hk (by decide)
  have hgr : FRg a p g o (-6) := ⟨z_rng (n := 256) ha (by decide), Or.inl (z_rng (n := 16) hp16 (by decide)), z_rng (n := 10) hg (by decide), z_rng (n := 6) ho (by decide), Or.inl rfl, fun _ => rfl⟩
  obtain ⟨zt, -⟩ := z_setb t ht k hk
  have eor : nI t ||| ((1 : Int32) <<< (nI k &&& 31)) = nI (t ||| 2 ^ k) := by rw [z_shl (by omega), fa_or]
  unfold wpX7_putFlake
  rw [ek, e14, eor]
  refine fun A1 f1 => ⟨vk, fun A2 f2 => ⟨vk, fun A3 f3 => ⟨vk, fun A4 f4 => ⟨vk, fun A5 f5 => ⟨vk, fun A6 f6 => ?_⟩⟩⟩⟩⟩
  have cA : ∀ i j, A6 i j = if i = 19 then (if j = k then -6 else M i j) else if i = 18 then (if j = k then o else M i j) else if i = 17 then (if j = k then g else M i j) else if i = 16 then (if j = k then p else M i j) else if i = 15 then (if j = k then a else M i j) else if i = 14 then (if j = 0 then nI (t ||| 2 ^ k) else M i j) else M i j := by
    intro i j
    rw [f6, zs_at2, f5, zs_at2, f4, zs_at2, f3, zs_at2, f2, zs_at2, f1, zs_at2]
    by_cases h19 : i = 19
    · subst h19; rfl
    by_cases h18 : i = 18
    · subst h18; rfl
    by_cases h17 : i = 17
    · subst h17; rfl
    by_cases h16 : i = 16
    · subst h16; rfl
    by_cases h15 : i = 15
    · subst h15; rfl
    · rw [if_neg h19, if_neg h18, if_neg h17, if_neg h16, if_neg h15, if_neg h19, if_neg h18, if_neg h17, if_neg h16, if_neg h15]
  have aA : ∀ i, 20 ≤ i ∨ i < 14 → A6 i = M i := fun i hi => by
    funext j
    rw [cA, if_neg (by omega), if_neg (by omega), if_neg (by omega), if_neg (by omega), if_neg (by omega), if_neg (by omega)]
  have a0 : A6 14 0 = nI (t ||| 2 ^ k) := by rw [cA]; rfl
  show wpJ6_bitCount_0f7a4 (A6 14 0) A6 L _
  rw [a0]
  refine sJ6_bitCount zt (h _ _ _ (fun p2 hp => ?_))
  unfold wpX9_flake
  refine sX9_in 0 7 (fun _ => c1 (sX9_isOne (fun _ => b1 (sX9_isArm (fun _ => c1 (sX9_in 0 15 (fun _ => c1 (sX9_in 0 9 (fun _ => b1 ?_) (fun z => absurd ⟨hg.1, by omega⟩ z))) (fun z => absurd ⟨hp16.1, by omega⟩ z))) (fun z => absurd ha z))) (fun z => absurd ho z))) (fun z => absurd ⟨hx.1, by omega⟩ z)
  rw [ek, aA 42 (Or.inl (by decide)), e42, eor]
  refine fun B1 g1 => ⟨vk, fun B2 g2 => ⟨vk, fun B3 g3 => ⟨vk, fun B4 g4 => ⟨vk, fun B5 g5 => ⟨vk, fun B6 g6 => ?_⟩⟩⟩⟩⟩
  have cB : ∀ i j, B6 i j = if i = 47 then (if j = k then -6 else A6 i j) else if i = 46 then (if j = k then o else A6 i j) else if i = 45 then (if j = k then g else A6 i j) else if i = 44 then (if j = k then p else A6 i j) else if i = 43 then (if j = k then a else A6 i j) else if i = 42 then (if j = 0 then nI (t ||| 2 ^ k) else A6 i j) else A6 i j := by
    intro i j
    rw [g6, zs_at2, g5, zs_at2, g4, zs_at2, g3, zs_at2, g2, zs_at2, g1, zs_at2]
    by_cases h19 : i = 47
    · subst h19; rfl
    by_cases h18 : i = 46
    · subst h18; rfl
    by_cases h17 : i = 45
    · subst h17; rfl
    by_cases h16 : i = 44
    · subst h16; rfl
    by_cases h15 : i = 43
    · subst h15; rfl
    · rw [if_neg h19, if_neg h18, if_neg h17, if_neg h16, if_neg h15, if_neg h19, if_neg h18, if_neg h17, if_neg h16, if_neg h15]
  have aB : ∀ i, 48 ≤ i ∨ i < 42 → B6 i = A6 i := fun i hi => by
    funext j
    rw [cB, if_neg (by omega), if_neg (by omega), if_neg (by omega), if_neg (by omega), if_neg (by omega), if_neg (by omega)]
  have b0' : B6 42 0 = nI (t ||| 2 ^ k) := by rw [cB]; rfl
  have b42 : ∀ j, j ≠ 0 → B6 42 j = M 42 j := fun j hj => by
    rw [cB]
    show (if j = 0 then _ else A6 42 j) = _
    rw [if_neg hj, aA 42 (Or.inl (by decide))]
  rw [b0']
  refine sX9_bitsOf zt (hp _ _ ?_)
  refine RI_yard hR ⟨_, u, YD_put hY hk hgr (P := B6) ?_ ?_ ?_ ?_ ?_ ?_ ?_ ?_ b0' (b42 11 (by decide)) ?_ ?_ ?_ ?_ ?_ ?_⟩ (fun i hi => by rw [aB i (by omega), aA i (by omega)]) (b42 13 (by decide))
  · rw [aB 14 (Or.inr (by decide)), a0]
  · intro j hj
    rw [aB 14 (Or.inr (by decide)), cA]
    exact if_neg hj
  · intro j; rw [aB 15 (Or.inr (by decide)), cA]; rfl
  · intro j; rw [aB 16 (Or.inr (by decide)), cA]; rfl
  · intro j; rw [aB 17 (Or.inr (by decide)), cA]; rfl
  · intro j; rw [aB 18 (Or.inr (by decide)), cA]; rfl
  · intro j; rw [aB 19 (Or.inr (by decide)), cA]; rfl
  · rw [aB 20 (Or.inr (by decide)), aA 20 (Or.inl (by decide))]
  · intro j; rw [cB, ← aA 43 (Or.inl (by decide))]; rfl
  · intro j; rw [cB, ← aA 44 (Or.inl (by decide))]; rfl
  · intro j; rw [cB, ← aA 45 (Or.inl (by decide))]; rfl
  · intro j; rw [cB, ← aA 46 (Or.inl (by decide))]; rfl
  · intro j; rw [cB, ← aA 47 (Or.inl (by decide))]; rfl
  · intro i h1 h2; rw [aB i (by omega), aA i (by omega)]
theorem pr_melt (hR : RI M) {x : Int32} (h : ∀ r M1 L1, agr (wpX9_melt x) r M1 L1 → post r M1 L1) : wpX8_melt x M L post := by
  obtain ⟨⟨t, u, hY⟩, -⟩ := id hR
  have ht := hY.1
  have e14 : M 14 0 = nI t := hY.2.2.1
  have e42 : M 42 0 = nI t := hY.2.2.2.1
  unfold wpX8_melt
  refine sX7_has e14 ht (fun k hk ex hb => b1 ?_) (fun hout => b0 (h _ _ _ (fun p2 hp => ?_))) (fun k hk ex hb => b0 (h _ _ _ (fun p2 hp => ?_)))
  · subst ex
    have ek : (nI k).toNatClampNeg = k := nI_clamp (by omega)
    have vk : vp_in (nI k) 8 := vp_in_nI hk (by decide)
    obtain ⟨r1, r2, r3⟩ := z_rem t ht k hk
    unfold wpX7_removeFlake
    rw [ek, e14, r1]
    refine fun A1 f1 => ⟨vk, fun A2 f2 => ?_⟩
    have a0 : A2 14 0 = nI (t &&& (255 ^^^ 2 ^ k)) := by rw [f2, zs_ne (by decide), f1, zs_eq]
    have aj : ∀ j, j ≠ 0 → A2 14 j = M 14 j := fun j hj => by rw [f2, zs_ne (by decide), f1, zs_nj hj]
    have a17 : ∀ j, A2 17 j = if j = k then 0 else M 17 j := fun j => by rw [f2, zs_at, f1, zs_ne (by decide)]
    have an : ∀ i, i ≠ 14 → i ≠ 17 → A2 i = M i := fun i h1 h2 => by rw [f2, zs_ne h2, f1, zs_ne h1]
    show wpJ6_bitCount_0f7a4 (A2 14 0) A2 L _
    rw [a0]
    refine sJ6_bitCount r2 (h _ _ _ (fun p2 hp => ?_))
    unfold wpX9_melt
    refine sX9_isFlake_k (t := t) (by rw [an 42 (by decide) (by decide)]; exact e42) ht hk (fun _ => b1 ?_) (fun z => absurd (hb.symm.trans z) (by decide))
    rw [an 42 (by decide) (by decide), e42, r1]
    intro B g
    have b0' : B 42 0 = nI (t &&& (255 ^^^ 2 ^ k)) := by rw [g, zs_eq]
    have bj : ∀ j, j ≠ 0 → B 42 j = M 42 j := fun j hj => by rw [g, zs_nj hj, an 42 (by decide) (by decide)]
    have bn : ∀ i, i ≠ 42 → B i = A2 i := fun i hi => by rw [g, zs_ne hi]
    rw [b0']
    refine sX9_bitsOf r2 (hp _ _ ?_)
    have bm : ∀ i, i ≠ 42 → i ≠ 14 → i ≠ 17 → B i = M i := fun i h1 h2 h3 => by rw [bn i h1, an i h2 h3]
    refine RI_yard hR ⟨_, u, r2, hY.2.1, by rw [bn 14 (by decide)]; exact a0, b0', by rw [bn 14 (by decide), aj 7 (by decide)]; exact hY.2.2.2.2.1, ?_, ?_, ?_, ?_⟩ (fun i hi => bm i (by omega) (by omega) (by omega)) (bj 13 (by decide))
    · intro i hi
      have hf := hY.2.2.2.2.2.1 i hi
      show ((t &&& (255 ^^^ 2 ^ k)).testBit i = true → (B 43 i = B 15 i ∧ B 44 i = B 16 i ∧ B 45 i = B 17 i ∧ B 46 i = B 18 i ∧ B 47 i = B 19 i) ∧ FRg (B 15 i) (B 16 i) (B 17 i) (B 18 i) (B 19 i)) ∧ ((t &&& (255 ^^^ 2 ^ k)).testBit i = false → B 17 i = 0)
      rw [r3 i hi, bn 17 (by decide), a17, bm 43 (by decide) (by decide) (by decide), bm 44 (by decide) (by decide) (by decide), bm 45 (by decide) (by decide) (by decide), bm 46 (by decide) (by decide) (by decide), bm 47 (by decide) (by decide) (by decide), bm 15 (by decide) (by decide) (by decide), bm 16 (by decide) (by decide) (by decide), bm 18 (by decide) (by decide) (by decide), bm 19 (by decide) (by decide) (by decide)]
      by_cases e : i = k
      · rw [if_pos e]
        exact ⟨fun z => by simp [e] at z, fun _ => rfl⟩
      · rw [if_neg e]
        simp only [e, decide_false, Bool.not_false, Bool.true_and]
        exact hf
    · intro e he
      have := hY.2.2.2.2.2.2.1 e he
      show B 48 e = B 20 e ∧ zlt 16 (B 20 e) ∧ B 49 e = _
      rw [bm 48 (by decide) (by decide) (by decide), bm 20 (by decide) (by decide) (by decide), bm 49 (by decide) (by decide) (by decide)]; exact this
    · show B 50 0 = B 14 8 ∧ B 50 1 = B 14 9 ∧ zlt 256 (B 14 8) ∧ zlt 256 (B 14 9)
      rw [bn 14 (by decide), aj 8 (by decide), aj 9 (by decide), bm 50 (by decide) (by decide) (by decide)]; exact hY.2.2.2.2.2.2.2.1
    · exact YS_cong hY.2.2.2.2.2.2.2.2 (by rw [bn 14 (by decide)]; exact aj 10 (by decide)) (by rw [bn 14 (by decide)]; exact aj 11 (by decide)) (by rw [bn 14 (by decide)]; exact aj 12 (by decide)) (by funext j; show B 51 j = M 51 j; rw [bm 51 (by decide) (by decide) (by decide)]) (by funext j; show B 52 j = M 52 j; rw [bm 52 (by decide) (by decide) (by decide)]) (bj 11 (by decide))
  · unfold wpX9_melt
    exact sX9_isFlake e42 ht (fun k hk ex _ => absurd (by rw [ex]; exact z_nrng hk (by decide)) hout) (fun k hk ex _ => b0 (hp _ _ hR)) (fun _ => b0 (hp _ _ hR))
  · subst ex
    unfold wpX9_melt
    exact sX9_isFlake_k e42 ht hk (fun z => absurd (hb.symm.trans z) (by decide)) (fun _ => b0 (hp _ _ hR))
end SMALL
