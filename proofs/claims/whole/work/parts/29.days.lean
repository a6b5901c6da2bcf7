/-! what holds between the rounds of the days -/
def pads (n : Nat) (Z : Mm) : Prop := ∀ i, i < n → ∃ j : Nat, j < 8 ∧ Z 4 i = nI j ∧ Z 54 i = nI j ∧ (5 ≤ j → Z 5 i = Z 55 i ∧ zlt 6 (Z 5 i))
def JJ (t d0 n : Nat) (Z : Mm) : Prop := (∃ u, YD 35 (vM Z) t u Z) ∧ pads n Z ∧ (Z 6 1 = Z 42 21 ∧ Z 6 2 = Z 42 22 ∧ (Z 6 1 = -6 ∨ zlt 60 (Z 6 1)) ∧ (Z 6 1 = -6 → Z 6 2 = -6)) ∧ (Z 6 3 = Z 42 18 ∧ (Z 6 3 = -6 ∨ zlt 60 (Z 6 3))) ∧ (Z 6 4 = nI d0 ∧ d0 < 256 ∧ Z 42 17 = nI (zct (fun k => dn t Z k && !d0.testBit k) 8) ∧ ∀ k, k < 8 → d0.testBit k = true → dn t Z k = true)
/-- what the rounds leave as it is -/
def zfr (Z P : Mm) : Prop := (∀ a, a ≠ 6 → (a < 35 ∨ 50 ≤ a ∨ a = 46) → P a = Z a) ∧ ∀ j, j ≠ 17 → j ≠ 18 → j ≠ 19 → j ≠ 21 → j ≠ 22 → P 42 j = Z 42 j
theorem zfr_rf (Z : Mm) : zfr Z Z := ⟨fun _ _ _ => rfl, fun _ _ _ _ _ _ => rfl⟩
theorem zfr_tr {X Y Z : Mm} (h1 : zfr X Y) (h2 : zfr Y Z) : zfr X Z := ⟨fun a ha hb => (h2.1 a ha hb).trans (h1.1 a ha hb), fun j a b c d e => (h2.2 j a b c d e).trans (h1.2 j a b c d e)⟩
theorem mPre_zr (t k : Nat) (N : Mm) (r : Int32) : mPre t k N r = zr N 42 (upd (upd (upd (N 42) 19 (nI k)) 21 (if r ≤ 0 then -6 else nI k)) 22 (if r ≤ 0 then -6 else r)) := by
  unfold mPre zs
  rw [zr_eq, zr_zr, zr_eq, zr_zr]
theorem nlt_m6 {n : Nat} {x : Int32} (hn : n ≤ 2147483648) (h : zlt n x) : ¬ x = -6 := by
  obtain ⟨a, ha, rfl⟩ := h
  intro z
  have := congrArg Int32.toInt z
  rw [nI_ti (by omega)] at this
  have e6 : (-6 : Int32).toInt = -6 := rfl
  rw [e6] at this
  omega
theorem nlt_0 {n : Nat} {x : Int32} (hn : n ≤ 2147483648) (h : zlt n x) : 0 ≤ x := by
  obtain ⟨a, ha, rfl⟩ := h
  exact nI_pos' (by omega)
theorem zwy_cases (b : Nat) (Z : Mm) (j : Nat) (x : Int32) : zwy b Z j x = 0 ∨ zwy b Z j x = 1 ∨ zwy b Z j x = 2 := by
  unfold zwy
  split
  · split
    · exact Or.inr (Or.inl rfl)
    · exact Or.inl rfl
  split
  · split
    · exact Or.inr (Or.inl rfl)
    · exact Or.inl rfl
  split
  · exact Or.inl rfl
  · split
    · exact Or.inr (Or.inr rfl)
    · exact Or.inl rfl
section STEP
variable {t d0 n k : Nat} {Z : Mm}
theorem JJ_step (h : JJ t d0 n Z) (hk : k < n) (hn : n ≤ 60) (hb : Z 6 1 = -6) : JJ t d0 n (mStep t k (cStep k Z)) ∧ zfr Z (mStep t k (cStep k Z)) := by
  obtain ⟨⟨u, hY⟩, hp, ⟨b1, b2, b3, b4⟩, ⟨f1, f2⟩, d1, d2, d3, d4⟩ := h
  obtain ⟨j, hj, e4, e54, e5⟩ := hp k hk
  have ej : (nI j).toNatClampNeg = j := nI_clamp (by omega)
  obtain ⟨N, hN⟩ : ∃ N, N = cStep k Z := ⟨_, rfl⟩
  rw [← hN]
  have hwm := zwy_zwm hY (j := j) (x := Z 5 k) (y := Z 55 k) e5
  have kk : zlt 60 (nI k) := ⟨k, by omega, rfl⟩
  rcases Classical.em (zwy 35 Z j (Z 5 k) = 0) with hw | hw
  · -- the act can be
    obtain ⟨C, hC⟩ : ∃ C, C = cAct 35 j (Z 5 k) Z := ⟨_, rfl⟩
    have c6 : C 6 = Z 6 := by rw [hC]; exact cAct_ne (Or.inl (by decide))
    have hN1 : N = if C 6 3 = -6 ∧ ¬ dlv C = dlv Z then zs C 6 3 (nI k) else C := by
      rw [hN]; unfold cStep; rw [e4, ej, if_pos hw, ← hC]
    have na : ∀ a, a ≠ 6 → N a = C a := fun a ha => by
      rw [hN1]; split
      · exact zs_ne ha _ _
      · rfl
    have n6 : ∀ i, i ≠ 3 → N 6 i = Z 6 i := fun i hi => by
      rw [hN1]; split
      · rw [zs_nj hi, c6]
      · rw [c6]
    have n63 : N 6 3 = if Z 6 3 = -6 ∧ ¬ dlv C = dlv Z then nI k else Z 6 3 := by
      rw [hN1, c6]; split
      · rw [zs_eq]
      · rw [c6]
    have nhi : ∀ a, ¬ a < 42 → N a = Z a := fun a ha => by rw [na a (by omega), hC]; exact cAct_ne (Or.inr (by omega))
    have hmix : N = mix N Z := by
      funext a
      by_cases ha : a < 42
      · rw [mix_lt ha]
      · rw [mix_ge ha]; exact nhi a ha
    have hmixC : N = mix N C := by
      funext a
      by_cases ha : a < 42
      · rw [mix_lt ha]
      · rw [mix_ge ha]; exact na a (by omega)
    have hwN : zwm t N j (Z 55 k) = 0 := by rw [hmix, zwm_mix, hwm]; exact hw
    obtain ⟨g, hg⟩ : ∃ g, g = upd (upd (upd (N 42) 19 (nI k)) 21 (-6)) 22 (-6) := ⟨_, rfl⟩
    obtain ⟨P, hP⟩ : ∃ P, P = mStep t k N := ⟨_, rfl⟩
    rw [← hP]
    have hP1 : P = mAct t j (Z 55 k) (zr N 42 g) := by
      rw [hP]; unfold mStep
      rw [nhi 54 (by decide), nhi 55 (by decide), e54, ej, if_pos hwN, hwN, mPre_zr, if_pos (by decide), if_pos (by decide), ← hg]
    have g_ : ∀ i, i ≠ 19 → i ≠ 21 → i ≠ 22 → g i = Z 42 i := fun i h1 h2 h3 => by
      rw [hg]; unfold upd; rw [if_neg h3, if_neg h2, if_neg h1, nhi 42 (by decide)]
    have g19 : g 19 = nI k := by rw [hg]; rfl
    have g21 : g 21 = -6 := by rw [hg]; rfl
    have g22 : g 22 = -6 := by rw [hg]; rfl
    obtain ⟨P0, hP0⟩ : ∃ P0, P0 = mAct t j (Z 55 k) C := ⟨_, rfl⟩
    have phi : ∀ a, a ≠ 42 → ¬ a < 42 → P a = P0 a := fun a h1 h2 => by
      rw [hP1, mAct_42 h1, hP0, hmixC, mAct_mix, mix_ge h2]
    have plo : ∀ a, a < 42 → P a = N a := fun a h1 => by rw [hP1, mAct_lt h1, zr_ne (by omega)]
    obtain ⟨u', hY0⟩ := YD_act hY hj e5 hw
    rw [← hC, ← hP0] at hY0
    have p42g : ∀ i, i ≠ 17 → i ≠ 18 → P 42 i = g i := fun i h1 h2 => by
      rw [hP1]
      by_cases q : j = 4
      · subst q
        show mFall t (zr N 42 g) 42 i = _
        unfold mFall
        rw [mFallK_42, mFallO_ne t _ 8 h1 h2, zr_eq]
      · rw [mAct_at42 q, zr_eq]
    have p0C : ∀ a, a < 42 → P0 a = C a := fun a ha => by rw [hP0]; exact mAct_lt ha
    have p042 : P0 42 0 = P 42 0 ∧ P0 42 11 = P 42 11 := by
      have h1 := YD_flakes (M := Z) (t := t) (u := u)
      have z42 : ∀ i, i ≠ 17 → i ≠ 18 → P0 42 i = Z 42 i := fun i h1 h2 => by
        rw [hP0]
        by_cases q : j = 4
        · subst q
          show mFall t C 42 i = _
          unfold mFall
          rw [mFallK_42, mFallO_ne t _ 8 h1 h2, hC, cAct_ne (Or.inr (by decide))]
        · rw [mAct_at42 q, hC, cAct_ne (Or.inr (by decide))]
      exact ⟨by rw [z42 0 (by decide) (by decide), p42g 0 (by decide) (by decide), g_ 0 (by decide) (by decide) (by decide)], by rw [z42 11 (by decide) (by decide), p42g 11 (by decide) (by decide), g_ 11 (by decide) (by decide) (by decide)]⟩
    have hYP : YD 35 (vM P) t u' P := by
      refine YD_cong hY0 (fun a h1 h2 h3 => ?_) p042.1.symm p042.2.symm
      by_cases ha : a < 42
      · rw [plo a ha, na a (by omega), p0C a ha]
      · exact phi a h3 ha
    have hfr : zfr Z P := by
      refine ⟨fun a ha hb => ?_, fun i h1 h2 h3 h4 h5 => ?_⟩
      · by_cases hlt : a < 42
        · rw [plo a hlt, na a ha, hC]; exact cAct_ne (Or.inl (by omega))
        · rw [phi a (by omega) hlt, hP0]
          rcases hb with hb | hb | hb
          · omega
          · rw [mAct_hi hb, hC]; exact cAct_ne (Or.inr (by omega))
          · subst hb; rw [mAct_46, hC]; exact cAct_ne (Or.inr (by omega))
      · rw [p42g i h1 h2, g_ i h3 h4 h5]
    have hpads : pads n P := by
      intro i hi
      obtain ⟨j', a1, a2, a3, a4⟩ := hp i hi
      refine ⟨j', a1, ?_, ?_, ?_⟩
      · rw [hfr.1 4 (by decide) (Or.inl (by decide))]; exact a2
      · rw [hfr.1 54 (by decide) (Or.inr (Or.inl (by decide)))]; exact a3
      · rw [hfr.1 5 (by decide) (Or.inl (by decide)), hfr.1 55 (by decide) (Or.inr (Or.inl (by decide)))]; exact a4
    have p6 : ∀ i, i ≠ 3 → P 6 i = Z 6 i := fun i hi => by rw [plo 6 (by decide), n6 i hi]
    have p63 : P 6 3 = if Z 6 3 = -6 ∧ ¬ dlv C = dlv Z then nI k else Z 6 3 := by rw [plo 6 (by decide), n63]
    have b22 : Z 6 2 = -6 ∨ True := Or.inr trivial
    by_cases q4 : j = 4
    · subst q4
      have hCf : C = cFall 35 Z := hC
      obtain ⟨B, hB⟩ : ∃ B, B = zr N 42 g := ⟨_, rfl⟩
      have hPB : P = mFall t B := by rw [hP1, hB]; rfl
      have bne : ∀ a, a ≠ 42 → ¬ a < 42 → B a = Z a := fun a h1 h2 => by rw [hB, zr_ne h1, nhi a h2]
      have b42 : B 42 = g := by rw [hB, zr_eq]
      have hland : ∀ i, i < 8 → mLand t B i = lnd t Z i := fun i hi => fall_land hY hi (bne 45 (by decide) (by decide))
      have hdn : ∀ i, i < 8 → dn t P i = (dn t Z i || lnd t Z i) ∧ ¬ (dn t Z i = true ∧ lnd t Z i = true) := fun i hi => by
        have := fall_dn hY hi
        rw [← hCf] at this
        have e : dn t P i = dn t C i := by unfold dn; rw [plo 37 (by decide), plo 38 (by decide), na 37 (by decide), na 38 (by decide)]
        rw [e]; exact this
      have b42' : ∀ i, i ≠ 19 → i ≠ 21 → i ≠ 22 → B 42 i = Z 42 i := fun i h1 h2 h3 => by rw [b42, g_ i h1 h2 h3]
      have hE : (∃ i, i < 8 ∧ mLand t B i = true ∧ mDownC B i = B 46 i) ↔ ∃ i, i < 8 ∧ lnd t Z i = true ∧ zCat 35 Z (Z 37 i) 6 0 = Z 39 i := by
        have one : ∀ i, i < 8 → lnd t Z i = true → (mDownC B i = zCat 35 Z (Z 37 i) 6 0 ∧ B 46 i = Z 39 i) := by
          intro i hi hl
          have hbit : t.testBit i = true := by
            unfold lnd at hl
            cases hq : t.testBit i with
            | true => rfl
            | false => rw [hq] at hl; exact absurd hl (by simp)
          have h38 : ¬ Z 38 i ≤ 0 := by
            intro q
            unfold lnd at hl
            rw [decide_eq_false (fun z : ¬ Z 38 i ≤ 0 => z q)] at hl
            simp at hl
          have e46 : Z 46 i = Z 39 i := ((hY.2.2.2.2.2.1 i hi).1 hbit).1.2.2.2.1
          refine ⟨?_, by rw [bne 46 (by decide) (by decide)]; exact e46⟩
          rw [hB, mDownC_42, hmixC, mDownC_mix, hCf]
          rcases YD_fall_rows hY hi hbit with e | e
          · exact e
          · exact absurd e h38
        constructor
        · rintro ⟨i, hi, h1, h2⟩
          rw [hland i hi] at h1
          obtain ⟨q1, q2⟩ := one i hi h1
          exact ⟨i, hi, h1, by rw [← q1, ← q2]; exact h2⟩
        · rintro ⟨i, hi, h1, h2⟩
          obtain ⟨q1, q2⟩ := one i hi h1
          exact ⟨i, hi, by rw [hland i hi]; exact h1, by rw [q1, q2]; exact h2⟩
      have hdl := fall_dlv hY
      rw [← hCf, ← hE] at hdl
      have hm := mFp_8 (t := t) (M := B) (by rw [b42, g19]; exact nI_pos' (by omega)) 8
      have e18 : B 42 18 = Z 6 3 := by rw [b42' 18 (by decide) (by decide) (by decide)]; exact f1.symm
      have h6 : ¬ 0 ≤ B 42 18 ↔ Z 6 3 = -6 := by
        rw [e18]
        rcases f2 with e | e
        · rw [e]; exact ⟨fun _ => rfl, fun _ => by decide⟩
        · exact ⟨fun z => absurd (nlt_0 (by decide) e) z, fun z => absurd z (nlt_m6 (by decide) e)⟩
      have p18 : P 42 18 = mFp t B 8 := by
        rw [hPB]; unfold mFall; rw [mFallK_42, mFallO_18]
      refine ⟨⟨⟨u', hYP⟩, hpads, ⟨?_, ?_, ?_, ?_⟩, ?_, ?_, d2, ?_, ?_⟩, hfr⟩
      · rw [p6 1 (by decide), p42g 21 (by decide) (by decide), g21]; exact hb
      · rw [p6 2 (by decide), p42g 22 (by decide) (by decide), g22]; exact b4 hb
      · rw [p6 1 (by decide)]; exact b3
      · rw [p6 1 (by decide), p6 2 (by decide)]; exact b4
      · rw [p63, p18]
        by_cases hc : Z 6 3 = -6 ∧ ¬ dlv C = dlv Z
        · rw [if_pos hc]
          have hex : ∃ i, i < 8 ∧ mLand t B i = true ∧ mDownC B i = B 46 i := Classical.not_not.mp (fun z => hc.2 (hdl.mpr z))
          rw [hm.1 ⟨hex, h6.mpr hc.1⟩, b42, g19]
          exact ⟨rfl, Or.inr kk⟩
        · rw [if_neg hc]
          have : ¬ ((∃ i, i < 8 ∧ mLand t B i = true ∧ mDownC B i = B 46 i) ∧ ¬ 0 ≤ B 42 18) := fun ⟨z1, z2⟩ => hc ⟨h6.mp z2, fun q => hdl.mp q z1⟩
          rw [hm.2 this, e18]
          exact ⟨rfl, f2⟩
      · rw [p6 4 (by decide)]; exact d1
      · have e17 : P 42 17 = Z 42 17 + nI (zct (mLand t B) 8) := by
          rw [hPB]; unfold mFall; rw [mFallK_42, mFallO_17, b42' 17 (by decide) (by decide) (by decide)]
        rw [e17, d3, nI_add]
        congr 1
        rw [zct_cong hland]
        symm
        refine zct_add (fun i hi => ?_)
        obtain ⟨q1, q2⟩ := hdn i hi
        have q3 := d4 i hi
        rw [q1]
        revert q2 q3
        generalize dn t Z i = p
        generalize lnd t Z i = q
        generalize d0.testBit i = r
        cases p <;> cases q <;> cases r <;> decide
      · intro i hi hd
        rw [(hdn i hi).1, d4 i hi hd]; rfl
    · have hcd := fun i hi => cAct_dn (x := Z 5 k) (Z := Z) (t := t) q4 (k := i) hi
      have hdl : dlv C = dlv Z := by
        unfold dlv
        rw [hC, (hcd 0 (by decide)).2.1, (hcd 0 (by decide)).2.2.1, (hcd 0 (by decide)).2.2.2]
      have p42 : P 42 = g := by rw [hP1, mAct_at42 q4, zr_eq]
      have hdn : ∀ i, i < 8 → dn t P i = dn t Z i := fun i hi => by
        have e : dn t P i = dn t C i := by unfold dn; rw [plo 37 (by decide), plo 38 (by decide), na 37 (by decide), na 38 (by decide)]
        rw [e, hC]; exact (hcd i hi).1
      have p63' : P 6 3 = Z 6 3 := by rw [p63, if_neg (fun z => z.2 hdl)]
      refine ⟨⟨⟨u', hYP⟩, hpads, ⟨?_, ?_, ?_, ?_⟩, ?_, ?_, d2, ?_, ?_⟩, hfr⟩
      · rw [p6 1 (by decide), p42, g21]; exact hb
      · rw [p6 2 (by decide), p42, g22]; exact b4 hb
      · rw [p6 1 (by decide)]; exact b3
      · rw [p6 1 (by decide), p6 2 (by decide)]; exact b4
      · rw [p63', p42, g_ 18 (by decide) (by decide) (by decide)]; exact ⟨f1, f2⟩
      · rw [p6 4 (by decide)]; exact d1
      · rw [p42, g_ 17 (by decide) (by decide) (by decide), d3]
        congr 1
        exact zct_cong (fun i hi => by rw [hdn i hi])
      · intro i hi hd
        rw [hdn i hi]; exact d4 i hi hd
  · -- it can not be
    obtain ⟨r, hr⟩ : ∃ r, r = zwy 35 Z j (Z 5 k) := ⟨_, rfl⟩
    have hr12 : r = 1 ∨ r = 2 := by
      rcases zwy_cases 35 Z j (Z 5 k) with e | e | e
      · exact absurd e hw
      · exact Or.inl (hr.trans e)
      · exact Or.inr (hr.trans e)
    have hrn : ¬ r ≤ 0 := by rcases hr12 with e | e <;> rw [e] <;> decide
    have hN1 : N = zs (zs Z 6 1 (nI k)) 6 2 r := by
      rw [hN]; unfold cStep; rw [e4, ej, if_neg hw, ← hr]
    have na : ∀ a, a ≠ 6 → N a = Z a := fun a ha => by rw [hN1, zs_ne ha, zs_ne ha]
    have hmix : N = mix N Z := by
      funext a
      by_cases ha : a < 42
      · rw [mix_lt ha]
      · rw [mix_ge ha]; exact na a (by omega)
    have hwN : zwm t N j (Z 55 k) = r := by rw [hmix, zwm_mix, hwm]; exact hr.symm
    obtain ⟨P, hP⟩ : ∃ P, P = mStep t k N := ⟨_, rfl⟩
    rw [← hP]
    have hP1 : P = zr N 42 (upd (upd (upd (Z 42) 19 (nI k)) 21 (nI k)) 22 r) := by
      rw [hP]; unfold mStep
      rw [na 54 (by decide), na 55 (by decide), e54, ej, hwN, if_neg (by rw [hr]; exact hw), mPre_zr, if_neg hrn, if_neg hrn, na 42 (by decide)]
    have pn : ∀ a, a ≠ 42 → a ≠ 6 → P a = Z a := fun a h1 h2 => by rw [hP1, zr_ne h1, na a h2]
    have p42 : ∀ i, i ≠ 19 → i ≠ 21 → i ≠ 22 → P 42 i = Z 42 i := fun i h1 h2 h3 => by
      rw [hP1, zr_eq]; unfold upd; rw [if_neg h3, if_neg h2, if_neg h1]
    have p21 : P 42 21 = nI k := by rw [hP1, zr_eq]; rfl
    have p22 : P 42 22 = r := by rw [hP1, zr_eq]; rfl
    have p6 : ∀ i, P 6 i = if i = 2 then r else if i = 1 then nI k else Z 6 i := fun i => by
      rw [hP1, zr_ne (by decide), hN1, zs_at, zs_at]
    have hfr : zfr Z P := ⟨fun a h1 h2 => pn a (by omega) h1, fun i h1 h2 h3 h4 h5 => p42 i h3 h4 h5⟩
    refine ⟨⟨⟨u, YD_cong hY (fun a h1 h2 h3 => pn a h3 (by omega)) (p42 0 (by decide) (by decide) (by decide)) (p42 11 (by decide) (by decide) (by decide))⟩, ?_, ⟨?_, ?_, ?_, ?_⟩, ?_, ?_, d2, ?_, ?_⟩, hfr⟩
    · intro i hi
      obtain ⟨j', a1, a2, a3, a4⟩ := hp i hi
      refine ⟨j', a1, ?_, ?_, ?_⟩
      · rw [pn 4 (by decide) (by decide)]; exact a2
      · rw [pn 54 (by decide) (by decide)]; exact a3
      · rw [pn 5 (by decide) (by decide), pn 55 (by decide) (by decide)]; exact a4
    · rw [p6, p21]; rfl
    · rw [p6, p22]; rfl
    · rw [p6]; exact Or.inr kk
    · rw [p6]; exact fun z => absurd z (nlt_m6 (by decide) kk)
    · rw [p6, p42 18 (by decide) (by decide) (by decide)]; exact ⟨f1, f2⟩
    · rw [p6]; exact d1
    · rw [p42 17 (by decide) (by decide) (by decide), d3]
      congr 1
      exact zct_cong (fun i hi => by unfold dn; rw [pn 37 (by decide) (by decide), pn 38 (by decide) (by decide)])
    · intro i hi hd
      unfold dn
      rw [pn 37 (by decide) (by decide), pn 38 (by decide) (by decide)]
      exact d4 i hi hd
theorem zst_s (t : Nat) (Z : Mm) (k : Nat) : zst t Z (k + 1) = if zst t Z k 6 1 = -6 then mStep t k (cStep k (zst t Z k)) else zst t Z k := rfl
theorem JJ_zst (h : JJ t d0 n Z) (hn : n ≤ 60) : ∀ k, k ≤ n → JJ t d0 n (zst t Z k) ∧ zfr Z (zst t Z k) := by
  intro k
  induction k with
  | zero => intro _; exact ⟨h, zfr_rf Z⟩
  | succ k ih =>
    intro hk
    obtain ⟨i1, i2⟩ := ih (by omega)
    rw [zst_s]
    by_cases hb : zst t Z k 6 1 = -6
    · rw [if_pos hb]
      obtain ⟨g1, g2⟩ := JJ_step (k := k) i1 (by omega) hn hb
      exact ⟨g1, zfr_tr i2 g2⟩
    · rw [if_neg hb]
      exact ⟨i1, i2⟩
end STEP
