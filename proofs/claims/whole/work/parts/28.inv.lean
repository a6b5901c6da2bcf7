/-! the rounds keep what is in common -/
theorem YD_cong {t u : Nat} {M P : Mm} (h : YD 35 (vM M) t u M) (hc : ∀ a, 35 ≤ a → a ≤ 52 → a ≠ 42 → P a = M a) (h0 : P 42 0 = M 42 0) (h11 : P 42 11 = M 42 11) : YD 35 (vM P) t u P := by
  obtain ⟨ht, hu, e0, hv0, h7, hF, hO, hA, hS⟩ := h
  have c := fun a h1 h2 h3 => hc a h1 h2 h3
  refine ⟨ht, hu, by rw [c 35 (by decide) (by decide) (by decide)]; exact e0, ?_, by rw [c 35 (by decide) (by decide) (by decide)]; exact h7, ?_, ?_, ?_, ?_⟩
  · show P 42 0 = nI t
    rw [h0]; exact hv0
  · intro k hk
    have := hF k hk
    show (t.testBit k = true → (P 43 k = P 36 k ∧ P 44 k = P 37 k ∧ P 45 k = P 38 k ∧ P 46 k = P 39 k ∧ P 47 k = P 40 k) ∧ FRg (P 36 k) (P 37 k) (P 38 k) (P 39 k) (P 40 k)) ∧ (t.testBit k = false → P 38 k = 0)
    rw [c 43 (by decide) (by decide) (by decide), c 44 (by decide) (by decide) (by decide), c 45 (by decide) (by decide) (by decide), c 46 (by decide) (by decide) (by decide), c 47 (by decide) (by decide) (by decide), c 36 (by decide) (by decide) (by decide), c 37 (by decide) (by decide) (by decide), c 38 (by decide) (by decide) (by decide), c 39 (by decide) (by decide) (by decide), c 40 (by decide) (by decide) (by decide)]
    exact this
  · intro e he
    have := hO e he
    show P 48 e = P 41 e ∧ zlt 16 (P 41 e) ∧ P 49 e = _
    rw [c 41 (by decide) (by decide) (by decide), c 48 (by decide) (by decide) (by decide), c 49 (by decide) (by decide) (by decide)]; exact this
  · show P 50 0 = P 35 8 ∧ P 50 1 = P 35 9 ∧ zlt 256 (P 35 8) ∧ zlt 256 (P 35 9)
    rw [c 35 (by decide) (by decide) (by decide), c 50 (by decide) (by decide) (by decide)]; exact hA
  · exact YS_cong hS (by rw [c 35 (by decide) (by decide) (by decide)]) (by rw [c 35 (by decide) (by decide) (by decide)]) (by rw [c 35 (by decide) (by decide) (by decide)]) (by funext k; show P 51 k = M 51 k; rw [c 51 (by decide) (by decide) (by decide)]) (by funext k; show P 52 k = M 52 k; rw [c 52 (by decide) (by decide) (by decide)]) h11
section M42
variable {B : Mm} {g : Nat → Int32} {t : Nat}
theorem zr_sw {B : Mm} {c a : Nat} {f g : Nat → Int32} (h : a ≠ 42) : zr (zr B 42 g) c f a = zr B c f a := by
  unfold zr
  by_cases e : a = c
  · simp [e]
  · simp [e, h]
theorem mDownC_42 (k : Nat) : mDownC (zr B 42 g) k = mDownC B k := by
  unfold mDownC
  rw [zcm_cong (M := B) (M' := zr B 42 g) (zr_ne (by decide)) (zr_ne (by decide)) 6 0, zr_ne (by decide), zr_ne (by decide)]
theorem mFallW_42 : mFallW t (zr B 42 g) = mFallW t B := by
  funext j
  unfold mFallW
  rw [mDownC_42]
  rfl
theorem mAct_42 {j : Nat} {y : Int32} {a : Nat} (h : a ≠ 42) : mAct t j y (zr B 42 g) a = mAct t j y B a := by
  unfold mAct
  split
  · exact zr_sw (f := zup (B 43) (mGrowR t (B 50 0) B) 8) h
  split
  · exact zr_sw (f := zup (B 43) (mGrowR t (B 50 1) B) 8) h
  split
  · show zr (zr (zr B 42 g) 44 (zup (B 44) (mBlowP t (-1) B) 8)) 45 (zup (B 45) (mBlowH t (-1) B) 8) a = _
    unfold mBlow zr
    by_cases e : a = 45
    · simp [e]
    · by_cases e2 : a = 44
      · simp [e2]
      · simp [e, e2, h]
  split
  · show zr (zr (zr B 42 g) 44 (zup (B 44) (mBlowP t 1 B) 8)) 45 (zup (B 45) (mBlowH t 1 B) 8) a = _
    unfold mBlow zr
    by_cases e : a = 45
    · simp [e]
    · by_cases e2 : a = 44
      · simp [e2]
      · simp [e, e2, h]
  split
  · unfold mFall mFallK
    rw [zr_ne h, zr_ne h, mFallW_42]
    show zr (zr (zr B 42 g) 45 (zup (B 45) (mFallH t B) 8)) 47 (zup (B 47) (mFallW t B) 8) a = _
    unfold zr
    by_cases e : a = 47
    · simp [e]
    · by_cases e2 : a = 45
      · simp [e2]
      · simp [e, e2, h]
  split
  · exact zr_sw h
  split
  · exact zr_sw h
  · exact zr_sw h
theorem mAct_at42 {j : Nat} {y : Int32} (h : j ≠ 4) : mAct t j y B 42 = B 42 := by
  unfold mAct
  split
  · exact zr_ne (by decide)
  split
  · exact zr_ne (by decide)
  split
  · unfold mBlow; rw [zr_ne (by decide), zr_ne (by decide)]
  split
  · unfold mBlow; rw [zr_ne (by decide), zr_ne (by decide)]
  split
  · exact zs_ne (by decide) _ _
  split
  · exact zs_ne (by decide) _ _
  · exact zs_ne (by decide) _ _
theorem mAct_lt {j : Nat} {y : Int32} {a : Nat} (h : a < 42) : mAct t j y B a = B a := by
  have e := mAct_mix (A := B) (B := B) (t := t) j y
  rw [mix_self] at e
  rw [e, mix_lt h]
theorem mAct_hi {j : Nat} {y : Int32} {a : Nat} (h : 50 ≤ a) : mAct t j y B a = B a := by
  unfold mAct
  split
  · exact zr_ne (by omega)
  split
  · exact zr_ne (by omega)
  split
  · unfold mBlow; rw [zr_ne (by omega), zr_ne (by omega)]
  split
  · unfold mBlow; rw [zr_ne (by omega), zr_ne (by omega)]
  split
  · exact mFall_ne t B (by omega) (by omega) (by omega)
  split
  · exact zs_ne (by omega) _ _
  split
  · exact zs_ne (by omega) _ _
  · exact zs_ne (by omega) _ _
theorem mAct_46 {j : Nat} {y : Int32} : mAct t j y B 46 = B 46 := by
  unfold mAct
  split
  · exact zr_ne (by omega)
  split
  · exact zr_ne (by omega)
  split
  · unfold mBlow; rw [zr_ne (by omega), zr_ne (by omega)]
  split
  · unfold mBlow; rw [zr_ne (by omega), zr_ne (by omega)]
  split
  · exact mFall_ne t B (by omega) (by omega) (by omega)
  split
  · exact zs_ne (by omega) _ _
  split
  · exact zs_ne (by omega) _ _
  · exact zs_ne (by omega) _ _
end M42
theorem cAct_ne {j : Nat} {x : Int32} {Z : Mm} {a : Nat} (h : a < 35 ∨ 41 < a) : cAct 35 j x Z a = Z a := by
  unfold cAct
  split
  · exact zr_ne (by omega)
  split
  · exact zr_ne (by omega)
  split
  · unfold cBlow; rw [zr_ne (by omega), zr_ne (by omega)]
  split
  · unfold cBlow; rw [zr_ne (by omega), zr_ne (by omega)]
  split
  · unfold cFall; rw [zr_ne (by omega), zr_ne (by omega)]
  split
  · exact zs_ne (by omega) _ _
  split
  · exact zs_ne (by omega) _ _
  · exact zs_ne (by omega) _ _
/-- down, of the flakes that are there -/
def dn (t : Nat) (M : Mm) (k : Nat) : Bool := t.testBit k && decide (M 38 k ≤ 0) && decide (¬ M 37 k = -6)
theorem cAct_dn {j : Nat} {x : Int32} {Z : Mm} {t : Nat} (hj : j ≠ 4) {k : Nat} (hk : k < 8) : dn t (cAct 35 j x Z) k = dn t Z k ∧ cAct 35 j x Z 39 = Z 39 ∧ cAct 35 j x Z 40 = Z 40 ∧ cAct 35 j x Z 35 0 = Z 35 0 := by
  have bl : ∀ d, dn t (cBlow 35 d Z) k = dn t Z k ∧ cBlow 35 d Z 39 = Z 39 ∧ cBlow 35 d Z 40 = Z 40 ∧ cBlow 35 d Z 35 0 = Z 35 0 := by
    intro d
    refine ⟨?_, by unfold cBlow; rw [zr_ne (by decide), zr_ne (by decide)], by unfold cBlow; rw [zr_ne (by decide), zr_ne (by decide)], by unfold cBlow; rw [zr_ne (by decide), zr_ne (by decide)]⟩
    have c2 : cBlow 35 d Z 37 k = if Z 38 k ≤ 0 then Z 37 k else zwind (Z 37 k) d := by unfold cBlow; rw [zr_ne (by decide), zr_eq, zup_in hk]; rfl
    have c3 : cBlow 35 d Z 38 k = if Z 38 k ≤ 0 then Z 38 k else zwindH (Z 37 k) d (Z 38 k) := by unfold cBlow; rw [zr_eq, zup_in hk]; rfl
    unfold dn
    rw [c2, c3]
    by_cases q : Z 38 k ≤ 0
    · rw [if_pos q, if_pos q]
    · rw [if_neg q, if_neg q]
      unfold zwind zwindH
      by_cases hi : 0 ≤ (Z 37 k + d).toInt ∧ (Z 37 k + d).toInt < 16
      · rw [if_pos hi, if_pos hi, decide_eq_false q, Bool.and_false, Bool.false_and, Bool.false_and]
      · rw [if_neg hi, if_neg hi, decide_eq_false q, decide_eq_false (p := ¬ (-6 : Int32) = -6) (by decide), Bool.and_false, Bool.and_false, Bool.false_and]
  have zsr : ∀ c i v, c ≠ 37 → c ≠ 38 → c ≠ 39 → c ≠ 40 → (c = 35 → i ≠ 0) → dn t (zs Z c i v) k = dn t Z k ∧ zs Z c i v 39 = Z 39 ∧ zs Z c i v 40 = Z 40 ∧ zs Z c i v 35 0 = Z 35 0 := by
    intro c i v h1 h2 h3 h4 h5
    refine ⟨?_, zs_ne (Ne.symm h3) _ _, zs_ne (Ne.symm h4) _ _, ?_⟩
    · unfold dn; rw [zs_ne (Ne.symm h1), zs_ne (Ne.symm h2)]
    · by_cases e : c = 35
      · subst e; exact zs_nj (Ne.symm (h5 rfl)) _
      · rw [zs_ne (Ne.symm e)]
  have gr : ∀ w, dn t (cGrow 35 w Z) k = dn t Z k ∧ cGrow 35 w Z 39 = Z 39 ∧ cGrow 35 w Z 40 = Z 40 ∧ cGrow 35 w Z 35 0 = Z 35 0 := by
    intro w
    refine ⟨?_, zr_ne (by decide), zr_ne (by decide), by unfold cGrow; rw [zr_ne (by decide)]⟩
    unfold dn cGrow; rw [zr_ne (by decide), zr_ne (by decide)]
  unfold cAct
  split
  · exact gr _
  split
  · exact gr _
  split
  · exact bl _
  split
  · exact bl _
  split
  · exact zsr _ _ _ (by decide) (by decide) (by decide) (by decide) (fun e => absurd e (by decide))
  split
  · exact zsr _ _ _ (by decide) (by decide) (by decide) (by decide) (fun e => absurd e (by decide))
  · exact zsr _ _ _ (by decide) (by decide) (by decide) (by decide) (fun _ => by decide)
/-- who comes down now -/
def lnd (t : Nat) (Z : Mm) (k : Nat) : Bool := t.testBit k && decide (¬ Z 38 k ≤ 0) && decide (Z 38 k - 1 = 0)
section FALL
variable {Z : Mm} {t u : Nat}
theorem fall_38 {k : Nat} (hk : k < 8) : cFall 35 Z 38 k = if Z 38 k ≤ 0 then Z 38 k else Z 38 k - 1 := by unfold cFall; rw [zr_ne (by decide), zr_eq, zup_in hk]; rfl
theorem fall_40 {k : Nat} (hk : k < 8) : cFall 35 Z 40 k = if Z 38 k ≤ 0 then Z 40 k else if Z 38 k - 1 = 0 then zCat 35 Z (Z 37 k) 6 0 else -6 := by unfold cFall; rw [zr_eq, zup_in hk]; rfl
theorem fall_ne {a : Nat} (h : a ≠ 38) (h2 : a ≠ 40) : cFall 35 Z a = Z a := by unfold cFall; rw [zr_ne h2, zr_ne h]
theorem fall_dn (h : YD 35 (vM Z) t u Z) {k : Nat} (hk : k < 8) : dn t (cFall 35 Z) k = (dn t Z k || lnd t Z k) ∧ ¬ (dn t Z k = true ∧ lnd t Z k = true) := by
  have hF := h.2.2.2.2.2.1
  unfold dn lnd
  rw [fall_38 hk, fall_ne (by decide) (by decide)]
  cases hb : t.testBit k with
  | false => simp
  | true =>
    have hg := ((hF k hk).1 hb).2
    by_cases q : Z 38 k ≤ 0
    · rw [if_pos q]
      simp [q]
    · rw [if_neg q]
      obtain ⟨a, ha, e⟩ := zlt_le (by decide) hg.2.2.1 q
      have e : Z 38 k = nI (a + 1) := e
      have e2 : Z 38 k - 1 = nI a := by rw [e]; exact nI_pred a
      have hp : ¬ Z 37 k = -6 := by
        rcases hg.2.1 with ⟨b, hb, e⟩ | ⟨-, e⟩
        · have e : Z 37 k = nI b := e
          rw [e]; intro z
          have := congrArg Int32.toInt z
          rw [nI_ti (by omega)] at this
          have e6 : (-6 : Int32).toInt = -6 := rfl
          rw [e6] at this
          omega
        · have e : Z 38 k = 0 := e
          exact absurd (by rw [e]; decide) q
      rw [e2, decide_eq_false q, decide_eq_true q, decide_eq_true hp]
      by_cases q2 : nI a = 0
      · have : nI a ≤ 0 := by rw [q2]; decide
        simp [q2]
      · have : ¬ nI a ≤ 0 := by
          cases a with
          | zero => exact absurd rfl q2
          | succ a => exact nI_nle (by omega) (by omega)
        simp [q2, this]
theorem fall_land (h : YD 35 (vM Z) t u Z) {k : Nat} (hk : k < 8) {B : Mm} (hB : B 45 = Z 45) : mLand t B k = lnd t Z k := by
  have hF := h.2.2.2.2.2.1
  unfold mLand lnd zab
  rw [hB]
  cases hb : t.testBit k with
  | false => rfl
  | true =>
    have e : Z 45 k = Z 38 k := ((hF k hk).1 hb).1.2.2.1
    rw [e]
theorem zct_add {P Q R : Nat → Bool} : ∀ {n : Nat}, (∀ k, k < n → R k = (P k || Q k) ∧ ¬ (P k = true ∧ Q k = true)) → zct R n = zct P n + zct Q n
  | 0, _ => rfl
  | n + 1, h => by
    have ih := zct_add (P := P) (Q := Q) (R := R) (n := n) (fun k hk => h k (by omega))
    obtain ⟨h1, h2⟩ := h n (by omega)
    unfold zct
    rw [ih, h1]
    cases hP : P n with
    | false => cases hQ : Q n <;> simp <;> omega
    | true =>
      cases hQ : Q n with
      | false => simp; omega
      | true => exact absurd ⟨hP, hQ⟩ h2
theorem zbs_inj {P Q : Nat → Bool} {n : Nat} (h : zbs P n = zbs Q n) {k : Nat} (hk : k < n) : P k = Q k := by
  have h1 := zbs_tb P n k
  rw [h, zbs_tb] at h1
  simpa [hk] using h1.symm
/-- the class sees a new one delivered just if one lands with whom it is for -/
theorem fall_dlv (h : YD 35 (vM Z) t u Z) : dlv (cFall 35 Z) = dlv Z ↔ ¬ ∃ k, k < 8 ∧ lnd t Z k = true ∧ zCat 35 Z (Z 37 k) 6 0 = Z 39 k := by
  have h0 := h.2.2.1
  have hF := h.2.2.2.2.2.1
  unfold dlv
  rw [show cFall 35 Z 35 = Z 35 from fall_ne (by decide) (by decide), show cFall 35 Z 39 = Z 39 from fall_ne (by decide) (by decide), h0, z_and, z_and]
  have l1 := zbs_lt (fun k => decide (cFall 35 Z 40 k = Z 39 k) && t.testBit k) 8
  have l2 := zbs_lt (fun k => decide (Z 40 k = Z 39 k) && t.testBit k) 8
  rw [nI_eq (by omega) (by omega)]
  have key : ∀ k, k < 8 → ((decide (cFall 35 Z 40 k = Z 39 k) && t.testBit k) = (decide (Z 40 k = Z 39 k) && t.testBit k) ↔ ¬ (lnd t Z k = true ∧ zCat 35 Z (Z 37 k) 6 0 = Z 39 k)) := by
    intro k hk
    rw [fall_40 hk]
    unfold lnd
    cases hb : t.testBit k with
    | false => simp
    | true =>
      have hg := ((hF k hk).1 hb).2
      by_cases q : Z 38 k ≤ 0
      · rw [if_pos q]; simp [q]
      · rw [if_neg q]
        have w : Z 40 k = -6 := hg.2.2.2.2.2 q
        have hm : ¬ (-6 : Int32) = Z 39 k := by
          obtain ⟨b, hb, e⟩ := hg.2.2.2.1
          have e : Z 39 k = nI b := e
          rw [e]; intro z
          have := congrArg Int32.toInt z
          rw [nI_ti (by omega)] at this
          have e6 : (-6 : Int32).toInt = -6 := rfl
          rw [e6] at this
          omega
        rw [w, decide_eq_false hm, decide_eq_true q]
        by_cases q2 : Z 38 k - 1 = 0
        · rw [if_pos q2, decide_eq_true q2]
          by_cases q3 : zCat 35 Z (Z 37 k) 6 0 = Z 39 k
          · simp [q3]
          · simp [q3]
        · rw [if_neg q2, decide_eq_false q2, decide_eq_false hm]
          simp
  constructor
  · rintro e ⟨k, hk, hl⟩
    exact (key k hk).mp (zbs_inj e hk) hl
  · intro hn
    exact zbs_cong (fun k hk => (key k hk).mpr (fun z => hn ⟨k, hk, z⟩))
theorem mFp_8 {M : Mm} (h19 : 0 ≤ M 42 19) : ∀ n, ((∃ k, k < n ∧ mLand t M k = true ∧ mDownC M k = M 46 k) ∧ ¬ 0 ≤ M 42 18 → mFp t M n = M 42 19) ∧ (¬ ((∃ k, k < n ∧ mLand t M k = true ∧ mDownC M k = M 46 k) ∧ ¬ 0 ≤ M 42 18) → mFp t M n = M 42 18)
  | 0 => ⟨fun ⟨⟨k, hk, _⟩, _⟩ => absurd hk (by omega), fun _ => rfl⟩
  | n + 1 => by
    obtain ⟨i1, i2⟩ := mFp_8 h19 n
    unfold mFp
    by_cases hE : (∃ k, k < n ∧ mLand t M k = true ∧ mDownC M k = M 46 k) ∧ ¬ 0 ≤ M 42 18
    · have e := i1 hE
      obtain ⟨⟨k, hk, hl⟩, hn⟩ := hE
      rw [e, if_neg (fun z => z.2.2 h19)]
      exact ⟨fun _ => rfl, fun z => absurd ⟨⟨k, by omega, hl⟩, hn⟩ z⟩
    · have e := i2 hE
      rw [e]
      by_cases hc : mLand t M n = true ∧ mDownC M n = M 46 n ∧ ¬ 0 ≤ M 42 18
      · rw [if_pos hc]
        exact ⟨fun _ => rfl, fun z => absurd ⟨⟨n, by omega, hc.1, hc.2.1⟩, hc.2.2⟩ z⟩
      · rw [if_neg hc]
        refine ⟨?_, fun _ => rfl⟩
        rintro ⟨⟨k, hk, hl⟩, hn⟩
        by_cases hkn : k = n
        · subst hkn
          exact absurd ⟨hl.1, hl.2, hn⟩ hc
        · exact absurd ⟨⟨k, by omega, hl⟩, hn⟩ hE
end FALL
