/-! the loops of the days -/
def cz (M : Mm) : Nat → Mm
  | 0 => M
  | k + 1 => if cz M k 6 1 = -6 then cStep k (cz M k) else cz M k
def mz (t : Nat) (M : Mm) : Nat → Mm
  | 0 => M
  | k + 1 => if 0 ≤ mz t M k 42 21 then mz t M k else mStep t k (mz t M k)
theorem cz_s (M : Mm) (k : Nat) : cz M (k + 1) = if cz M k 6 1 = -6 then cStep k (cz M k) else cz M k := rfl
theorem mz_s (t : Nat) (M : Mm) (k : Nat) : mz t M (k + 1) = if 0 ≤ mz t M k 42 21 then mz t M k else mStep t k (mz t M k) := rfl
theorem cz_stop {M : Mm} {k : Nat} (h : ¬ cz M k 6 1 = -6) : ∀ d, cz M (k + d) = cz M k
  | 0 => rfl
  | d + 1 => by
    have ih := cz_stop h d
    rw [← Nat.add_assoc, cz_s, ih, if_neg h]
theorem mz_stop {t : Nat} {M : Mm} {k : Nat} (h : 0 ≤ mz t M k 42 21) : ∀ d, mz t M (k + d) = mz t M k
  | 0 => rfl
  | d + 1 => by
    have ih := mz_stop h d
    rw [← Nat.add_assoc, mz_s, ih, if_pos h]
theorem cStep_ne {k : Nat} {Z : Mm} {a : Nat} (h6 : a ≠ 6) (h : a < 35 ∨ 41 < a) : cStep k Z a = Z a := by
  unfold cStep
  split
  · split
    · rw [zs_ne h6, cAct_ne h]
    · exact cAct_ne h
  · rw [zs_ne h6, zs_ne h6]
theorem cz_ne {M : Mm} {a : Nat} (h6 : a ≠ 6) (h : a < 35 ∨ 41 < a) : ∀ k, cz M k a = M a := by
  intro k
  induction k with
  | zero => rfl
  | succ k ih =>
    rw [cz_s]
    by_cases hb : cz M k 6 1 = -6
    · rw [if_pos hb, cStep_ne h6 h, ih]
    · rw [if_neg hb, ih]
theorem mStep_hi {t k : Nat} {Z : Mm} {a : Nat} (h : 50 ≤ a) : mStep t k Z a = Z a := by
  unfold mStep
  split
  · rw [mAct_hi h, mPre_zr, zr_ne (by omega)]
  · rw [mPre_zr, zr_ne (by omega)]
theorem mStep_lt {t k : Nat} {Z : Mm} {a : Nat} (h : a < 42) : mStep t k Z a = Z a := by
  unfold mStep
  split
  · rw [mAct_lt h, mPre_zr, zr_ne (by omega)]
  · rw [mPre_zr, zr_ne (by omega)]
theorem mAct_42i {t j : Nat} {y : Int32} {B : Mm} {i : Nat} (h1 : i ≠ 17) (h2 : i ≠ 18) : mAct t j y B 42 i = B 42 i := by
  by_cases q : j = 4
  · subst q
    show mFall t B 42 i = _
    unfold mFall
    rw [mFallK_42, mFallO_ne t _ 8 h1 h2]
  · rw [mAct_at42 q]
theorem mPre_42i {t k : Nat} {Z : Mm} {r : Int32} {i : Nat} (h3 : i ≠ 19) (h4 : i ≠ 21) (h5 : i ≠ 22) : mPre t k Z r 42 i = Z 42 i := by
  rw [mPre_zr, zr_eq]; unfold upd; rw [if_neg h5, if_neg h4, if_neg h3]
theorem mStep_42i {t k : Nat} {Z : Mm} {i : Nat} (h1 : i ≠ 17) (h2 : i ≠ 18) (h3 : i ≠ 19) (h4 : i ≠ 21) (h5 : i ≠ 22) : mStep t k Z 42 i = Z 42 i := by
  unfold mStep
  split
  · rw [mAct_42i h1 h2, mPre_42i h3 h4 h5]
  · exact mPre_42i h3 h4 h5
theorem mz_hi {t : Nat} {M : Mm} {a : Nat} (h : 50 ≤ a) : ∀ k, mz t M k a = M a := by
  intro k
  induction k with
  | zero => rfl
  | succ k ih =>
    rw [mz_s]
    by_cases hb : 0 ≤ mz t M k 42 21
    · rw [if_pos hb, ih]
    · rw [if_neg hb, mStep_hi h, ih]
theorem mz_lt {t : Nat} {M : Mm} {a : Nat} (h : a < 42) : ∀ k, mz t M k a = M a := by
  intro k
  induction k with
  | zero => rfl
  | succ k ih =>
    rw [mz_s]
    by_cases hb : 0 ≤ mz t M k 42 21
    · rw [if_pos hb, ih]
    · rw [if_neg hb, mStep_lt h, ih]
theorem mz_42i {t : Nat} {M : Mm} {i : Nat} (h1 : i ≠ 17) (h2 : i ≠ 18) (h3 : i ≠ 19) (h4 : i ≠ 21) (h5 : i ≠ 22) : ∀ k, mz t M k 42 i = M 42 i := by
  intro k
  induction k with
  | zero => rfl
  | succ k ih =>
    rw [mz_s]
    by_cases hb : 0 ≤ mz t M k 42 21
    · rw [if_pos hb, ih]
    · rw [if_neg hb, mStep_42i h1 h2 h3 h4 h5, ih]
/-- both sides' rounds, run apart, are those of the pair -/
theorem zst_mix {t d0 n : Nat} {A B : Mm} (h : JJ t d0 n (mix A B)) (hn : n ≤ 60) : ∀ k, k ≤ n → zst t (mix A B) k = mix (cz A k) (mz t B k) := by
  intro k
  induction k with
  | zero => intro _; rfl
  | succ k ih =>
    intro hk
    have ih := ih (by omega)
    obtain ⟨⟨-, -, ⟨b1, b2, b3, b4⟩, -⟩, -⟩ := JJ_zst h hn k (by omega)
    rw [zst_s, cz_s, mz_s]
    rw [ih] at b1 b3 ⊢
    have e1 : mix (cz A k) (mz t B k) 6 1 = cz A k 6 1 := rfl
    have e2 : mix (cz A k) (mz t B k) 42 21 = mz t B k 42 21 := rfl
    rw [e1] at b1 b3 ⊢
    rw [e2] at b1
    by_cases hb : cz A k 6 1 = -6
    · rw [if_pos hb, if_pos hb, if_neg (by rw [← b1, hb]; decide), cStep_mix, mStep_mix]
    · rw [if_neg hb, if_neg hb, if_pos]
      rw [← b1]
      rcases b3 with e | e
      · exact absurd e hb
      · exact nlt_0 (by decide) e
def cok (Z : Mm) : Prop := zlt 256 (Z 35 8) ∧ zlt 256 (Z 35 9) ∧ ∀ k, k < 8 → ¬ Z 38 k ≤ 0 → zlt 256 (Z 36 k)
def mok (t : Nat) (Z : Mm) : Prop := Z 42 0 = nI t ∧ t < 256 ∧ zlt 256 (Z 50 0) ∧ zlt 256 (Z 50 1) ∧ ∀ k, k < 8 → zab t Z k = true → zlt 256 (Z 43 k)
theorem YD_cok {t u : Nat} {M : Mm} (h : YD 35 (vM M) t u M) : cok M := by
  obtain ⟨-, -, -, -, -, hF, -, hA, -⟩ := h
  refine ⟨hA.2.2.1, hA.2.2.2, fun k hk h0 => ?_⟩
  cases hb : t.testBit k with
  | true => exact ((hF k hk).1 hb).2.1
  | false =>
    have e : M 38 k = 0 := (hF k hk).2 hb
    exact absurd (by rw [e]; decide) h0
theorem YD_mok {t u : Nat} {M : Mm} (h : YD 35 (vM M) t u M) : mok t M := by
  obtain ⟨ht, -, -, hv0, -, hF, -, hA, -⟩ := h
  have a8 : M 50 0 = M 35 8 := hA.1
  have a9 : M 50 1 = M 35 9 := hA.2.1
  refine ⟨hv0, ht, by rw [a8]; exact hA.2.2.1, by rw [a9]; exact hA.2.2.2, fun k hk hz => ?_⟩
  have hb : t.testBit k = true := by
    unfold zab at hz
    cases hq : t.testBit k with
    | true => rfl
    | false => rw [hq] at hz; exact absurd hz (by simp)
  have hf := (hF k hk).1 hb
  have e : M 43 k = M 36 k := hf.1.1
  rw [e]; exact hf.2.1
section LIVE
variable {n : Nat} {M : Mm} {L : Ml} {post : Mm → Ml → Prop}
theorem sX2_live_loop {b : Nat} (hn : n ≤ 60) (e24 : M 2 4 = nI n) (hp : ∀ i, i < n → ∃ j : Nat, j < 8 ∧ M 4 i = nI j ∧ (5 ≤ j → zlt 6 (M 5 i))) (hok : ∀ k, k < n → cok (cz M k)) (h : post (cz M n) L) : ∃ j9 : Nat, wlX2_live_7 b post j9 (M, L, (0 : Int32)) := by
  unfold wlX2_live_7
  refine zlp_for n (fun k => (cz M k, L, nI k)) ?_ ?_
  · intro k K hk hK
    show wpX2_live_7 b post _ (cz M k) L (nI k)
    have ek : (nI k).toNatClampNeg = k := nI_clamp (by omega)
    unfold wpX2_live_7 wpX2_live_118 wpX2_live_104 wpX2_live_124 wpX2_live_118
    rw [ek, cz_ne (M := M) (a := 2) (by decide) (by decide) k, e24]
    refine pk_le n k (fun h => by omega) (fun _ => ?_)
    by_cases hb : cz M k 6 1 = -6
    · refine nt_ hb ⟨vp_in_nI (by omega) (by decide), vp_in_nI (by omega) (by decide), ?_⟩
      obtain ⟨j, hj, e4, e5⟩ := hp k hk
      have ej : (nI j).toNatClampNeg = j := nI_clamp (by omega)
      have z4 : cz M k 4 k = nI j := by rw [cz_ne (by decide) (by decide) k]; exact e4
      have z5 : cz M k 5 k = M 5 k := by rw [cz_ne (by decide) (by decide) k]
      have hs : cz M (k + 1) = cStep k (cz M k) := by rw [cz_s, if_pos hb]
      rw [hs] at hK
      unfold cStep at hK
      rw [z4, ej, z5] at hK
      rw [z4, z5]
      refine sX7_whyNot hj e5 ?_
      rcases Classical.em (zwy 35 (cz M k) j (M 5 k) = 0) with hw | hw
      · rw [if_pos hw] at hK
        rw [hw]
        refine b0 (sX7_delivered ⟨vp_in_nI (by omega) (by decide), vp_in_nI (by omega) (by decide), ?_⟩)
        rw [z4, z5]
        obtain ⟨o1, o2, o3⟩ := hok k hk
        refine sX7_carryOut hj e5 o1 o2 o3 ?_
        obtain ⟨C, hC⟩ : ∃ C, C = cAct 35 j (M 5 k) (cz M k) := ⟨_, rfl⟩
        rw [← hC] at hK ⊢
        refine ⟨fun hf a ha => ?_, fun hf => sX7_delivered ⟨fun hd a ha => ?_, fun hd M1 e1 a ha => ?_⟩⟩
        · rw [if_neg (fun z => hf z.1)] at hK
          rw [ha, nI_1]; exact hK
        · rw [if_neg (fun z => z.2 hd)] at hK
          rw [ha, nI_1]; exact hK
        · rw [if_pos ⟨hf, hd⟩] at hK
          rw [ha, nI_1, e1]; exact hK
      · rw [if_neg hw] at hK
        refine nf_ hw (fun M1 e1 M2 e2 a ha => ?_)
        rw [e2, e1, ha, nI_1]; exact hK
    · refine nf_ hb ?_
      have e : cz M n = cz M k := by
        have := cz_stop hb (n - k)
        rw [show k + (n - k) = n by omega] at this
        exact this
      rw [← e]; exact h
  · intro K
    show wpX2_live_7 b post _ (cz M n) L (nI n)
    unfold wpX2_live_7
    rw [cz_ne (M := M) (a := 2) (by decide) (by decide) n, e24]
    exact pk_le n n (fun _ => h) (fun h => by omega)
theorem sX9_goDays_loop {t : Nat} (hn : n ≤ 60) (e16 : M 42 16 = nI n) (hp : ∀ i, i < n → ∃ j : Nat, j < 8 ∧ M 54 i = nI j ∧ (5 ≤ j → zlt 6 (M 55 i))) (hok : ∀ k, k < n → mok t (mz t M k)) (h : post (mz t M n) L) : ∃ j9 : Nat, wlX9_goDays_25 post j9 (M, L, (0 : Int32)) := by
  unfold wlX9_goDays_25
  refine zlp_for n (fun k => (mz t M k, L, nI k)) ?_ ?_
  · intro k K hk hK
    show wpX9_goDays_25 post _ (mz t M k) L (nI k)
    have ek : (nI k).toNatClampNeg = k := nI_clamp (by omega)
    unfold wpX9_goDays_25 wpX9_goDays_73 wpX9_goDays_87 wpX9_goDays_110 wpX9_goDays_116
    rw [ek, mz_42i (by decide) (by decide) (by decide) (by decide) (by decide) k, e16]
    refine pk_le n k (fun h => by omega) (fun _ => ?_)
    by_cases hb : 0 ≤ mz t M k 42 21
    · refine bt_ hb ?_
      have e : mz t M n = mz t M k := by
        have := mz_stop hb (n - k)
        rw [show k + (n - k) = n by omega] at this
        exact this
      rw [← e]; exact h
    · refine bf_ hb (fun M1 e1 => ⟨vp_in_nI (by omega) (by decide), vp_in_nI (by omega) (by decide), ?_⟩)
      obtain ⟨j, hj, e4, e5⟩ := hp k hk
      have ej : (nI j).toNatClampNeg = j := nI_clamp (by omega)
      have z4 : mz t M k 54 k = nI j := by rw [mz_hi (by decide) k]; exact e4
      have z5 : mz t M k 55 k = M 55 k := by rw [mz_hi (by decide) k]
      have hs : mz t M (k + 1) = mStep t k (mz t M k) := by rw [mz_s, if_neg hb]
      rw [hs] at hK
      unfold mStep at hK
      rw [z4, ej, z5] at hK
      have m1 : ∀ a, a ≠ 42 → M1 a = mz t M k a := fun a ha => by rw [e1, zs_ne ha]
      rw [m1 54 (by decide), m1 55 (by decide), z4, z5]
      obtain ⟨o0, ot, o1, o2, o3⟩ := hok k hk
      refine sX9_whyNot (t := t) (by rw [e1, zs_nj (by decide)]; exact o0) ot hj e5 ?_
      have ez : zwm t M1 j (M 55 k) = zwm t (mz t M k) j (M 55 k) := by rw [e1]; rfl
      rw [ez]
      obtain ⟨r, hr⟩ : ∃ r, r = zwm t (mz t M k) j (M 55 k) := ⟨_, rfl⟩
      rw [← hr] at hK ⊢
      have pre : ∀ M3 : Mm, M3 = mPre t k (mz t M k) r → (¬ r = 0 → ∀ a : Int32, a = nI k + 1 → K (M3, L, a)) ∧ (r = 0 → vp_in (nI k) 60 ∧ vp_in (nI k) 60 ∧ wpX9_happen (M3 54 k) (M3 55 k) M3 L (fun M4 L4 => ∀ a : Int32, a = nI k + 1 → K (M4, L4, a))) := by
        intro M3 e3
        refine ⟨fun h0 a ha => ?_, fun h0 => ⟨vp_in_nI (by omega) (by decide), vp_in_nI (by omega) (by decide), ?_⟩⟩
        · rw [if_neg h0] at hK
          rw [ha, nI_1, e3]; exact hK
        · rw [if_pos h0] at hK
          have m3 : ∀ a, a ≠ 42 → M3 a = mz t M k a := fun a ha => by rw [e3, mPre_zr, zr_ne ha]
          rw [m3 54 (by decide), m3 55 (by decide), z4, z5]
          refine sX9_happen (t := t) (by rw [e3, mPre_42i (by decide) (by decide) (by decide)]; exact o0) ot hj e5 (by rw [m3 50 (by decide)]; exact o1) (by rw [m3 50 (by decide)]; exact o2) (fun i hi hz => ?_) (fun a ha => ?_)
          · rw [m3 43 (by decide)]
            exact o3 i hi (by rw [zab_cong (M := mz t M k) (m3 45 (by decide))] at hz; exact hz)
          · rw [ha, nI_1, e3]; exact hK
      refine ⟨fun hle M2 e2 => ⟨fun hle2 M3 e3 => ?_, fun hle2 => absurd hle hle2⟩, fun hle M2 e2 => ⟨fun hle2 => absurd hle2 hle, fun hle2 M3 e3 => ?_⟩⟩
      · refine pre M3 ?_
        rw [e3, e2, e1]; unfold mPre; rw [if_pos hle, if_pos hle]
      · refine pre M3 ?_
        rw [e3, e2, e1]; unfold mPre; rw [if_neg hle, if_neg hle]
  · intro K
    show wpX9_goDays_25 post _ (mz t M n) L (nI n)
    unfold wpX9_goDays_25
    rw [mz_42i (by decide) (by decide) (by decide) (by decide) (by decide) n, e16]
    exact pk_le n n (fun _ => h) (fun h => by omega)
end LIVE
