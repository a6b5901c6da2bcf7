/-! the class's cells of one memory beside the model's of another -/
def mix (A B : Mm) : Mm := fun a => if a < 42 then A a else B a
theorem mix_self (A : Mm) : mix A A = A := by funext a; unfold mix; split <;> rfl
theorem mix_lt {A B : Mm} {a : Nat} (h : a < 42) : mix A B a = A a := if_pos h
theorem mix_ge {A B : Mm} {a : Nat} (h : ¬ a < 42) : mix A B a = B a := if_neg h
theorem zr_mixL {A B : Mm} {c : Nat} {f : Nat → Int32} (h : c < 42) : zr (mix A B) c f = mix (zr A c f) B := by
  funext a
  unfold zr mix
  by_cases e : a = c
  · subst e; simp [h]
  · simp [e]
theorem zr_mixR {A B : Mm} {c : Nat} {f : Nat → Int32} (h : ¬ c < 42) : zr (mix A B) c f = mix A (zr B c f) := by
  funext a
  unfold zr mix
  by_cases e : a = c
  · subst e; simp [h]
  · simp [e]
theorem zs_mixL {A B : Mm} {c k : Nat} {v : Int32} (h : c < 42) : zs (mix A B) c k v = mix (zs A c k v) B := by
  unfold zs
  rw [mix_lt h, zr_mixL h]
theorem zs_mixR {A B : Mm} {c k : Nat} {v : Int32} (h : ¬ c < 42) : zs (mix A B) c k v = mix A (zs B c k v) := by
  unfold zs
  rw [mix_ge h, zr_mixR h]
section MIX
variable {A B : Mm} {t : Nat}
theorem cGrow_mix (w : Int32) : cGrow 35 w (mix A B) = mix (cGrow 35 w A) B := zr_mixL (f := zup (A 36) (cGrowR 35 w A) 8) (by decide)
theorem cBlow_mix (d : Int32) : cBlow 35 d (mix A B) = mix (cBlow 35 d A) B := by
  show zr (zr (mix A B) 37 (zup (A 37) (cBlowP 35 d A) 8)) 38 (zup (A 38) (cBlowH 35 d A) 8) = _
  rw [zr_mixL (by decide), zr_mixL (by decide)]
  rfl
theorem cFallW_mix : cFallW 35 (mix A B) = cFallW 35 A := by
  funext j
  unfold cFallW
  rw [zCat_cong (M := A) (M' := mix A B) (b := 35) (mix_lt (by decide)) (by rw [mix_lt (by decide)]) 6 0]
  rfl
theorem cFall_mix : cFall 35 (mix A B) = mix (cFall 35 A) B := by
  unfold cFall
  rw [cFallW_mix]
  show zr (zr (mix A B) 38 (zup (A 38) (cFallH 35 A) 8)) 40 (zup (A 40) (cFallW 35 A) 8) = _
  rw [zr_mixL (by decide), zr_mixL (by decide)]
theorem cAct_mix (j : Nat) (x : Int32) : cAct 35 j x (mix A B) = mix (cAct 35 j x A) B := by
  unfold cAct
  split
  · exact cGrow_mix _
  split
  · exact cGrow_mix _
  split
  · exact cBlow_mix _
  split
  · exact cBlow_mix _
  split
  · exact cFall_mix
  split
  · exact zs_mixL (by decide)
  split
  · exact zs_mixL (by decide)
  · exact zs_mixL (by decide)
theorem zwy_mix (j : Nat) (x : Int32) : zwy 35 (mix A B) j x = zwy 35 A j x := rfl
theorem mGrow_mix (w : Int32) : mGrow t w (mix A B) = mix A (mGrow t w B) := zr_mixR (f := zup (B 43) (mGrowR t w B) 8) (by decide)
theorem mBlow_mix (d : Int32) : mBlow t d (mix A B) = mix A (mBlow t d B) := by
  show zr (zr (mix A B) 44 (zup (B 44) (mBlowP t d B) 8)) 45 (zup (B 45) (mBlowH t d B) 8) = _
  rw [zr_mixR (by decide), zr_mixR (by decide)]
  rfl
theorem mDownC_mix (k : Nat) : mDownC (mix A B) k = mDownC B k := by
  unfold mDownC
  rw [zcm_cong (M := B) (M' := mix A B) (mix_ge (by decide)) (mix_ge (by decide)) 6 0, mix_ge (by decide), mix_ge (by decide)]
theorem mLand_mix : mLand t (mix A B) = mLand t B := rfl
theorem mFp_mix : ∀ k, mFp t (mix A B) k = mFp t B k
  | 0 => rfl
  | k + 1 => by
    unfold mFp
    rw [mFp_mix k, mDownC_mix, mLand_mix]
    rfl
theorem mFall_mix : mFall t (mix A B) = mix A (mFall t B) := by
  unfold mFall mFallK mFallO
  rw [mFp_mix, mLand_mix]
  have e : mFallW t (mix A B) = mFallW t B := by
    funext j
    unfold mFallW
    rw [mLand_mix, mDownC_mix]
    rfl
  rw [e]
  show zr (zr (zr (mix A B) 45 (zup (B 45) (mFallH t B) 8)) 47 (zup (B 47) (mFallW t B) 8)) 42 (upd (upd (B 42) 17 (B 42 17 + nI (zct (mLand t B) 8))) 18 (mFp t B 8)) = _
  rw [zr_mixR (by decide), zr_mixR (by decide), zr_mixR (by decide)]
theorem mAct_mix (j : Nat) (x : Int32) : mAct t j x (mix A B) = mix A (mAct t j x B) := by
  unfold mAct
  split
  · exact mGrow_mix _
  split
  · exact mGrow_mix _
  split
  · exact mBlow_mix _
  split
  · exact mBlow_mix _
  split
  · exact mFall_mix
  split
  · exact zs_mixR (by decide)
  split
  · exact zs_mixR (by decide)
  · exact zs_mixR (by decide)
theorem zwm_mix (j : Nat) (x : Int32) : zwm t (mix A B) j x = zwm t B j x := rfl
end MIX
/-- what the class counts as delivered -/
def dlv (M : Mm) : Int32 := nI (zbs (fun k => decide (M 40 k = M 39 k)) 8) &&& M 35 0
/-- one round of the class's days, of the model's -/
def cStep (k : Nat) (Z : Mm) : Mm :=
  if zwy 35 Z (Z 4 k).toNatClampNeg (Z 5 k) = 0 then
    (if cAct 35 (Z 4 k).toNatClampNeg (Z 5 k) Z 6 3 = -6 ∧ ¬ dlv (cAct 35 (Z 4 k).toNatClampNeg (Z 5 k) Z) = dlv Z then zs (cAct 35 (Z 4 k).toNatClampNeg (Z 5 k) Z) 6 3 (nI k) else cAct 35 (Z 4 k).toNatClampNeg (Z 5 k) Z)
  else zs (zs Z 6 1 (nI k)) 6 2 (zwy 35 Z (Z 4 k).toNatClampNeg (Z 5 k))
def mPre (t k : Nat) (Z : Mm) (r : Int32) : Mm := zs (zs (zs Z 42 19 (nI k)) 42 21 (if r ≤ 0 then -6 else nI k)) 42 22 (if r ≤ 0 then -6 else r)
def mStep (t k : Nat) (Z : Mm) : Mm :=
  if zwm t Z (Z 54 k).toNatClampNeg (Z 55 k) = 0 then mAct t (Z 54 k).toNatClampNeg (Z 55 k) (mPre t k Z (zwm t Z (Z 54 k).toNatClampNeg (Z 55 k))) else mPre t k Z (zwm t Z (Z 54 k).toNatClampNeg (Z 55 k))
theorem dlv_mix (A B : Mm) : dlv (mix A B) = dlv A := rfl
theorem cStep_mix (k : Nat) (A B : Mm) : cStep k (mix A B) = mix (cStep k A) B := by
  unfold cStep
  rw [zwy_mix, cAct_mix, dlv_mix, dlv_mix, show (mix A B) 4 = A 4 from mix_lt (by decide), show (mix A B) 5 = A 5 from mix_lt (by decide), show mix (cAct 35 (A 4 k).toNatClampNeg (A 5 k) A) B 6 = cAct 35 (A 4 k).toNatClampNeg (A 5 k) A 6 from mix_lt (by decide)]
  split
  · split
    · exact zs_mixL (by decide)
    · rfl
  · rw [zs_mixL (by decide), zs_mixL (by decide)]
theorem mPre_mix (t k : Nat) (A B : Mm) (r : Int32) : mPre t k (mix A B) r = mix A (mPre t k B r) := by
  unfold mPre
  rw [zs_mixR (by decide), zs_mixR (by decide), zs_mixR (by decide)]
theorem mStep_mix (t k : Nat) (A B : Mm) : mStep t k (mix A B) = mix A (mStep t k B) := by
  unfold mStep
  rw [zwm_mix, mPre_mix, mAct_mix, show (mix A B) 54 = B 54 from mix_ge (by decide), show (mix A B) 55 = B 55 from mix_ge (by decide)]
  split <;> rfl
/-- both, as long as every act can be -/
def zst (t : Nat) (Z : Mm) : Nat → Mm
  | 0 => Z
  | k + 1 => if zst t Z k 6 1 = -6 then mStep t k (cStep k (zst t Z k)) else zst t Z k
