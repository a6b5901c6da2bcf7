/-! the acts of the model -/
section ZM2
variable {M : Mm} {L : Ml} {post : Mm → Ml → Prop} {t : Nat}
def mGrowR (t : Nat) (w : Int32) (M : Mm) : Nat → Int32 := fun j => if zab t M j = true then zg32 (M 43 j) w else M 43 j
def mGrow (t : Nat) (w : Int32) (M : Mm) : Mm := zr M 43 (zup (M 43) (mGrowR t w M) 8)
theorem zab_cong {t : Nat} {M M' : Mm} (h : M' 45 = M 45) : zab t M' = zab t M := by unfold zab; rw [h]
theorem sX9_grow (et : M 42 0 = nI t) (ht : t < 256) {i : Nat} (hi : i < 2) (hw : zlt 256 (M 50 i)) (ha : ∀ k, k < 8 → zab t M k = true → zlt 256 (M 43 k)) (h : post (mGrow t (M 50 i) M) L) : wpX9_grow (nI i) M L post := by
  unfold wpX9_grow wlX9_grow_2
  have key := zlp_for (F := fun K s => wpX9_grow_2 post (fun M L v1 v2 => K (M, L, v1, v2)) s.1 s.2.1 s.2.2.1 s.2.2.2) 8 (fun k => (zr M 43 (zup (M 43) (mGrowR t (M 50 i) M) k), L, nI i, nI k)) ?_ ?_
  · rw [zup_0, zr_self] at key
    exact key
  · intro k K hk hK
    have ek : (nI k).toNatClampNeg = k := nI_clamp (by omega)
    have ei : (nI i).toNatClampNeg = i := nI_clamp (by omega)
    show wpX9_grow_2 post _ (zr M 43 (zup (M 43) (mGrowR t (M 50 i) M) k)) L (nI i) (nI k)
    unfold wpX9_grow_2 wpX9_grow_45
    have e43 : ∀ A : Nat → Int32, zr M 43 A 43 = A := fun A => zr_eq M 43 A
    have e50 : ∀ A : Nat → Int32, zr M 43 A 50 = M 50 := fun A => zr_ne (by decide)
    refine pk_le 8 k (fun h => by omega) (fun _ => sX9_isAbove (t := t) (by rw [zr_ne (by decide)]; exact et) ht hk (fun hb => c1 ⟨vp_in_nI hk (by decide), vp_in_nI hi (by decide), ?_⟩) (fun hb => c0 ⟨vp_in_nI hk (by decide), vp_in_nI hk (by decide), ?_⟩))
    · rw [zab_cong (zr_ne (by decide))] at hb
      rw [ek, ei, e43, e50, zup_at]
      refine sX9_grown32 (ha k hk hb) hw ⟨vp_in_nI hk (by decide), fun M1 e1 a ea => ?_⟩
      rw [e1, zs_zr, zup_put' (by unfold mGrowR; rw [if_pos hb]), ea, nI_1]
      exact hK
    · rw [zab_cong (zr_ne (by decide))] at hb
      rw [ek, e43, zup_at]
      intro M1 e1 a ea
      rw [e1, zs_zr, zup_put' (by unfold mGrowR; rw [if_neg (by rw [hb]; decide)]), ea, nI_1]
      exact hK
  · intro K
    exact pk_le 8 8 (fun _ => h) (fun h => by omega)
theorem sX9_blowOne {k : Nat} {d : Int32} (hk : k < 8) (h1 : 0 ≤ (M 44 k + d).toInt ∧ (M 44 k + d).toInt < 16 → post (zs M 44 k (M 44 k + d)) L) (h0 : ¬ (0 ≤ (M 44 k + d).toInt ∧ (M 44 k + d).toInt < 16) → post (zs (zs M 44 k (-6)) 45 k 0) L) : wpX9_blowOne (nI k) d M L post := by
  unfold wpX9_blowOne wpX9_blowOne_36 wpX9_blowOne_57
  have ek : (nI k).toNatClampNeg = k := nI_clamp (by omega)
  rw [ek]
  refine ⟨vp_in_nI hk (by decide), fun a ea => ?_⟩
  rw [ea]
  refine sX9_in 0 15 (fun h => c1 ⟨vp_in_nI hk (by decide), fun M1 e1 => c1 ⟨vp_in_nI hk (by decide), vp_in_nI hk (by decide), fun M2 e2 => ?_⟩⟩) (fun h => c0 ⟨vp_in_nI hk (by decide), fun M1 e1 => c0 ⟨vp_in_nI hk (by decide), fun M2 e2 => ?_⟩⟩)
  · rw [e2, zs_self, e1]; exact h1 (by omega)
  · rw [e2, e1]; exact h0 (by omega)
def mBlowP (t : Nat) (d : Int32) (M : Mm) : Nat → Int32 := fun j => if zab t M j = true then zwind (M 44 j) d else M 44 j
def mBlowH (t : Nat) (d : Int32) (M : Mm) : Nat → Int32 := fun j => if zab t M j = true then zwindH (M 44 j) d (M 45 j) else M 45 j
def mBlow (t : Nat) (d : Int32) (M : Mm) : Mm := zr (zr M 44 (zup (M 44) (mBlowP t d M) 8)) 45 (zup (M 45) (mBlowH t d M) 8)
theorem zab_at {t : Nat} {M M' : Mm} {k : Nat} (h : M' 45 k = M 45 k) : zab t M' k = zab t M k := by unfold zab; rw [h]
theorem sX9_blow (et : M 42 0 = nI t) (ht : t < 256) {d : Int32} (h : post (mBlow t d M) L) : wpX9_blow d M L post := by
  unfold wpX9_blow wlX9_blow_2
  have key := zlp_for (F := fun K s => wpX9_blow_2 post (fun M L v1 v2 => K (M, L, v1, v2)) s.1 s.2.1 s.2.2.1 s.2.2.2) 8 (fun k => (zr (zr M 44 (zup (M 44) (mBlowP t d M) k)) 45 (zup (M 45) (mBlowH t d M) k), L, d, nI k)) ?_ ?_
  · rw [zr2_0 (by decide)] at key
    exact key
  · intro k K hk hK
    have ek : (nI k).toNatClampNeg = k := nI_clamp (by omega)
    show wpX9_blow_2 post _ (zr (zr M 44 (zup (M 44) (mBlowP t d M) k)) 45 (zup (M 45) (mBlowH t d M) k)) L d (nI k)
    unfold wpX9_blow_2 wpX9_blow_22
    have e44 : ∀ A B : Nat → Int32, zr (zr M 44 A) 45 B 44 = A := fun A B => by rw [zr_ne (by decide), zr_eq]
    have e45 : zr (zr M 44 (zup (M 44) (mBlowP t d M) k)) 45 (zup (M 45) (mBlowH t d M) k) 45 k = M 45 k := by rw [zr_eq, zup_at]
    refine pk_le 8 k (fun h => by omega) (fun _ => sX9_isAbove (t := t) (by rw [zr_ne (by decide), zr_ne (by decide)]; exact et) ht hk (fun hb => c1 ?_) (fun hb => c0 ?_))
    · rw [zab_at e45] at hb
      refine sX9_blowOne hk (fun hi a ha => ?_) (fun hi a ha => ?_)
      · rw [e44, zup_at] at hi
        rw [zup_same (g := mBlowH t d M) (by unfold mBlowH zwindH; rw [if_pos hb, if_pos hi])] at hK
        rw [e44, zup_at, zs_zr2 (by decide), zup_put' (by unfold mBlowP zwind; rw [if_pos hb, if_pos hi]), ha, nI_1]
        exact hK
      · rw [e44, zup_at] at hi
        rw [zs_zr2 (by decide), zs_zr, zup_put' (by unfold mBlowP zwind; rw [if_pos hb, if_neg hi]), zup_put' (by unfold mBlowH zwindH; rw [if_pos hb, if_neg hi]), ha, nI_1]
        exact hK
    · rw [zab_at e45] at hb
      intro a ha
      have hb' : ¬ zab t M k = true := by rw [hb]; decide
      rw [zup_same (by unfold mBlowP; rw [if_neg hb']), zup_same (by unfold mBlowH; rw [if_neg hb'])] at hK
      rw [ha, nI_1]; exact hK
  · intro K
    exact pk_le 8 8 (fun _ => h) (fun h => by omega)
/-- who catches, of the model: the least; else d -/
def zcm (M : Mm) (w d : Int32) : Nat → Nat → Int32
  | 0, _ => d
  | n + 1, e => if M 48 e = w ∧ M 49 e = 0 then nI e else zcm M w d n (e + 1)
theorem zcm_cong {M M' : Mm} {w d : Int32} (h6 : M' 48 = M 48) (h7 : M' 49 = M 49) : ∀ n e, zcm M' w d n e = zcm M w d n e
  | 0, _ => rfl
  | n + 1, e => by
    unfold zcm
    rw [h6, h7, zcm_cong h6 h7 n (e + 1)]
/-- a flake comes down: who, and whether that is the first one posted -/
def mDownC (M : Mm) (k : Nat) : Int32 := zcm M (M 44 k) (M 47 k) 6 0
theorem sX9_comeDown {k : Nat} (hk : k < 8) (h1 : mDownC M k = M 46 k → ¬ 0 ≤ M 42 18 → post (zs (zs (zs M 42 17 (M 42 17 + 1)) 47 k (mDownC M k)) 42 18 (M 42 19)) L) (h0 : ¬ (mDownC M k = M 46 k ∧ ¬ 0 ≤ M 42 18) → post (zs (zs M 42 17 (M 42 17 + 1)) 47 k (mDownC M k)) L) : wpX9_comeDown (nI k) M L post := by
  unfold wpX9_comeDown
  intro M1 e1
  have ek : (nI k).toNatClampNeg = k := nI_clamp (by omega)
  have hn : ∀ a, a ≠ 42 → M1 a = M a := fun a ha => by rw [e1, zs_ne ha]
  unfold wlX9_comeDown_12
  have key := zlp_for (F := fun K s => wpX9_comeDown_12 post (fun M L v1 v2 => K (M, L, v1, v2)) s.1 s.2.1 s.2.2.1 s.2.2.2) 6 (fun i => (zs M1 47 k (zcm M (M 44 k) (M 47 k) i (6 - i)), L, nI k, nI (6 - i) - 1)) ?_ ?_
  · have e0 : zs M1 47 k (zcm M (M 44 k) (M 47 k) 0 (6 - 0)) = M1 := by
      show zs M1 47 k (M 47 k) = M1
      rw [← hn 47 (by decide), zs_self]
    rw [e0] at key
    exact key
  · intro i K hi hK
    obtain ⟨c, hc⟩ : ∃ c, c = zcm M (M 44 k) (M 47 k) i (6 - i) := ⟨_, rfl⟩
    rw [← hc]
    have ev : nI (6 - i) - 1 = nI (5 - i) := by rw [show 6 - i = (5 - i) + 1 by omega]; exact nI_pred _
    rw [ev]
    have ev2 : nI (6 - (i + 1)) - 1 = nI (5 - i) + (-1 : Int32) := by
      rw [show 6 - (i + 1) = 5 - i by omega]
      exact Int32.sub_eq_add_neg _ _
    have ee : (nI (5 - i)).toNatClampNeg = 5 - i := nI_clamp (by omega)
    have hz : zcm M (M 44 k) (M 47 k) (i + 1) (6 - (i + 1)) = if M 48 (5 - i) = M 44 k ∧ M 49 (5 - i) = 0 then nI (5 - i) else c := by
      rw [show 6 - (i + 1) = 5 - i by omega]
      rw [zcm, show 5 - i + 1 = 6 - i by omega, hc]
    rw [hz, ev2] at hK
    show wpX9_comeDown_12 post _ (zs M1 47 k c) L (nI k) (nI (5 - i))
    unfold wpX9_comeDown_12 wpX9_comeDown_49 wpX9_comeDown_55
    have e48 : zs M1 47 k c 48 = M 48 := by rw [zs_ne (by decide), hn 48 (by decide)]
    have e49 : zs M1 47 k c 49 = M 49 := by rw [zs_ne (by decide), hn 49 (by decide)]
    have e44 : zs M1 47 k c 44 = M 44 := by rw [zs_ne (by decide), hn 44 (by decide)]
    rw [ek, ee, e48, e49, e44, zs_eq]
    have hneg : ¬ nI (5 - i) < 0 := nI_pos (by omega)
    refine bf_ hneg ⟨vp_in_nI (by omega) (by decide), vp_in_nI hk (by decide), fun q => ⟨vp_in_nI hk (by decide), vp_in_nI hk (by decide), fun M2 e2 a ea => ?_⟩, fun q => ⟨vp_in_nI (by omega) (by decide), fun q2 => ⟨vp_in_nI hk (by decide), vp_in_nI hk (by decide), fun M2 e2 a ea => ?_⟩, fun q2 => ⟨vp_in_nI hk (by decide), fun M2 e2 a ea => ?_⟩⟩⟩
    · rw [if_neg (fun z => q z.1)] at hK
      rw [e2, zs_zs, ea]; exact hK
    · rw [if_neg (fun z => q2 z.2)] at hK
      rw [e2, zs_zs, ea]; exact hK
    · rw [if_pos ⟨q, q2⟩] at hK
      rw [e2, zs_zs, ea]; exact hK
  · intro K
    show wpX9_comeDown_12 post _ (zs M1 47 k (mDownC M k)) L (nI k) (nI (6 - 6) - 1)
    unfold wpX9_comeDown_12 wpX9_comeDown_92
    have e46 : zs M1 47 k (mDownC M k) 46 = M 46 := by rw [zs_ne (by decide), hn 46 (by decide)]
    have e18 : zs M1 47 k (mDownC M k) 42 18 = M 42 18 := by rw [zs_ne (by decide), e1, zs_nj (by decide)]
    have e19 : zs M1 47 k (mDownC M k) 42 19 = M 42 19 := by rw [zs_ne (by decide), e1, zs_nj (by decide)]
    rw [ek, zs_eq, e46, e18, e19]
    refine bt_ (by decide) ⟨vp_in_nI hk (by decide), vp_in_nI hk (by decide), fun q => ?_, fun q => ⟨fun q2 => ?_, fun q2 M2 e2 => ?_⟩⟩
    · have := h0 (fun z => q z.1); rw [← e1] at this; exact this
    · have := h0 (fun z => z.2 q2); rw [← e1] at this; exact this
    · rw [e2, e1]; exact h1 q q2
/-- the fall, of the model -/
def mLand (t : Nat) (M : Mm) : Nat → Bool := fun j => zab t M j && decide (M 45 j - 1 = 0)
def mFallH (t : Nat) (M : Mm) : Nat → Int32 := fun j => if zab t M j = true then M 45 j - 1 else M 45 j
def mFallW (t : Nat) (M : Mm) : Nat → Int32 := fun j => if mLand t M j = true then mDownC M j else M 47 j
def mFp (t : Nat) (M : Mm) : Nat → Int32
  | 0 => M 42 18
  | k + 1 => if mLand t M k = true ∧ mDownC M k = M 46 k ∧ ¬ 0 ≤ mFp t M k then M 42 19 else mFp t M k
def mFallO (t : Nat) (M : Mm) (k : Nat) : Nat → Int32 := upd (upd (M 42) 17 (M 42 17 + nI (zct (mLand t M) k))) 18 (mFp t M k)
def mFallK (t : Nat) (M : Mm) (k : Nat) : Mm := zr (zr (zr M 45 (zup (M 45) (mFallH t M) k)) 47 (zup (M 47) (mFallW t M) k)) 42 (mFallO t M k)
def mFall (t : Nat) (M : Mm) : Mm := mFallK t M 8
theorem mFallK_0 (t : Nat) (M : Mm) : mFallK t M 0 = M := by
  unfold mFallK
  rw [zup_0, zup_0, zr_self, zr_self]
  refine zr0 _ ?_
  funext j
  unfold mFallO mFp zct
  show upd (upd (M 42) 17 (M 42 17 + nI 0)) 18 (M 42 18) j = M 42 j
  rw [nI_0, Int32.add_zero, fa_upd_same rfl, fa_upd_same rfl]
theorem mFallK_42 (t : Nat) (M : Mm) (k : Nat) : mFallK t M k 42 = mFallO t M k := zr_eq _ _ _
theorem mFallK_45 (t : Nat) (M : Mm) (k : Nat) : mFallK t M k 45 = zup (M 45) (mFallH t M) k := by unfold mFallK; rw [zr_ne (by decide), zr_ne (by decide), zr_eq]
theorem mFallK_47 (t : Nat) (M : Mm) (k : Nat) : mFallK t M k 47 = zup (M 47) (mFallW t M) k := by unfold mFallK; rw [zr_ne (by decide), zr_eq]
theorem mFallK_ne (t : Nat) (M : Mm) (k : Nat) {a : Nat} (h : a ≠ 42) (h2 : a ≠ 45) (h3 : a ≠ 47) : mFallK t M k a = M a := by unfold mFallK; rw [zr_ne h, zr_ne h3, zr_ne h2]
theorem mFallO_ne (t : Nat) (M : Mm) (k : Nat) {j : Nat} (h : j ≠ 17) (h2 : j ≠ 18) : mFallO t M k j = M 42 j := by unfold mFallO upd; simp [h, h2]
theorem mFallO_17 (t : Nat) (M : Mm) (k : Nat) : mFallO t M k 17 = M 42 17 + nI (zct (mLand t M) k) := by unfold mFallO upd; simp
theorem mFallO_18 (t : Nat) (M : Mm) (k : Nat) : mFallO t M k 18 = mFp t M k := by unfold mFallO upd; simp
theorem zr3_ext {M : Mm} {X : Mm} {f g h : Nat → Int32} (h1 : X 45 = f) (h2 : X 47 = g) (h3 : X 42 = h) (h4 : ∀ a, a ≠ 42 → a ≠ 45 → a ≠ 47 → X a = M a) : X = zr (zr (zr M 45 f) 47 g) 42 h := by
  funext a
  by_cases e1 : a = 42
  · subst e1; rw [zr_eq, h3]
  · by_cases e2 : a = 47
    · subst e2; rw [zr_ne (by decide), zr_eq, h2]
    · by_cases e3 : a = 45
      · subst e3; rw [zr_ne (by decide), zr_ne (by decide), zr_eq, h1]
      · rw [zr_ne e1, zr_ne e2, zr_ne e3]; exact h4 a e1 e3 e2
theorem sX9_fall (et : M 42 0 = nI t) (ht : t < 256) (h : post (mFall t M) L) : wpX9_fall M L post := by
  unfold wpX9_fall wlX9_fall_2
  have key := zlp_for (F := fun K s => wpX9_fall_2 post (fun M L v1 => K (M, L, v1)) s.1 s.2.1 s.2.2) 8 (fun k => (mFallK t M k, L, nI k)) ?_ ?_
  · rw [mFallK_0] at key
    exact key
  · intro k K hk hK
    have ek : (nI k).toNatClampNeg = k := nI_clamp (by omega)
    show wpX9_fall_2 post _ (mFallK t M k) L (nI k)
    unfold wpX9_fall_2 wpX9_fall_40
    have e45 : mFallK t M k 45 k = M 45 k := by rw [mFallK_45, zup_at]
    have e0 : mFallK t M k 42 0 = nI t := by rw [mFallK_42, mFallO_ne t M k (by decide) (by decide)]; exact et
    refine pk_le 8 k (fun h => by omega) (fun _ => sX9_isAbove (t := t) e0 ht hk (fun hb => c1 ⟨vp_in_nI hk (by decide), vp_in_nI hk (by decide), fun M1 e1 => ⟨vp_in_nI hk (by decide), ?_⟩⟩) (fun hb => c0 ?_))
    · rw [zab_at e45] at hb
      rw [ek, e45] at e1
      have a45 : M1 45 = zup (M 45) (mFallH t M) (k + 1) := by
        rw [e1]
        unfold zs
        rw [zr_eq, mFallK_45, zup_put' (by unfold mFallH; rw [if_pos hb])]
      have ane : ∀ a, a ≠ 45 → M1 a = mFallK t M k a := fun a ha => by rw [e1, zs_ne ha]
      have ak : M1 45 k = M 45 k - 1 := by rw [a45, zup_in (by omega)]; unfold mFallH; rw [if_pos hb]
      rw [ek, ak]
      refine ⟨fun hl a ha => ?_, fun hl => ?_⟩
      · have hL : mLand t M k = false := by simp [mLand, hl]
        have eM : M1 = mFallK t M (k + 1) := by
          refine zr3_ext a45 ?_ ?_ ?_
          · rw [ane 47 (by decide), mFallK_47, zup_same (by unfold mFallW; rw [if_neg (by rw [hL]; decide)])]
          · rw [ane 42 (by decide), mFallK_42]
            unfold mFallO
            rw [zct_f hL, mFp, if_neg (by rw [hL]; exact fun z => absurd z.1 (by decide))]
          · intro a h1 h2 h3
            rw [ane a h2, mFallK_ne t M k h1 h2 h3]
        rw [eM, ha, nI_1]
        exact hK
      · have hL : mLand t M k = true := by simp [mLand, hb, hl]
        have eC : mDownC M1 k = mDownC M k := by
          unfold mDownC
          rw [ane 44 (by decide), ane 47 (by decide), mFallK_47, zup_at, mFallK_ne t M k (by decide) (by decide) (by decide)]
          exact zcm_cong (by rw [ane 48 (by decide), mFallK_ne t M k (by decide) (by decide) (by decide)]) (by rw [ane 49 (by decide), mFallK_ne t M k (by decide) (by decide) (by decide)]) 6 0
        have e46 : M1 46 k = M 46 k := by rw [ane 46 (by decide), mFallK_ne t M k (by decide) (by decide) (by decide)]
        have e17 : M1 42 17 = M 42 17 + nI (zct (mLand t M) k) := by rw [ane 42 (by decide), mFallK_42, mFallO_17]
        have e18 : M1 42 18 = mFp t M k := by rw [ane 42 (by decide), mFallK_42, mFallO_18]
        have e19 : M1 42 19 = M 42 19 := by rw [ane 42 (by decide), mFallK_42, mFallO_ne t M k (by decide) (by decide)]
        have eD : M 42 17 + nI (zct (mLand t M) k) + 1 = M 42 17 + nI (zct (mLand t M) (k + 1)) := by
          rw [zct_t hL, Int32.add_assoc, nI_1, Nat.add_comm]
        refine sX9_comeDown hk (fun q1 q2 a ha => ?_) (fun q a ha => ?_)
        · rw [eC, e46] at q1
          rw [e18] at q2
          have eM : zs (zs (zs M1 42 17 (M1 42 17 + 1)) 47 k (mDownC M1 k)) 42 18 (M1 42 19) = mFallK t M (k + 1) := by
            refine zr3_ext ?_ ?_ ?_ ?_
            · rw [zs_ne (by decide), zs_ne (by decide), zs_ne (by decide)]; exact a45
            · rw [zs_ne (by decide)]
              unfold zs
              rw [zr_eq, zr_ne (by decide), ane 47 (by decide), mFallK_47, zup_put' (by unfold mFallW; rw [if_pos hL, eC])]
            · unfold mFallO
              rw [mFp, if_pos ⟨hL, q1, q2⟩, ← eD, e17, e19]
              unfold zs
              rw [zr_eq, zr_ne (by decide), zr_eq, ane 42 (by decide), mFallK_42]
              unfold mFallO
              funext j
              unfold upd
              by_cases h18 : j = 18
              · simp [h18]
              · by_cases h17 : j = 17
                · simp [h17]
                · simp [h18, h17]
            · intro a h1 h2 h3
              rw [zs_ne h1, zs_ne h3, zs_ne h1, ane a h2, mFallK_ne t M k h1 h2 h3]
          rw [eM, ha, nI_1]
          exact hK
        · rw [eC, e46, e18] at q
          have eM : zs (zs M1 42 17 (M1 42 17 + 1)) 47 k (mDownC M1 k) = mFallK t M (k + 1) := by
            refine zr3_ext ?_ ?_ ?_ ?_
            · rw [zs_ne (by decide), zs_ne (by decide)]; exact a45
            · unfold zs
              rw [zr_eq, zr_ne (by decide), ane 47 (by decide), mFallK_47, zup_put' (by unfold mFallW; rw [if_pos hL, eC])]
            · unfold mFallO
              rw [mFp, if_neg (fun z => q z.2), ← eD, e17, zs_ne (by decide)]
              unfold zs
              rw [zr_eq, ane 42 (by decide), mFallK_42]
              unfold mFallO
              funext j
              unfold upd
              by_cases h18 : j = 18
              · simp [h18]
              · by_cases h17 : j = 17
                · simp [h17]
                · simp [h18, h17]
            · intro a h1 h2 h3
              rw [zs_ne h3, zs_ne h1, ane a h2, mFallK_ne t M k h1 h2 h3]
          rw [eM, ha, nI_1]
          exact hK
    · rw [zab_at e45] at hb
      intro a ha
      have hb' : ¬ zab t M k = true := by rw [hb]; decide
      have hL : mLand t M k = false := by simp [mLand, hb]
      have eM : mFallK t M k = mFallK t M (k + 1) := by
        refine zr3_ext ?_ ?_ ?_ (fun a h1 h2 h3 => mFallK_ne t M k h1 h2 h3)
        · rw [mFallK_45, zup_same (by unfold mFallH; rw [if_neg hb'])]
        · rw [mFallK_47, zup_same (by unfold mFallW; rw [if_neg (by rw [hL]; decide)])]
        · rw [mFallK_42]
          unfold mFallO
          rw [zct_f hL, mFp, if_neg (by rw [hL]; exact fun z => absurd z.1 (by decide))]
      rw [eM, ha, nI_1]
      exact hK
  · intro K
    exact pk_le 8 8 (fun _ => h) (fun h => by omega)
/-- one act, done: of the model -/
def mAct (t : Nat) (j : Nat) (x : Int32) (M : Mm) : Mm := if j = 0 then mGrow t (M 50 0) M else if j = 1 then mGrow t (M 50 1) M else if j = 2 then mBlow t (-1) M else if j = 3 then mBlow t 1 M else if j = 4 then mFall t M else if j = 5 then zs M 48 x.toNatClampNeg (M 48 x.toNatClampNeg - 1) else if j = 6 then zs M 48 x.toNatClampNeg (M 48 x.toNatClampNeg + 1) else zs M 49 x.toNatClampNeg (1 - M 49 x.toNatClampNeg)
theorem sX9_happen (et : M 42 0 = nI t) (ht : t < 256) {j : Nat} (hj : j < 8) {x : Int32} (hx : 5 ≤ j → zlt 6 x) (h8 : zlt 256 (M 50 0)) (h9 : zlt 256 (M 50 1)) (ha : ∀ k, k < 8 → zab t M k = true → zlt 256 (M 43 k)) (h : post (mAct t j x M) L) : wpX9_happen (nI j) x M L post := by
  unfold wpX9_happen wpX9_happen_44 wpX9_happen_115
  match j, hj with
  | 0, _ => exact bt_ rfl (sX9_grow et ht (i := 0) (by decide) h8 ha h)
  | 1, _ => exact bf_ (by decide) (bt_ rfl (sX9_grow et ht (i := 1) (by decide) h9 ha h))
  | 2, _ => exact bf_ (by decide) (bf_ (by decide) (bt_ rfl (sX9_blow et ht h)))
  | 3, _ => exact bf_ (by decide) (bf_ (by decide) (bf_ (by decide) (bt_ rfl (sX9_blow et ht h))))
  | 4, _ => exact bf_ (by decide) (bf_ (by decide) (bf_ (by decide) (bf_ (by decide) (bt_ rfl (sX9_fall et ht h)))))
  | 5, _ =>
    obtain ⟨e, he, rfl⟩ := hx (by decide)
    exact bf_ (by decide) (bf_ (by decide) (bf_ (by decide) (bf_ (by decide) (bf_ (by decide) (bt_ rfl ⟨vp_in_nI he (by decide), vp_in_nI he (by decide), fun M1 e1 => by rw [e1]; exact h⟩)))))
  | 6, _ =>
    obtain ⟨e, he, rfl⟩ := hx (by decide)
    exact bf_ (by decide) (bf_ (by decide) (bf_ (by decide) (bf_ (by decide) (bf_ (by decide) (bf_ (by decide) (bt_ rfl ⟨vp_in_nI he (by decide), vp_in_nI he (by decide), fun M1 e1 => by rw [e1]; exact h⟩))))))
  | 7, _ =>
    obtain ⟨e, he, rfl⟩ := hx (by decide)
    exact bf_ (by decide) (bf_ (by decide) (bf_ (by decide) (bf_ (by decide) (bf_ (by decide) (bf_ (by decide) (bf_ (by decide) ⟨vp_in_nI he (by decide), vp_in_nI he (by decide), fun M1 e1 => by rw [e1]; exact h⟩))))))
end ZM2
