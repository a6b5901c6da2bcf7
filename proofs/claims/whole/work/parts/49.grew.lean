/-! rows of airs -/
def rwn (c d b : Nat) : Nat → Nat → Nat
  | 0, a => if a = b then 1 else 0
  | n + 1, a => rwn c d b n (zgro a c) + rwn c d b n (zgro a d)
theorem rwn_le (c d b : Nat) : ∀ n a, rwn c d b n a ≤ 2 ^ n
  | 0, a => by
    unfold rwn
    split <;> decide
  | n + 1, a => by
    unfold rwn
    have h1 := rwn_le c d b n (zgro a c)
    have h2 := rwn_le c d b n (zgro a d)
    rw [Nat.pow_succ]
    omega
theorem zcmp_le (x y : Int64) : lg_cmp x y ≤ 0 ↔ x ≤ y := by
  have h := zcmp_gt x y
  rw [fa_lt, fa_lt64] at h
  rw [fa_le, fa_le64]
  omega
theorem zcmp_eq (x y : Int64) : lg_cmp x y = 0 ↔ x = y := by
  have h1 := zcmp_gt x y
  have h2 := zcmp_lt x y
  rw [fa_lt, fa_lt64] at h1 h2
  rw [fa_eq, fa_eq64]
  have e0 : (0 : Int32).toInt = 0 := rfl
  omega
theorem zsl_at (L : Ml) (c k : Nat) (v : Int64) (j : Nat) : zsl L c k v c j = if j = k then v else L c j := by
  unfold zsl
  rw [zrl_eq]
  rfl
theorem i32_m1 (x : Int32) : x + (-1 : Int32) = x - 1 := (Int32.sub_eq_add_neg x 1).symm
/-- the first row: what is written, the arm -/
def frw (c d b n a : Nat) : Nat → Int64 × Nat
  | 0 => (0, a)
  | k + 1 => if rwn c d b (n - (k + 1)) (zgro (frw c d b n a k).2 c) = 0 then ((frw c d b n a k).1 * 10 + (2 : Int32).toInt64, zgro (frw c d b n a k).2 d) else ((frw c d b n a k).1 * 10 + (1 : Int32).toInt64, zgro (frw c d b n a k).2 c)
section GREW
variable {M : Mm} {L : Ml}
theorem sX3_rows {c d b : Nat} (hc : c < 256) (hd : d < 256) (hb : b < 256) : ∀ (n f a : Nat) (post : Int32 → Mm → Ml → Prop), n < f → n ≤ 10 → a < 256 → post (nI (rwn c d b n a)) M L → wpX3_rows f (nI a) (nI b) (nI n) (nI c) (nI d) M L post
  | n, 0, a, post, hf, _, _, _ => absurd hf (by omega)
  | 0, f + 1, a, post, _, _, ha, h => by
    show woX3_rows (wpX3_rows f) (nI a) (nI b) (nI 0) (nI c) (nI d) M L post
    unfold woX3_rows wpX3_rows_14
    unfold rwn at h
    refine bf_ (by decide) ⟨fun q => ?_, fun q => ?_⟩
    · rw [if_neg (fun z => q (by rw [z]))] at h
      exact h
    · rw [if_pos (nI_inj (by omega) (by omega) q)] at h
      exact h
  | n + 1, f + 1, a, post, hf, hn, ha, h => by
    show woX3_rows (wpX3_rows f) (nI a) (nI b) (nI (n + 1)) (nI c) (nI d) M L post
    unfold woX3_rows
    rw [nI_pred]
    have hpos : (0 : Int32) < nI (n + 1) := nI_lt (a := 0) (by omega) (by omega)
    refine bt_ hpos (sX3_grown ha hc (sX3_rows hc hd hb n f _ _ (by omega) (by omega) (zgro_lt _ _) (sX3_grown ha hd (sX3_rows hc hd hb n f _ _ (by omega) (by omega) (zgro_lt _ _) ?_))))
    rw [nI_add]
    exact h
theorem sX3_firstRow {c d b n a : Nat} {post : Int64 → Mm → Ml → Prop} (hc : c < 256) (hd : d < 256) (hb : b < 256) (ha : a < 256) (hn : n ≤ 10) (h : post (if rwn c d b n a = 0 then -6 else (frw c d b n a n).1) M L) : wpX3_firstRow (nI a) (nI b) (nI n) (nI c) (nI d) M L post := by
  unfold wpX3_firstRow
  have hle := rwn_le c d b n a
  have h10 : 2 ^ n ≤ 1024 := Nat.pow_le_pow_right (n := 2) (by decide) hn
  refine sX3_rows hc hd hb n 11 a _ (by omega) hn ha ⟨fun q => ?_, fun q => ?_⟩
  · have hne : ¬ rwn c d b n a = 0 := fun z => q (by rw [z]; rfl)
    rw [if_neg hne] at h
    intro w ew
    obtain ⟨st, hst⟩ : ∃ st, st = frw c d b n a := ⟨_, rfl⟩
    have s0 : st 0 = (0, a) := by rw [hst]; rfl
    have ss : ∀ k, st (k + 1) = if rwn c d b (n - (k + 1)) (zgro (st k).2 c) = 0 then ((st k).1 * 10 + (2 : Int32).toInt64, zgro (st k).2 d) else ((st k).1 * 10 + (1 : Int32).toInt64, zgro (st k).2 c) := fun k => by rw [hst]; rfl
    have sl : ∀ k, (st k).2 < 256 := fun k => by
      cases k with
      | zero => rw [s0]; exact ha
      | succ k =>
        rw [ss]
        split
        · exact zgro_lt _ _
        · exact zgro_lt _ _
    rw [← hst] at h
    clear hst
    unfold wlX3_firstRow_27
    refine zlp_forI n (fun k s => s = (M, L, nI b, nI c, nI d, (st k).1, nI (st k).2, nI (n - k) - 1)) (by rw [s0, ew]; rfl) ?_ ?_
    · rintro k K _ hk rfl hK
      have hK := hK _ rfl
      show wpX3_firstRow_27 post _ M L (nI b) (nI c) (nI d) (st k).1 (nI (st k).2) (nI (n - k) - 1)
      unfold wpX3_firstRow_27 wpX3_firstRow_59 wpX3_firstRow_77 wpX3_firstRow_98
      obtain ⟨m, hm⟩ : ∃ m, n - k = m + 1 := ⟨n - k - 1, by omega⟩
      have hm2 : n - (k + 1) = m := by omega
      rw [hm, nI_pred]
      have hl2 := rwn_le c d b m (zgro (st k).2 c)
      have h10b : 2 ^ m ≤ 1024 := Nat.pow_le_pow_right (n := 2) (by decide) (show m ≤ 10 by omega)
      rw [ss, hm2] at hK
      refine bf_ (nI_nlt (b := 0) (by omega) (by omega)) (sX3_grown (sl k) hc (sX3_rows hc hd hb m 11 _ _ (by omega) (by omega) (zgro_lt _ _) ⟨fun q2 => c0 (fun v ev => c0 (sX3_grown (sl k) hd (fun z ez => ?_))), fun q2 => c1 (fun v ev => c1 (fun z ez => ?_))⟩))
      · have e0 : rwn c d b m (zgro (st k).2 c) = 0 := by
          cases hq : rwn c d b m (zgro (st k).2 c) with
          | zero => rfl
          | succ r => rw [hq] at q2; exact absurd q2 (nI_nle (by omega) (by omega))
        rw [if_pos e0] at hK
        rw [ev, ez, i32_m1]
        exact hK
      · have e0 : ¬ rwn c d b m (zgro (st k).2 c) = 0 := fun z => q2 (by rw [z]; decide)
        rw [if_neg e0] at hK
        rw [ev, ez, i32_m1]
        exact hK
    · rintro K _ rfl
      show wpX3_firstRow_27 post _ M L (nI b) (nI c) (nI d) (st n).1 (nI (st n).2) (nI (n - n) - 1)
      unfold wpX3_firstRow_27
      rw [Nat.sub_self]
      exact bt_ (by decide) h
  · have e0 := nI_inj (b := 0) (by omega) (by decide) q
    rw [if_pos e0] at h
    exact h
theorem sX9_findWays {c d b n : Nat} {post : Mm → Ml → Prop} (hc : c < 256) (hd : d < 256) (hb : b < 256) (hn : n ≤ 10) (e0 : M 50 0 = nI c) (e1 : M 50 1 = nI d) (h : ∀ L', (∀ m, m ≤ n → ∀ a, a < 256 → L' 57 (256 * m + a) = lN (rwn c d b m a)) → post M L') : wpX9_findWays (nI b) (nI n) M L post := by
  unfold wpX9_findWays wlX9_findWays_2
  refine zlp_forI 256 (fun k s => ∃ L', s = (M, L', nI b, nI n, nI k) ∧ ∀ a, a < k → L' 57 a = lN (rwn c d b 0 a)) ⟨L, rfl, fun a ha => absurd ha (by omega)⟩ ?_ ?_
  · rintro k K _ hk ⟨L', rfl, h1⟩ hK
    show wpX9_findWays_2 post _ M L' (nI b) (nI n) (nI k)
    unfold wpX9_findWays_2 wpX9_findWays_24
    rw [nI_clamp (n := k) (by omega)]
    have go : ∀ v : Int64, v = lN (rwn c d b 0 k) → vp_in (nI k) 2816 ∧ (∀ L_24 : Ml, L_24 = zsl L' 57 k v → (∀ a_25 : Int32, a_25 = nI k + (1 : Int32) → K (M, L_24, nI b, nI n, a_25))) := by
      intro v ev
      refine ⟨vp_in_nI (by omega) (by decide), fun L2 e2 w ew => hK _ ⟨L2, by rw [ew, nI_1], fun a ha => ?_⟩⟩
      rw [e2, zsl_at]
      by_cases q : a = k
      · rw [if_pos q, ev, q]
      · rw [if_neg q]; exact h1 a (by omega)
    refine pk_le 256 k (fun h => by omega) (fun _ => ⟨fun q => go 0 ?_, fun q => go 1 ?_⟩)
    · unfold rwn; rw [if_neg (fun z => q (by rw [z]))]; rfl
    · unfold rwn; rw [if_pos (nI_inj (by omega) (by omega) q)]; rfl
  · rintro K _ ⟨L', rfl, h1⟩
    show wpX9_findWays_2 post _ M L' (nI b) (nI n) (nI 256)
    unfold wpX9_findWays_2
    refine pk_le 256 256 (fun _ => ?_) (fun h => by omega)
    unfold wlX9_findWays_33
    refine zlp_forI n (fun k s => ∃ L', s = (M, L', nI n, nI (k + 1)) ∧ ∀ m, m ≤ k → ∀ a, a < 256 → L' 57 (256 * m + a) = lN (rwn c d b m a)) ⟨L', rfl, fun m hm a ha => ?_⟩ ?_ ?_
    · have : m = 0 := by omega
      subst this
      rw [Nat.mul_zero, Nat.zero_add]
      exact h1 a ha
    · rintro k K2 _ hk ⟨L', rfl, h2⟩ hK
      show wpX9_findWays_33 post _ M L' (nI n) (nI (k + 1))
      unfold wpX9_findWays_33
      refine pk_lt n (k + 1) (fun h => by omega) (fun _ => ?_)
      unfold wlX9_findWays_41
      refine zlp_forI 256 (fun l s => ∃ L', s = (M, L', nI n, nI (k + 1), nI l) ∧ (∀ m, m ≤ k → ∀ a, a < 256 → L' 57 (256 * m + a) = lN (rwn c d b m a)) ∧ ∀ a, a < l → L' 57 (256 * (k + 1) + a) = lN (rwn c d b (k + 1) a)) ⟨L', rfl, h2, fun a ha => absurd ha (by omega)⟩ ?_ ?_
      · rintro l K3 _ hl ⟨L', rfl, h2, h3⟩ hK3
        show wpX9_findWays_41 post _ _ M L' (nI n) (nI (k + 1)) (nI l)
        unfold wpX9_findWays_41
        have z0 : (0 : Int32).toNatClampNeg = 0 := rfl
        have z1 : (1 : Int32).toNatClampNeg = 1 := rfl
        rw [z0, z1, e0, nI_pred]
        have m256 : ∀ x, (256 : Int32) * nI x = nI (256 * x) := fun x => by rw [show (256 : Int32) = nI 256 from rfl, pk_mul]
        rw [m256, m256]
        have g1 := zgro_lt l c
        have g2 := zgro_lt l d
        refine pk_le 256 l (fun h => by omega) (fun _ v ev => ⟨vp_in_nI (n := 0) (by decide) (by decide), sX9_grown hl hc ?_⟩)
        subst ev
        rw [nI_add, nI_clamp (n := 256 * k + zgro l c) (by omega)]
        refine ⟨vp_in_nI (by omega) (by decide), vp_in_nI (n := 1) (by decide) (by decide), ?_⟩
        rw [e1]
        refine sX9_grown hl hd ?_
        rw [nI_add, nI_clamp (n := 256 * k + zgro l d) (by omega), nI_add, nI_clamp (n := 256 * (k + 1) + l) (by omega), h2 k (Nat.le_refl k) _ g1, h2 k (Nat.le_refl k) _ g2, lN_add]
        refine ⟨vp_in_nI (by omega) (by decide), vp_in_nI (by omega) (by decide), fun L2 f2 w ew => hK3 _ ⟨L2, by show (M, L2, nI n, nI (k + 1), w) = _; rw [ew, nI_1], fun m hm a ha => ?_, fun a ha => ?_⟩⟩
        · rw [f2, zsl_at, if_neg (by omega)]; exact h2 m hm a ha
        · rw [f2, zsl_at]
          by_cases q : a = l
          · rw [if_pos (by omega), q]; rfl
          · rw [if_neg (by omega)]; exact h3 a (by omega)
      · rintro K3 _ ⟨L', rfl, h2, h3⟩
        show wpX9_findWays_41 post _ _ M L' (nI n) (nI (k + 1)) (nI 256)
        unfold wpX9_findWays_41
        refine pk_le 256 256 (fun _ w ew => hK _ ⟨L', by rw [ew, nI_1], fun m hm a ha => ?_⟩) (fun h => by omega)
        by_cases q : m = k + 1
        · rw [q]; exact h3 a ha
        · exact h2 m (by omega) a ha
    · rintro K2 _ ⟨L', rfl, h2⟩
      show wpX9_findWays_33 post _ M L' (nI n) (nI (n + 1))
      unfold wpX9_findWays_33
      exact pk_lt n (n + 1) (fun _ => h L' h2) (fun h => by omega)
theorem sX9_firstAirs {c d b n a : Nat} {post : Int64 → Mm → Ml → Prop} (hc : c < 256) (hd : d < 256) (ha : a < 256) (hn : n ≤ 10) (e0 : M 50 0 = nI c) (e1 : M 50 1 = nI d) (hL : ∀ m, m ≤ n → ∀ a, a < 256 → L 57 (256 * m + a) = lN (rwn c d b m a)) (h : post (frw c d b n a n).1 M L) : wpX9_firstAirs (nI a) (nI n) M L post := by
  unfold wpX9_firstAirs
  obtain ⟨st, hst⟩ : ∃ st, st = frw c d b n a := ⟨_, rfl⟩
  have s0 : st 0 = (0, a) := by rw [hst]; rfl
  have ss : ∀ k, st (k + 1) = if rwn c d b (n - (k + 1)) (zgro (st k).2 c) = 0 then ((st k).1 * 10 + (2 : Int32).toInt64, zgro (st k).2 d) else ((st k).1 * 10 + (1 : Int32).toInt64, zgro (st k).2 c) := fun k => by rw [hst]; rfl
  have sl : ∀ k, (st k).2 < 256 := fun k => by
    cases k with
    | zero => rw [s0]; exact ha
    | succ k =>
      rw [ss]
      split
      · exact zgro_lt _ _
      · exact zgro_lt _ _
  rw [← hst] at h
  clear hst
  unfold wlX9_firstAirs_8
  refine zlp_forI n (fun k s => s = (M, L, (st k).1, nI (st k).2, nI (n - k))) (by rw [s0]; rfl) ?_ ?_
  · rintro k K _ hk rfl hK
    have hK := hK _ rfl
    show wpX9_firstAirs_8 post _ M L (st k).1 (nI (st k).2) (nI (n - k))
    unfold wpX9_firstAirs_8 wpX9_firstAirs_52 wpX9_firstAirs_69 wpX9_firstAirs_93
    obtain ⟨m, hm⟩ : ∃ m, n - k = m + 1 := ⟨n - k - 1, by omega⟩
    have hm2 : n - (k + 1) = m := by omega
    have z0 : (0 : Int32).toNatClampNeg = 0 := rfl
    have z1 : (1 : Int32).toNatClampNeg = 1 := rfl
    rw [hm, nI_pred, z0, z1, e0, show (256 : Int32) * nI m = nI (256 * m) by rw [show (256 : Int32) = nI 256 from rfl, pk_mul]]
    rw [ss, hm2] at hK
    have g1 := zgro_lt (st k).2 c
    have hl2 := rwn_le c d b m (zgro (st k).2 c)
    have h10b : 2 ^ m ≤ 1024 := Nat.pow_le_pow_right (n := 2) (by decide) (show m ≤ 10 by omega)
    have a1 : nI (m + 1) + (-1 : Int32) = nI m := by rw [i32_m1, nI_pred]
    rw [a1]
    refine bf_ (nI_nle (by omega) (by omega)) ⟨vp_in_nI (n := 0) (by decide) (by decide), sX9_grown (sl k) hc ?_⟩
    rw [nI_add, nI_clamp (n := 256 * m + zgro (st k).2 c) (by omega), hL m (by omega) _ g1, zcmp_le, show (0 : Int64) = lN 0 from rfl, pk_lLE (by omega) (by decide)]
    refine ⟨vp_in_nI (by omega) (by decide), fun q2 => c0 (fun v ev => c0 ⟨vp_in_nI (n := 1) (by decide) (by decide), ?_⟩), fun q2 => c1 (fun v ev => c1 (fun z ez => ?_))⟩
    · rw [e1]
      refine sX9_grown (sl k) hd (fun z ez => ?_)
      rw [if_pos (by omega)] at hK
      rw [ev, ez, Int64.mul_comm]
      exact hK
    · rw [if_neg (by omega)] at hK
      rw [ev, ez, Int64.mul_comm]
      exact hK
  · rintro K _ rfl
    show wpX9_firstAirs_8 post _ M L (st n).1 (nI (st n).2) (nI (n - n))
    unfold wpX9_firstAirs_8
    rw [Nat.sub_self]
    exact bt_ (by decide) h
theorem pr_grew {post : Int64 → Mm → Ml → Prop} (hR : RI M) {x y z w : Int32} (h : ∀ r M1 L1, agr (wpX9_grew x y z w) r M1 L1 → post r M1 L1) : wpX8_grew x y z w M L post := by
  obtain ⟨⟨t, u, hY⟩, -⟩ := id hR
  obtain ⟨a1, a2, ⟨c, hc, a3⟩, ⟨d, hd, a4⟩⟩ := hY.2.2.2.2.2.2.2.1
  have a1 : M 50 0 = M 14 8 := a1
  have a2 : M 50 1 = M 14 9 := a2
  rw [a3] at a1
  rw [a4] at a2
  unfold wpX8_grew wpX8_grew_38
  refine sX8_isBelow 256 (fun hx => c1 ?_) (fun hout => c0 (h _ _ _ (fun p2 hp => ?_)))
  rotate_left
  · unfold wpX9_grew wpX9_grew_37
    exact sX9_isArm (fun z => absurd z hout) (fun _ => c0 (hp _ _ hR))
  refine sX8_isBelow 256 (fun hy => c1 ?_) (fun hout => c0 (h _ _ _ (fun p2 hp => ?_)))
  rotate_left
  · unfold wpX9_grew wpX9_grew_37
    exact sX9_isArm (fun _ => c1 (sX9_isArm (fun z => absurd z hout) (fun _ => c0 (hp _ _ hR)))) (fun z => absurd hx z)
  refine sX8_isBelow 11 (fun hz => c1 ?_) (fun hout => c0 (h _ _ _ (fun p2 hp => ?_)))
  rotate_left
  · unfold wpX9_grew wpX9_grew_37
    exact sX9_isArm (fun _ => c1 (sX9_isArm (fun _ => c1 (sX9_in 0 10 (fun z => absurd ⟨z.1, by omega⟩ hout) (fun _ => c0 (hp _ _ hR)))) (fun z => absurd hy z))) (fun z => absurd hx z)
  refine sX8_isBelow 2 (fun hw => b1 ?_) (fun hout => b0 (h _ _ _ (fun p2 hp => ?_)))
  rotate_left
  · unfold wpX9_grew wpX9_grew_37
    exact sX9_isArm (fun _ => c1 (sX9_isArm (fun _ => c1 (sX9_in 0 10 (fun _ => c1 (sX9_in 0 1 (fun z => absurd ⟨z.1, by omega⟩ hout) (fun _ => b0 (hp _ _ hR)))) (fun z => absurd ⟨hz.1, by omega⟩ z))) (fun z => absurd hy z))) (fun z => absurd hx z)
  obtain ⟨a, ha, rfl⟩ := z_rng (n := 256) hx (by decide)
  obtain ⟨b, hb, rfl⟩ := z_rng (n := 256) hy (by decide)
  obtain ⟨n, hn, rfl⟩ := z_rng (n := 11) hz (by decide)
  rw [a3, a4]
  have hle := rwn_le c d b n a
  have h10 : 2 ^ n ≤ 1024 := Nat.pow_le_pow_right (n := 2) (by decide) (show n ≤ 10 by omega)
  have key : ∀ v, (∀ (p2 : Int64 → Mm → Ml → Prop) (L' : Ml), (∀ L2, p2 v M L2) → (∀ m, m ≤ n → ∀ a, a < 256 → L' 57 (256 * m + a) = lN (rwn c d b m a)) → ((¬ w = 0 → (¬ lN (rwn c d b n a) = lN 0 → wpX9_firstAirs (nI a) (nI n) M L' (fun r_87 M_87 L_87 => p2 r_87 M_87 L_87)) ∧ (lN (rwn c d b n a) = lN 0 → p2 (-6 : Int64) M L')) ∧ (w = 0 → p2 (lN (rwn c d b n a)) M L'))) → agr (wpX9_grew (nI a) (nI b) (nI n) w) v M L := by
    intro v hv p2 hp
    unfold wpX9_grew wpX9_grew_90
    refine sX9_isArm (fun _ => c1 (sX9_isArm (fun _ => c1 (sX9_in 0 10 (fun _ => c1 (sX9_in 0 1 (fun _ => b1 ?_) (fun z => absurd ⟨hw.1, by omega⟩ z))) (fun z => absurd ⟨hz.1, by omega⟩ z))) (fun z => absurd hy z))) (fun z => absurd hx z)
    refine sX9_findWays hc hd hb (by omega) a1 a2 (fun L' hL => ?_)
    rw [show (256 : Int32) * nI n = nI (256 * n) by rw [show (256 : Int32) = nI 256 from rfl, pk_mul], nI_add, nI_clamp (n := 256 * n + a) (by omega)]
    refine ⟨vp_in_nI (by omega) (by decide), fun q eq => ?_⟩
    rw [hL n (Nat.le_refl n) a ha] at eq
    subst eq
    rw [zcmp_eq, show (0 : Int64) = lN 0 from rfl]
    exact hv p2 L' (fun L2 => hp M L2 hR) hL
  have ez : lN (rwn c d b n a) = lN 0 ↔ rwn c d b n a = 0 := pk_lEQ (by omega) (by decide)
  refine ⟨fun nw => sX3_firstRow hc hd hb ha (by omega) ?_, fun e0 => sX3_rows hc hd hb n 11 a _ (by omega) (by omega) ha ?_⟩
  · by_cases e : rwn c d b n a = 0
    · rw [if_pos e]
      exact h _ _ _ (key _ (fun p2 L' hp hL => nf_ nw (nt_ (ez.mpr e) (hp L'))))
    · rw [if_neg e]
      exact h _ _ _ (key _ (fun p2 L' hp hL => nf_ nw (nf_ (fun q => e (ez.mp q)) (sX9_firstAirs hc hd ha (by omega) a1 a2 hL (hp L')))))
  · rw [nI_l (by omega)]
    exact h _ _ _ (key _ (fun p2 L' hp hL => nt_ e0 (hp L')))
end GREW
