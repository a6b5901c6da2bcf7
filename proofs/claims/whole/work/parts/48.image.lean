/-! image, restore -/
section IMGB
variable {M : Mm} {L : Ml}
theorem sX9_passAllR {post : Mm → Ml → Prop} {q : Nat} (hq : q + 72 ≤ 180) (e33 : M 42 33 = nI q) (e34 : M 42 34 = 0) (h : ∀ M', (∀ a, a < 42 ∨ 52 < a → M' a = M a) → (∀ j, j ≠ 0 → j ≠ 11 → j ≠ 33 → M' 42 j = M 42 j) → (M' 42 0 = M 65 q ∧ M' 42 11 = M 65 (q + 1)) → (∀ i, 1 ≤ i → i ≤ 10 → ∀ j, j < (if i ≤ 5 then 8 else if i ≤ 7 then 6 else if i = 8 then 2 else 8) → M' (42 + i) j = M 65 (q + voff i + j)) → post M' L) : wpX9_passAll M L post := by
  unfold wpX9_passAll
  refine sX9_passR (P := q) (by omega) e33 e34 (fun A1 f1 => ?_)
  have n1 : ∀ a, a ≠ 42 → A1 a = M a := fun a h1 => by rw [f1, zs_ne h1, zs_ne h1]
  have j1 : ∀ j, j ≠ 0 → j ≠ 33 → A1 42 j = M 42 j := fun j h0 h1 => by rw [f1, zs_nj h0, zs_nj h1]
  have k1 : A1 42 33 = nI (q + 1) := by rw [f1, zs_nj (by decide), zs_eq]
  have o1 : A1 42 0 = M 65 q := by rw [f1, zs_eq]
  refine sX9_passR (P := q + 1) (by omega) k1 (by rw [j1 34 (by decide) (by decide)]; exact e34) (fun B0 f2 => ?_)
  rw [n1 65 (by decide)] at f2
  have n2 : ∀ a, a ≠ 42 → B0 a = M a := fun a h1 => by rw [f2, zs_ne h1, zs_ne h1]; exact n1 a h1
  have j2 : ∀ j, j ≠ 0 → j ≠ 11 → j ≠ 33 → B0 42 j = M 42 j := fun j h0 h2 h1 => by rw [f2, zs_nj h2, zs_nj h1]; exact j1 j h0 h1
  have k2 : B0 42 33 = nI (q + 2) := by rw [f2, zs_nj (by decide), zs_eq]
  have o0 : B0 42 0 = M 65 q := by rw [f2, zs_nj (by decide), zs_nj (by decide)]; exact o1
  have o11 : B0 42 11 = M 65 (q + 1) := by rw [f2, zs_eq]
  have r34 : ∀ X : Mm, (∀ j, j ≠ 33 → X 42 j = B0 42 j) → X 42 34 = 0 := fun X hX => by rw [hX 34 (by decide), j2 34 (by decide) (by decide) (by decide)]; exact e34
  have j2' : ∀ j, j ≠ 33 → B0 42 j = B0 42 j := fun _ _ => rfl
  have c2 : B0 65 = M 65 := n2 65 (by decide)
  refine sX9_passRowR (c := 8) (P := q + 2) (by decide) (by decide) (by decide) (by omega) k2 (r34 _ j2') (fun B1 n3 j3 k3 v3 => ?_)
  have j3 : ∀ j, j ≠ 33 → B1 42 j = B0 42 j := fun j hj => (j3 j hj).trans (j2' j hj)
  have c3 : B1 65 = M 65 := (n3 65 (by decide) (by decide)).trans c2
  rw [c2] at v3
  refine sX9_passRowR (c := 8) (P := q + 10) (by decide) (by decide) (by decide) (by omega) k3 (r34 _ j3) (fun B2 n4 j4 k4 v4 => ?_)
  have j4 : ∀ j, j ≠ 33 → B2 42 j = B0 42 j := fun j hj => (j4 j hj).trans (j3 j hj)
  have c4 : B2 65 = M 65 := (n4 65 (by decide) (by decide)).trans c3
  rw [c3] at v4
  refine sX9_passRowR (c := 8) (P := q + 18) (by decide) (by decide) (by decide) (by omega) k4 (r34 _ j4) (fun B3 n5 j5 k5 v5 => ?_)
  have j5 : ∀ j, j ≠ 33 → B3 42 j = B0 42 j := fun j hj => (j5 j hj).trans (j4 j hj)
  have c5 : B3 65 = M 65 := (n5 65 (by decide) (by decide)).trans c4
  rw [c4] at v5
  refine sX9_passRowR (c := 8) (P := q + 26) (by decide) (by decide) (by decide) (by omega) k5 (r34 _ j5) (fun B4 n6 j6 k6 v6 => ?_)
  have j6 : ∀ j, j ≠ 33 → B4 42 j = B0 42 j := fun j hj => (j6 j hj).trans (j5 j hj)
  have c6 : B4 65 = M 65 := (n6 65 (by decide) (by decide)).trans c5
  rw [c5] at v6
  refine sX9_passRowR (c := 8) (P := q + 34) (by decide) (by decide) (by decide) (by omega) k6 (r34 _ j6) (fun B5 n7 j7 k7 v7 => ?_)
  have j7 : ∀ j, j ≠ 33 → B5 42 j = B0 42 j := fun j hj => (j7 j hj).trans (j6 j hj)
  have c7 : B5 65 = M 65 := (n7 65 (by decide) (by decide)).trans c6
  rw [c6] at v7
  refine sX9_passRowR (c := 6) (P := q + 42) (by decide) (by decide) (by decide) (by omega) k7 (r34 _ j7) (fun B6 n8 j8 k8 v8 => ?_)
  have j8 : ∀ j, j ≠ 33 → B6 42 j = B0 42 j := fun j hj => (j8 j hj).trans (j7 j hj)
  have c8 : B6 65 = M 65 := (n8 65 (by decide) (by decide)).trans c7
  rw [c7] at v8
  refine sX9_passRowR (c := 6) (P := q + 48) (by decide) (by decide) (by decide) (by omega) k8 (r34 _ j8) (fun B7 n9 j9 k9 v9 => ?_)
  have j9 : ∀ j, j ≠ 33 → B7 42 j = B0 42 j := fun j hj => (j9 j hj).trans (j8 j hj)
  have c9 : B7 65 = M 65 := (n9 65 (by decide) (by decide)).trans c8
  rw [c8] at v9
  refine sX9_passRowR (c := 2) (P := q + 54) (by decide) (by decide) (by decide) (by omega) k9 (r34 _ j9) (fun B8 n10 j10 k10 v10 => ?_)
  have j10 : ∀ j, j ≠ 33 → B8 42 j = B0 42 j := fun j hj => (j10 j hj).trans (j9 j hj)
  have c10 : B8 65 = M 65 := (n10 65 (by decide) (by decide)).trans c9
  rw [c9] at v10
  refine sX9_passRowR (c := 8) (P := q + 56) (by decide) (by decide) (by decide) (by omega) k10 (r34 _ j10) (fun B9 n11 j11 k11 v11 => ?_)
  have j11 : ∀ j, j ≠ 33 → B9 42 j = B0 42 j := fun j hj => (j11 j hj).trans (j10 j hj)
  have c11 : B9 65 = M 65 := (n11 65 (by decide) (by decide)).trans c10
  rw [c10] at v11
  refine sX9_passRowR (c := 8) (P := q + 64) (by decide) (by decide) (by decide) (by omega) k11 (r34 _ j11) (fun B10 n12 j12 k12 v12 => ?_)
  have j12 : ∀ j, j ≠ 33 → B10 42 j = B0 42 j := fun j hj => (j12 j hj).trans (j11 j hj)
  have c12 : B10 65 = M 65 := (n12 65 (by decide) (by decide)).trans c11
  rw [c11] at v12
  refine h B10 (fun a ha => ?_) (fun j h0 h1 h2 => by rw [j12 j h2]; exact j2 j h0 h1 h2) ⟨by rw [j12 0 (by decide)]; exact o0, by rw [j12 11 (by decide)]; exact o11⟩ (fun i h1 h2 j hj => ?_)
  · rw [n12 a (by omega) (by omega), n11 a (by omega) (by omega), n10 a (by omega) (by omega), n9 a (by omega) (by omega), n8 a (by omega) (by omega), n7 a (by omega) (by omega), n6 a (by omega) (by omega), n5 a (by omega) (by omega), n4 a (by omega) (by omega), n3 a (by omega) (by omega), n2 a (by omega)]
  · rcases (show i = 1 ∨ i = 2 ∨ i = 3 ∨ i = 4 ∨ i = 5 ∨ i = 6 ∨ i = 7 ∨ i = 8 ∨ i = 9 ∨ i = 10 by omega) with rfl | rfl | rfl | rfl | rfl | rfl | rfl | rfl | rfl | rfl
    · have hj : j < 8 := hj
      show B10 43 j = M 65 (q + 2 + j)
      rw [n12 43 (by decide) (by decide), n11 43 (by decide) (by decide), n10 43 (by decide) (by decide), n9 43 (by decide) (by decide), n8 43 (by decide) (by decide), n7 43 (by decide) (by decide), n6 43 (by decide) (by decide), n5 43 (by decide) (by decide), n4 43 (by decide) (by decide), v3 j hj]
    · have hj : j < 8 := hj
      show B10 44 j = M 65 (q + 10 + j)
      rw [n12 44 (by decide) (by decide), n11 44 (by decide) (by decide), n10 44 (by decide) (by decide), n9 44 (by decide) (by decide), n8 44 (by decide) (by decide), n7 44 (by decide) (by decide), n6 44 (by decide) (by decide), n5 44 (by decide) (by decide), v4 j hj]
    · have hj : j < 8 := hj
      show B10 45 j = M 65 (q + 18 + j)
      rw [n12 45 (by decide) (by decide), n11 45 (by decide) (by decide), n10 45 (by decide) (by decide), n9 45 (by decide) (by decide), n8 45 (by decide) (by decide), n7 45 (by decide) (by decide), n6 45 (by decide) (by decide), v5 j hj]
    · have hj : j < 8 := hj
      show B10 46 j = M 65 (q + 26 + j)
      rw [n12 46 (by decide) (by decide), n11 46 (by decide) (by decide), n10 46 (by decide) (by decide), n9 46 (by decide) (by decide), n8 46 (by decide) (by decide), n7 46 (by decide) (by decide), v6 j hj]
    · have hj : j < 8 := hj
      show B10 47 j = M 65 (q + 34 + j)
      rw [n12 47 (by decide) (by decide), n11 47 (by decide) (by decide), n10 47 (by decide) (by decide), n9 47 (by decide) (by decide), n8 47 (by decide) (by decide), v7 j hj]
    · have hj : j < 6 := hj
      show B10 48 j = M 65 (q + 42 + j)
      rw [n12 48 (by decide) (by decide), n11 48 (by decide) (by decide), n10 48 (by decide) (by decide), n9 48 (by decide) (by decide), v8 j hj]
    · have hj : j < 6 := hj
      show B10 49 j = M 65 (q + 48 + j)
      rw [n12 49 (by decide) (by decide), n11 49 (by decide) (by decide), n10 49 (by decide) (by decide), v9 j hj]
    · have hj : j < 2 := hj
      show B10 50 j = M 65 (q + 54 + j)
      rw [n12 50 (by decide) (by decide), n11 50 (by decide) (by decide), v10 j hj]
    · have hj : j < 8 := hj
      show B10 51 j = M 65 (q + 56 + j)
      rw [n12 51 (by decide) (by decide), v11 j hj]
    · have hj : j < 8 := hj
      show B10 52 j = M 65 (q + 64 + j)
      rw [v12 j hj]
theorem zY_k {k : Nat} (hk : k < 2) : zY k = 21 + 7 * k := by
  rcases (show k = 0 ∨ k = 1 by omega) with rfl | rfl <;> rfl
theorem kb_or : ∀ kb, kb < 4 → ∀ k, k < 2 → (kb ||| 2 ^ k) < 4 ∧ ∀ i, i < 2 → (kb ||| 2 ^ k).testBit i = (decide (i = k) || kb.testBit i) := by decide +kernel
theorem vK_at {k i j : Nat} {P : Mm} : vK k P i j = P 65 (90 * k + voff i + j) := by
  unfold vK
  rw [Nat.add_assoc]
/-- the model as the image k has it -/
theorem vK_view {k b t u : Nat} {P N : Mm} (h : YD b (vM N) t u M) (h0 : P 65 (90 * k) = N 42 0) (h1 : P 65 (90 * k + 1) = N 42 11) (hr : ∀ i, 1 ≤ i → i ≤ 10 → ∀ j, j < (if i ≤ 5 then 8 else if i ≤ 7 then 6 else if i = 8 then 2 else 8) → P 65 (90 * k + voff i + j) = N (42 + i) j) : YD b (vK k P) t u M := by
  have ev : ∀ i, 1 ≤ i → i ≤ 10 → ∀ j, j < (if i ≤ 5 then 8 else if i ≤ 7 then 6 else if i = 8 then 2 else 8) → vK k P i j = vM N i j := fun i q1 q2 j hj => by
    rw [vK_at, hr i q1 q2 j hj]
    unfold vM
    rw [if_neg (by omega), if_neg (by omega)]
  refine YD_view h ?_ (fun i q1 q2 j hj => ev i q1 (by omega) j (by rw [if_pos q2]; exact hj)) (fun i q1 q2 j hj => ev i (by omega) (by omega) j (by rw [if_neg (by omega), if_pos q2]; exact hj)) (fun j hj => ev 8 (by decide) (by decide) j hj) ?_ (fun i q1 q2 j hj => ev i (by omega) q2 j (by rw [if_neg (by omega), if_neg (by omega), if_neg (by omega)]; exact hj))
  · show P 65 (90 * k + (0 + 0)) = N 42 0
    exact h0
  · show P 65 (90 * k + (1 + 0)) = N 42 11
    exact h1
theorem vM_view {k b t u : Nat} {P N : Mm} (h : YD b (vK k P) t u M) (h0 : N 42 0 = P 65 (90 * k)) (h1 : N 42 11 = P 65 (90 * k + 1)) (hr : ∀ i, 1 ≤ i → i ≤ 10 → ∀ j, j < (if i ≤ 5 then 8 else if i ≤ 7 then 6 else if i = 8 then 2 else 8) → N (42 + i) j = P 65 (90 * k + voff i + j)) : YD b (vM N) t u M := by
  have ev : ∀ i, 1 ≤ i → i ≤ 10 → ∀ j, j < (if i ≤ 5 then 8 else if i ≤ 7 then 6 else if i = 8 then 2 else 8) → vM N i j = vK k P i j := fun i q1 q2 j hj => by
    rw [vK_at, ← hr i q1 q2 j hj]
    unfold vM
    rw [if_neg (by omega), if_neg (by omega)]
  refine YD_view h ?_ (fun i q1 q2 j hj => ev i q1 (by omega) j (by rw [if_pos q2]; exact hj)) (fun i q1 q2 j hj => ev i (by omega) (by omega) j (by rw [if_neg (by omega), if_pos q2]; exact hj)) (fun j hj => ev 8 (by decide) (by decide) j hj) ?_ (fun i q1 q2 j hj => ev i (by omega) q2 j (by rw [if_neg (by omega), if_neg (by omega), if_neg (by omega)]; exact hj))
  · show N 42 0 = P 65 (90 * k + (0 + 0))
    exact h0
  · show N 42 11 = P 65 (90 * k + (1 + 0))
    exact h1
variable {post : Int32 → Mm → Ml → Prop}
theorem pr_image (hR : RI M) {x : Int32} (h : ∀ r M1 L1, agr (wpX9_image x) r M1 L1 → post r M1 L1) : wpX8_image x M L post := by
  obtain ⟨⟨t, u, hY⟩, ⟨c, hc1, hc2, hc3, hc4⟩, hW, kb, k1, k2, k3⟩ := id hR
  unfold wpX8_image
  refine sX8_isBelow 2 (fun hx => b1 ?_) (fun hout => b0 (h _ _ _ (fun p2 hp => ?_)))
  rotate_left
  · unfold wpX9_image
    exact sX9_in 0 1 (fun z => absurd ⟨z.1, by omega⟩ hout) (fun _ => b0 (hp _ _ hR))
  obtain ⟨k, hk, rfl⟩ := z_rng (n := 2) hx (by decide)
  have ek : (nI k).toNatClampNeg = k := nI_clamp (by omega)
  have vk : vp_in (nI k) 2 := vp_in_nI hk (by decide)
  rw [ek, zY_k hk]
  refine ⟨vk, sX7_copy (Or.inr (by omega)) (fun A hc A2 f2 => ?_)⟩
  rw [hc.1 0 (Or.inl (by omega)), k2, z_shl (by omega), fa_or] at f2
  have a0 : A2 0 2 = nI (kb ||| 2 ^ k) := by rw [f2, zs_eq]
  have an : ∀ a, a ≠ 0 → A2 a = A a := fun a ha => by rw [f2, zs_ne ha]
  have am : ∀ a, a ≠ 0 → (a < 21 + 7 * k ∨ 21 + 7 * k + 6 < a) → A2 a = M a := fun a h1 h2 => by rw [an a h1]; exact hc.1 a h2
  obtain ⟨o1, o2⟩ := kb_or kb k1 k hk
  refine h _ _ _ (fun p2 hp => ?_)
  unfold wpX9_image
  refine sX9_in 0 1 (fun _ => b1 (fun B1 g1 B2 g2 => ?_)) (fun z => absurd ⟨hx.1, by omega⟩ z)
  have e90 : (90 : Int32) * nI k = nI (90 * k) := by rw [show (90 : Int32) = nI 90 from rfl, pk_mul]
  rw [e90] at g1
  have bn : ∀ a, a ≠ 42 → B2 a = A2 a := fun a ha => by rw [g2, zs_ne ha, g1, zs_ne ha]
  have bj : ∀ j, j ≠ 33 → j ≠ 34 → B2 42 j = M 42 j := fun j h1 h2 => by rw [g2, zs_nj h2, g1, zs_nj h1, am 42 (by decide) (by omega)]
  have b33 : B2 42 33 = nI (90 * k) := by rw [g2, zs_nj (by decide), g1, zs_eq]
  have b34 : ¬ B2 42 34 = 0 := by rw [g2, zs_eq]; decide
  refine sX9_passAllW (q := 90 * k) (by omega) b33 b34 (fun C cn cj ch cr cw => ?_)
  rw [ek]
  refine ⟨vk, fun D d => hp _ _ ?_⟩
  have dn' : ∀ a, a ≠ 66 → D a = C a := fun a ha => by rw [d, zs_ne ha]
  have d66 : ∀ j, D 66 j = if j = k then 1 else M 66 j := fun j => by
    rw [d, zs_at, cn 66 (by decide) (by decide), bn 66 (by decide), am 66 (by decide) (by omega)]
    rfl
  have dm : ∀ a, a ≠ 66 → a ≠ 65 → a ≠ 42 → a ≠ 0 → (a < 21 + 7 * k ∨ 21 + 7 * k + 6 < a) → D a = M a := fun a h1 h2 h3 h4 h5 => by rw [dn' a h1, cn a h3 h2, bn a h3, am a h4 h5]
  have d42 : ∀ j, j ≠ 33 → j ≠ 34 → D 42 j = M 42 j := fun j h1 h2 => by rw [dn' 42 (by decide), cj j h1, bj j h1 h2]
  have dy : ∀ i, i ≤ 6 → D (21 + 7 * k + i) = A (21 + 7 * k + i) := fun i hi => by rw [dn' _ (by omega), cn _ (by omega) (by omega), bn _ (by omega), an _ (by omega)]
  have d0 : D 0 2 = nI (kb ||| 2 ^ k) := by rw [dn' 0 (by decide), cn 0 (by decide) (by decide), bn 0 (by decide)]; exact a0
  have hYD : YD 14 (vM D) t u D := by
    have ev : ∀ i, 1 ≤ i → i ≤ 10 → ∀ j, vM D i j = vM M i j := fun i h1 h2 j => by
      unfold vM
      rw [if_neg (by omega), if_neg (by omega), if_neg (by omega), if_neg (by omega), dm _ (by omega) (by omega) (by omega) (by omega) (by omega)]
    exact YD_view (V := vM M) (YD_same hY (fun i hi => dm _ (by omega) (by omega) (by omega) (by omega) (by omega))) (d42 0 (by decide) (by decide)) (fun i h1 h2 j _ => ev i h1 (by omega) j) (fun i h1 h2 j _ => ev i (by omega) (by omega) j) (fun j _ => ev 8 (by decide) (by decide) j) (d42 11 (by decide) (by decide)) (fun i h1 h2 j _ => ev i (by omega) (by omega) j)
  refine ⟨⟨t, u, hYD⟩, ⟨c, hc1, by rw [dm 2 (by decide) (by decide) (by decide) (by decide) (by omega)]; exact hc2, by rw [d42 13 (by decide) (by decide)]; exact hc3, fun i hi => by rw [dm 3 (by decide) (by decide) (by decide) (by decide) (by omega), dm 53 (by decide) (by decide) (by decide) (by decide) (by omega)]; exact hc4 i hi⟩, fun n hn => by rw [dm 13 (by decide) (by decide) (by decide) (by decide) (by omega)]; exact hW n hn, kb ||| 2 ^ k, o1, d0, fun i hi => ?_⟩
  rw [d66, o2 i hi]
  by_cases e : i = k
  · subst e
    rw [if_pos rfl]
    simp only [decide_true, Bool.true_or, if_true]
    refine ⟨trivial, fun _ => ⟨t, u, ?_⟩⟩
    have hA : YD (21 + 7 * i) (vM M) t u A := YD_copy hc hY
    have hD : YD (21 + 7 * i) (vM M) t u D := YD_same hA dy
    refine vK_view hD ?_ ?_ (fun a h1 h2 j hj => ?_)
    · rw [dn' 65 (by decide), ch.1]; exact bj 0 (by decide) (by decide)
    · rw [dn' 65 (by decide), ch.2]; exact bj 11 (by decide) (by decide)
    · rw [dn' 65 (by decide), cr a h1 h2 j hj, bn _ (by omega), am _ (by omega) (by omega)]
  · rw [if_neg e]
    simp only [e, decide_false, Bool.false_or]
    obtain ⟨q1, q2⟩ := k3 i hi
    refine ⟨q1, fun hb => ?_⟩
    obtain ⟨t2, u2, hY2⟩ := q2 hb
    refine ⟨t2, u2, ?_⟩
    have hs : YD (21 + 7 * i) (vK i M) t2 u2 D := YD_same hY2 (fun a ha => dm _ (by omega) (by omega) (by omega) (by omega) (by omega))
    have ev : ∀ a j, voff a + j < 72 → vK i D a j = vK i M a j := fun a j hj => by
      rw [vK_at, vK_at, dn' 65 (by decide), cw _ (by omega), bn 65 (by decide), am 65 (by decide) (by omega)]
    refine YD_view hs (ev 0 0 (by decide)) (fun a h1 h2 j hj => ev a j ?_) (fun a h1 h2 j hj => ev a j ?_) (fun j hj => ev 8 j ?_) (ev 11 0 (by decide)) (fun a h1 h2 j hj => ev a j ?_)
    · unfold voff
      rw [if_neg (by omega), if_neg (by omega), if_pos (by omega)]
      omega
    · rcases (show a = 6 ∨ a = 7 by omega) with rfl | rfl
      · show 42 + j < 72
        omega
      · show 48 + j < 72
        omega
    · show 54 + j < 72
      omega
    · rcases (show a = 9 ∨ a = 10 by omega) with rfl | rfl
      · show 56 + j < 72
        omega
      · show 64 + j < 72
        omega
theorem pr_restore (hR : RI M) {x : Int32} (h : ∀ r M1 L1, agr (wpX9_restore x) r M1 L1 → post r M1 L1) : wpX8_restore x M L post := by
  obtain ⟨-, ⟨c, hc1, hc2, hc3, hc4⟩, hW, kb, k1, k2, k3⟩ := id hR
  unfold wpX8_restore
  refine sX8_isBelow 2 (fun hx => b1 ?_) (fun hout => b0 (h _ _ _ (fun p2 hp => ?_)))
  rotate_left
  · unfold wpX9_restore
    exact sX9_in 0 1 (fun z => absurd ⟨z.1, by omega⟩ hout) (fun _ => b0 (hp _ _ hR))
  obtain ⟨k, hk, rfl⟩ := z_rng (n := 2) hx (by decide)
  have ek : (nI k).toNatClampNeg = k := nI_clamp (by omega)
  have vk : vp_in (nI k) 2 := vp_in_nI hk (by decide)
  obtain ⟨q1, q2⟩ := k3 k hk
  rw [ek, zY_k hk, k2]
  refine sX8_bit (by omega) (by omega) ?_
  cases hb : kb.testBit k with
  | false =>
    rw [hb] at q1
    refine nt_ rfl (h _ _ _ (fun p2 hp => ?_))
    unfold wpX9_restore
    refine sX9_in 0 1 (fun _ => b1 ⟨vk, ?_⟩) (fun z => absurd ⟨hx.1, by omega⟩ z)
    rw [ek]
    exact nt_ q1 (hp _ _ hR)
  | true =>
    rw [hb] at q1
    obtain ⟨t, u, hY⟩ := q2 hb
    refine nf_ (by decide) ⟨vk, sX7_copy (Or.inl (by omega)) (fun A hc => h _ _ _ (fun p2 hp => ?_))⟩
    have hA : YD 14 (vK k M) t u A := YD_copy hc hY
    unfold wpX9_restore
    refine sX9_in 0 1 (fun _ => b1 ⟨vk, ?_⟩) (fun z => absurd ⟨hx.1, by omega⟩ z)
    rw [ek, hc.1 66 (Or.inr (by decide)), q1]
    refine nf_ (by decide) (fun B1 g1 B2 g2 => ?_)
    have e90 : (90 : Int32) * nI k = nI (90 * k) := by rw [show (90 : Int32) = nI 90 from rfl, pk_mul]
    rw [e90] at g1
    have bn : ∀ a, a ≠ 42 → B2 a = A a := fun a ha => by rw [g2, zs_ne ha, g1, zs_ne ha]
    have bj : ∀ j, j ≠ 33 → j ≠ 34 → B2 42 j = M 42 j := fun j h1 h2 => by rw [g2, zs_nj h2, g1, zs_nj h1, hc.1 42 (Or.inr (by decide))]
    have b33 : B2 42 33 = nI (90 * k) := by rw [g2, zs_nj (by decide), g1, zs_eq]
    have b34 : B2 42 34 = 0 := by rw [g2, zs_eq]
    refine sX9_passAllR (q := 90 * k) (by omega) b33 b34 (fun C cn cj ch cr => hp _ _ ?_)
    have e65 : B2 65 = M 65 := by rw [bn 65 (by decide), hc.1 65 (Or.inr (by decide))]
    rw [e65] at ch cr
    have cm : ∀ a, (a < 42 ∨ 52 < a) → (a < 14 ∨ 20 < a) → C a = M a := fun a h1 h2 => by rw [cn a h1, bn a (by omega), hc.1 a (by omega)]
    have c42 : ∀ j, j ≠ 0 → j ≠ 11 → j ≠ 33 → j ≠ 34 → C 42 j = M 42 j := fun j h1 h2 h3 h4 => by rw [cj j h1 h2 h3, bj j h3 h4]
    have hCs : YD 14 (vK k M) t u C := YD_same hA (fun i hi => by rw [cn _ (by omega), bn _ (by omega)])
    refine ⟨⟨t, u, vM_view hCs ch.1 ch.2 cr⟩, ⟨c, hc1, by rw [cm 2 (by decide) (by decide)]; exact hc2, by rw [c42 13 (by decide) (by decide) (by decide) (by decide)]; exact hc3, fun i hi => by rw [cm 3 (by decide) (by decide), cm 53 (by decide) (by decide)]; exact hc4 i hi⟩, fun n hn => by rw [cm 13 (by decide) (by decide)]; exact hW n hn, ?_⟩
    exact IM_cong ⟨kb, k1, k2, k3⟩ (by rw [cm 0 (by decide) (by decide)]) (cm 65 (by decide) (by decide)) (cm 66 (by decide) (by decide)) (fun a h1 h2 => cm a (by omega) (by omega))
end IMGB
