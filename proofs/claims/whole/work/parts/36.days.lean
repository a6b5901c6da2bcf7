/-! stands, posted, done -/
section PRE
variable {M : Mm} {L : Ml} {post : Int32 → Mm → Ml → Prop}
theorem RB_stop {t u c : Nat} {Mc Z : Mm} {r r2 : Int32} (hC : RC t u c M Mc r) (hB : RB t c M Mc Z r r2) (ne : ¬ r = 0) : r2 = r ∧ ¬ r = -6 := by
  rcases RC_r hC with e | e | e
  · exact ⟨by rw [RB_no hB e, e], by rw [e]; decide⟩
  · exact absurd e ne
  · obtain ⟨d0, n, hn60, -, -, -, e2⟩ := RB_go hB (by rw [e]; decide)
    exact ⟨by rw [e2, if_neg ne, e], by rw [e]; decide⟩
theorem RB_fine {t c : Nat} {Mc Z : Mm} {r r2 : Int32} (hB : RB t c M Mc Z r r2) (e0 : r = 0) : r2 = -6 ∧ ∃ d0 n, JJ t d0 n Z ∧ Z 42 16 = nI n ∧ Z 2 4 = nI n := by
  obtain ⟨d0, n, hn60, hJ, q1, q2, e2⟩ := RB_go hB (by rw [e0]; decide)
  exact ⟨by rw [e2, if_pos e0], d0, n, hJ, q2, q1⟩
theorem x3_cases {x : Int32} {n : Nat} (h : 0 ≤ x.toInt ∧ x.toInt < n) (hn : n = 3) : x = 0 ∨ x = 1 ∨ x = 2 := by
  subst hn
  obtain ⟨k, hk, rfl⟩ := z_rng h (by decide)
  rcases (show k = 0 ∨ k = 1 ∨ k = 2 by omega) with rfl | rfl | rfl
  · exact Or.inl rfl
  · exact Or.inr (Or.inl rfl)
  · exact Or.inr (Or.inr rfl)
theorem pr_stands (hR : RI M) {x y : Int32} (h : ∀ r M1 L1, agr (wpX9_stands x y) r M1 L1 → post r M1 L1) : wpX8_stands x y M L post := by
  obtain ⟨⟨t, u, hY⟩, ⟨c, hP⟩, -⟩ := id hR
  have ht := hY.1
  have e42 : M 42 0 = nI t := hY.2.2.2.1
  unfold wpX8_stands
  refine sX8_isBelow 6 (fun hx => b1 ?_) (fun hout => b0 (h _ _ _ (fun p2 hp => ?_)))
  rotate_left
  · unfold wpX9_stands
    exact sX9_isOne (fun z => absurd z hout) (fun _ => b0 (hp _ _ hR))
  obtain ⟨k, hk, rfl⟩ := z_rng (n := 6) hx (by decide)
  refine sX8_isBelow 3 (fun hin => b1 ?_) (fun hout => b0 (h _ _ _ (fun p2 hp => ?_)))
  rotate_left
  · unfold wpX9_stands
    exact sX9_isOne (fun _ => b1 (sX9_in 0 2 (fun z => absurd ⟨z.1, by omega⟩ hout) (fun _ => b0 (hp _ _ hR)))) (fun z => absurd hx z)
  refine sX8_refusalOfDays hY hP (fun r Mc hC => ?_)
  have vk : vp_in (nI k) 6 := vp_in_nI hk (by decide)
  have ek : (nI k).toNatClampNeg = k := nI_clamp (by omega)
  have key : ∀ v, (∀ r2 Z (p2 : Int32 → Mm → Ml → Prop), RB t c M Mc Z r r2 → (∀ s, r2 = -6 → s = v → wpX9_stands_61 p2 Z L r2 s) → (∀ s, ¬ r2 = -6 → r2 = v → wpX9_stands_61 p2 Z L r2 s) → (¬ y = 0 → (¬ y = (1 : Int32) → wpX9_flakesOf (nI k) Z L (fun r_58 M_58 L_58 => wpX9_stands_61 p2 M_58 L_58 r2 r_58)) ∧ (y = (1 : Int32) → vp_in (nI k) 6 ∧ (wpX9_stands_61 p2 Z L r2 (Z 49 (nI k).toNatClampNeg)))) ∧ (y = 0 → vp_in (nI k) 6 ∧ (wpX9_stands_61 p2 Z L r2 (Z 48 (nI k).toNatClampNeg)))) → agr (wpX9_stands (nI k) y) v Mc L := by
    intro v hv p2 hp
    unfold wpX9_stands
    refine sX9_isOne (fun _ => b1 (sX9_in 0 2 (fun _ => b1 (sX9_refusal hY hP hC (fun r2 Z hB => hv r2 Z p2 hB ?_ ?_))) (fun z => absurd ⟨hin.1, by omega⟩ z))) (fun z => absurd hx z)
    · intro s e es
      unfold wpX9_stands_61 wpX9_stands_76
      exact bt_ e (sX9_back (fun Z' hK => by rw [es]; exact hp Z' L (RI_back hR hB hK)))
    · intro s e es
      unfold wpX9_stands_61 wpX9_stands_76
      exact bf_ e (sX9_back (fun Z' hK => by rw [es]; exact hp Z' L (RI_back hR hB hK)))
  rw [ek] at key ⊢
  refine ⟨fun e0 => ⟨fun q0 => ⟨vk, ?_⟩, fun n0 => ⟨fun q1 => ?_, fun n1 => ?_⟩⟩, fun ne => ?_⟩
  · refine h _ _ _ (key _ (fun r2 Z p2 hB h1 h2 => ?_))
    obtain ⟨e2, d0, n, ⟨⟨u', hYZ⟩, -⟩, -, -⟩ := RB_fine hB e0
    have v1 : Z 48 k = Z 41 k := (hYZ.2.2.2.2.2.2.1 k hk).1
    exact nt_ q0 ⟨vk, h1 _ e2 (by rw [v1, hB.1 41 (by decide)])⟩
  · obtain ⟨d0, B', ⟨u', hYc⟩, -⟩ := RC_JJ hC hP.1 (by rw [e0]; decide)
    have e7 : Mc 35 7 = nI u' := hYc.2.2.2.2.1
    rw [e7]
    refine sX8_bit (by have := hYc.2.1; omega) (by omega) ?_
    refine h _ _ _ (key _ (fun r2 Z p2 hB h1 h2 => ?_))
    obtain ⟨e2, d0, n, ⟨⟨u2, hYZ⟩, -⟩, -, -⟩ := RB_fine hB e0
    have v1 : Z 49 k = if u2.testBit k then 1 else 0 := (hYZ.2.2.2.2.2.2.1 k hk).2.2
    have v7 : Z 35 7 = nI u2 := hYZ.2.2.2.2.1
    rw [hB.1 35 (by decide), e7] at v7
    have eu : u' = u2 := nI_inj (by have := hYc.2.1; omega) (by have := hYZ.2.1; omega) v7
    refine nf_ (by rw [q1]; decide) (nt_ q1 ⟨vk, h1 _ e2 (by rw [v1, eu])⟩)
  · obtain ⟨d0, B', ⟨u', hYc⟩, -⟩ := RC_JJ hC hP.1 (by rw [e0]; decide)
    have e7 : Mc 35 0 = nI t := hYc.2.2.1
    refine sX7_flakesWith ?_
    rw [e7, z_and]
    refine h _ _ _ (key _ (fun r2 Z p2 hB h1 h2 => ?_))
    obtain ⟨e2, d0, n, ⟨⟨u2, hYZ⟩, -⟩, -, -⟩ := RB_fine hB e0
    refine nf_ n0 (nf_ n1 (sX9_flakesOf (t := t) hYZ.2.2.2.1 ht (h1 _ e2 ?_)))
    congr 1
    refine zbs_cong (fun i hi => ?_)
    cases hb : t.testBit i with
    | false => simp
    | true =>
      have v1 : Z 47 i = Z 40 i := ((hYZ.2.2.2.2.2.1 i hi).1 hb).1.2.2.2.2
      rw [v1, hB.1 40 (by decide), Bool.and_true, Bool.true_and]
  · refine h _ _ _ (key _ (fun r2 Z p2 hB h1 h2 => ?_))
    obtain ⟨e2, hn⟩ := RB_stop hC hB ne
    have h2 := fun s => h2 s (by rw [e2]; exact hn) e2
    exact ⟨fun _ => ⟨fun _ => sX9_flakesOf (t := t) (by rw [hB.2.2.2.2.2.1.1]; exact e42) ht (h2 _), fun _ => ⟨vk, h2 _⟩⟩, fun _ => ⟨vk, h2 _⟩⟩
theorem pr_posted (hR : RI M) {y : Int32} (h : ∀ r M1 L1, agr (wpX9_posted y) r M1 L1 → post r M1 L1) : wpX8_posted y M L post := by
  obtain ⟨⟨t, u, hY⟩, ⟨c, hP⟩, -⟩ := id hR
  have ht := hY.1
  have e42 : M 42 0 = nI t := hY.2.2.2.1
  unfold wpX8_posted
  refine sX8_isBelow 3 (fun hin => b1 ?_) (fun hout => b0 (h _ _ _ (fun p2 hp => ?_)))
  rotate_left
  · unfold wpX9_posted
    exact sX9_in 0 2 (fun z => absurd ⟨z.1, by omega⟩ hout) (fun _ => b0 (hp _ _ hR))
  refine sX8_refusalOfDays hY hP (fun r Mc hC => ?_)
  have key : ∀ v, (∀ r2 Z (p2 : Int32 → Mm → Ml → Prop), RB t c M Mc Z r r2 → (∀ s, r2 = -6 → s = v → wpX9_posted_50 p2 Z L r2 s) → (∀ s, ¬ r2 = -6 → r2 = v → wpX9_posted_50 p2 Z L r2 s) → (¬ y = 0 → (¬ y = (1 : Int32) → wpX9_riverNow Z L (fun r_44 M_44 L_44 => wpX9_bitsOf r_44 M_44 L_44 (fun r_47 M_47 L_47 => wpX9_posted_50 p2 M_47 L_47 r2 r_47))) ∧ (y = (1 : Int32) → wpX9_posted_50 p2 Z L r2 (Z 42 18))) ∧ (y = 0 → wpX9_postedNow Z L (fun r_25 M_25 L_25 => wpX9_posted_50 p2 M_25 L_25 r2 r_25))) → agr (wpX9_posted y) v Mc L := by
    intro v hv p2 hp
    unfold wpX9_posted
    refine sX9_in 0 2 (fun _ => b1 (sX9_refusal hY hP hC (fun r2 Z hB => hv r2 Z p2 hB ?_ ?_))) (fun z => absurd ⟨hin.1, by omega⟩ z)
    · intro s e es
      unfold wpX9_posted_50 wpX9_posted_63
      exact bt_ e (sX9_back (fun Z' hK => by rw [es]; exact hp Z' L (RI_back hR hB hK)))
    · intro s e es
      unfold wpX9_posted_50 wpX9_posted_63
      exact bf_ e (sX9_back (fun Z' hK => by rw [es]; exact hp Z' L (RI_back hR hB hK)))
  refine ⟨fun e0 => ⟨fun q0 => ?_, fun n0 => ⟨fun q1 => ?_, fun n1 => ?_⟩⟩, fun ne => ?_⟩
  · obtain ⟨d0, B', ⟨u', hYc⟩, -⟩ := RC_JJ hC hP.1 (by rw [e0]; decide)
    have e7 : Mc 35 0 = nI t := hYc.2.2.1
    refine sX7_delivered ?_
    rw [e7, z_and]
    refine h _ _ _ (key _ (fun r2 Z p2 hB h1 h2 => ?_))
    obtain ⟨e2, d0, n, ⟨⟨u2, hYZ⟩, -⟩, -, -⟩ := RB_fine hB e0
    refine nt_ q0 (sX9_postedNow (t := t) hYZ.2.2.2.1 ht (h1 _ e2 ?_))
    congr 1
    refine zbs_cong (fun i hi => ?_)
    cases hb : t.testBit i with
    | false => simp
    | true =>
      have v1 : Z 47 i = Z 40 i := ((hYZ.2.2.2.2.2.1 i hi).1 hb).1.2.2.2.2
      have v2 : Z 46 i = Z 39 i := ((hYZ.2.2.2.2.2.1 i hi).1 hb).1.2.2.2.1
      rw [v1, v2, hB.1 40 (by decide), hB.1 39 (by decide), Bool.and_true, Bool.true_and]
  · refine h _ _ _ (key _ (fun r2 Z p2 hB h1 h2 => ?_))
    obtain ⟨e2, d0, n, ⟨⟨u2, hYZ⟩, -, -, ⟨f1, -⟩, -⟩, -, -⟩ := RB_fine hB e0
    refine nf_ n0 (nt_ q1 (h1 _ e2 ?_))
    rw [← f1, hB.1 6 (by decide)]
  · obtain ⟨d0, B', ⟨u', hYc⟩, -⟩ := RC_JJ hC hP.1 (by rw [e0]; decide)
    have e7 : Mc 35 0 = nI t := hYc.2.2.1
    refine sX7_inRiver ?_
    rw [e7, z_and]
    refine sJ6_bitCount (zbs_lt _ 8) ?_
    refine h _ _ _ (key _ (fun r2 Z p2 hB h1 h2 => ?_))
    obtain ⟨e2, d0, n, ⟨⟨u2, hYZ⟩, -⟩, -, -⟩ := RB_fine hB e0
    refine nf_ n0 (nf_ n1 (sX9_riverNow (t := t) hYZ.2.2.2.1 ht (sX9_bitsOf (zbs_lt _ 8) (h1 _ e2 ?_))))
    have e : zbs (fun k => t.testBit k && decide (¬ 0 ≤ Z 44 k)) 8 = zbs (fun k => decide (Mc 37 k = -6) && t.testBit k) 8 := zbs_cong (fun i hi => by
      cases hb : t.testBit i with
      | false => simp
      | true =>
        have hf := (hYZ.2.2.2.2.2.1 i hi).1 hb
        have v1 : Z 44 i = Z 37 i := hf.1.2.1
        have v2 : zlt 16 (Z 37 i) ∨ Z 37 i = -6 ∧ Z 38 i = 0 := hf.2.2.1
        rw [hB.1 37 (by decide)] at v1 v2
        rw [v1, Bool.and_true, Bool.true_and]
        rcases v2 with e | ⟨e, -⟩
        · rw [decide_eq_false (p := Mc 37 i = -6) (nlt_m6 (by decide) e), decide_eq_false (fun z => z (nlt_0 (by decide) e))]
        · rw [e]; rfl)
    rw [e]
  · refine h _ _ _ (key _ (fun r2 Z p2 hB h1 h2 => ?_))
    obtain ⟨e2, hn⟩ := RB_stop hC hB ne
    have h2 := fun s => h2 s (by rw [e2]; exact hn) e2
    have z42 : Z 42 0 = nI t := by rw [hB.2.2.2.2.2.1.1]; exact e42
    exact ⟨fun _ => ⟨fun _ => sX9_riverNow (t := t) z42 ht (sX9_bitsOf (zbs_lt _ 8) (h2 _)), fun _ => h2 _⟩, fun _ => sX9_postedNow (t := t) z42 ht (h2 _)⟩
theorem pr_done (hR : RI M) (h : ∀ r M1 L1, agr wpX9_done r M1 L1 → post r M1 L1) : wpX8_done M L post := by
  obtain ⟨⟨t, u, hY⟩, ⟨c, hP⟩, hW, hI⟩ := id hR
  have ht := hY.1
  unfold wpX8_done
  refine sX8_refusalOfDays hY hP (fun r Mc hC => ⟨fun e0 => ?_, fun ne => h _ _ _ (fun p2 hp => ?_)⟩)
  · refine sX7_copy (Or.inl (by decide)) (fun M22 hc M30 e30 => ?_)
    have n30 : ∀ a, a ≠ 2 → M30 a = M22 a := fun a ha => by rw [e30, zs_ne ha]
    refine h _ _ _ (fun p2 hp => ?_)
    unfold wpX9_done
    obtain ⟨f1, -⟩ := RC_fr hC
    refine sX9_refusal_x hY hP hC (fun a ha => ?_) (fun r2 Z hz hB => ?_)
    · rw [n30 a (by omega), hc.1 a (Or.inr (by omega))]
      exact f1 a (by omega) (by omega) (by omega) (by omega) (by omega)
    · obtain ⟨e2, d0, n, ⟨⟨u2, hYZ⟩, -⟩, q2, q1⟩ := RB_fine hB e0
      refine bt_ e2 (fun M19 e19 => ?_)
      have q2 : Z 42 16 = nI n := q2
      have q1 : Mc 2 4 = nI n := q1
      have r1 : M30 2 4 = M19 42 16 := by
        rw [e19, zs_nj (by decide), q2, e30, zs_nj (by decide), hc.1 2 (Or.inl (by decide)), q1]
      rw [← r1]
      refine hp M19 L ?_
      have n19 : ∀ a, a ≠ 42 → M19 a = Z a := fun a ha => by rw [e19, zs_ne ha]
      have n42 : ∀ j, j ≠ 13 → M19 42 j = Z 42 j := fun a ha => by rw [e19, zs_nj ha]
      obtain ⟨b1, b2, b3, b4, b5, b6, -⟩ := hB
      have zl : ∀ a, a ≠ 2 → a ≠ 4 → a ≠ 5 → a ≠ 6 → a < 35 → (a < 14 ∨ 20 < a) → M19 a = M a := fun a h1 h2 h3 h4 h5 h6 => by
        rw [n19 a (by omega), hz a (by omega), n30 a h1, hc.1 a (by omega), ← b1 a (by omega)]
        exact b2 a h1 h2 h3 h4 h5
      have zh : ∀ a, 50 ≤ a → a ≠ 54 → a ≠ 55 → a ≠ 56 → M19 a = M a := fun a h1 h2 h3 h4 => by
        rw [n19 a (by omega)]
        have := b4 a h1 h2 h3 h4
        rw [mix_ge (by omega)] at this
        exact this
      have hY22 : YD 14 (vM (mix Mc Z)) t u2 M22 := YD_copy hc (YD_same hYZ (fun i hi => (mix_lt (by omega)).symm))
      have hY19 : YD 14 (vM (mix Mc Z)) t u2 M19 := YD_same hY22 (fun i hi => by rw [n19 _ (by omega), hz _ (by omega), n30 _ (by omega)])
      have ev : ∀ i, 1 ≤ i → i ≤ 10 → ∀ k, vM M19 i k = vM (mix Mc Z) i k := fun i h1 h2 k => by
        unfold vM
        rw [if_neg (by omega), if_neg (by omega), if_neg (by omega), if_neg (by omega), n19 _ (by omega), mix_ge (by omega)]
      refine ⟨⟨t, u2, YD_view hY19 ?_ (fun i h1 h2 k _ => ev i h1 (by omega) k) (fun i h1 h2 k _ => ev i (by omega) (by omega) k) (fun k _ => ev 8 (by decide) (by decide) k) ?_ (fun i h1 h2 k _ => ev i (by omega) (by omega) k)⟩, ⟨0, by decide, ?_, ?_, fun i hi => absurd hi (by omega)⟩, fun n hn => ?_, ?_⟩
      · show M19 42 0 = mix Mc Z 42 0
        rw [n42 0 (by decide)]; rfl
      · show M19 42 11 = mix Mc Z 42 11
        rw [n42 11 (by decide)]; rfl
      · rw [n19 2 (by decide), hz 2 (by decide), e30, zs_eq]; rfl
      · rw [e19, zs_eq]; rfl
      · rw [zl 13 (by decide) (by decide) (by decide) (by decide) (by decide) (by decide)]; exact hW n hn
      · exact IM_cong hI (by rw [zl 0 (by decide) (by decide) (by decide) (by decide) (by decide) (by decide)]) (zh 65 (by decide) (by decide) (by decide) (by decide)) (zh 66 (by decide) (by decide) (by decide) (by decide)) (fun a h1 h2 => zl a (by omega) (by omega) (by omega) (by omega) (by omega) (by omega))
  · unfold wpX9_done
    refine sX9_refusal hY hP hC (fun r2 Z hB => ?_)
    obtain ⟨e2, hn⟩ := RB_stop hC hB ne
    rw [e2]
    exact bf_ hn (sX9_back (fun Z' hK => hp Z' L (RI_back hR hB hK)))
end PRE
