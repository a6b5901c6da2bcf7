/-! judge, behind, stands, posted, done: both answer alike -/
def agr {ρ : Type} (W : Mm → Ml → (ρ → Mm → Ml → Prop) → Prop) (r : ρ) (M : Mm) (L : Ml) : Prop := ∀ p2 : ρ → Mm → Ml → Prop, (∀ M2 L2, RI M2 → p2 r M2 L2) → W M L p2
section PRD
variable {M : Mm} {L : Ml} {post : Int32 → Mm → Ml → Prop}
theorem RC_r {t u c : Nat} {Mc : Mm} {r : Int32} (h : RC t u c M Mc r) : r = -5 ∨ r = 0 ∨ r = -3 := by
  obtain ⟨-, -, ⟨-, e, -⟩ | ⟨-, M0, M1, -, -, -, -, e⟩⟩ := h
  · exact Or.inl e
  · rw [e]
    split
    · exact Or.inr (Or.inl rfl)
    · exact Or.inr (Or.inr rfl)
/-- what is known of Z if the days were gone -/
theorem RB_go {t c : Nat} {Mc Z : Mm} {r r2 : Int32} (h : RB t c M Mc Z r r2) (hr : ¬ r = -5) : ∃ d0 n, n ≤ 60 ∧ JJ t d0 n Z ∧ Z 2 4 = nI n ∧ Z 42 16 = nI n ∧ r2 = (if r = 0 then -6 else -3) := by
  obtain ⟨-, -, -, -, -, -, -, ⟨e, -⟩ | ⟨d0, n, hn, hJ, h1, h2, ⟨q1, q2, -⟩ | ⟨q1, q2, -⟩⟩⟩ := h
  · exact absurd e hr
  · exact ⟨d0, n, hn, hJ, h1, h2, by rw [q2, if_pos q1]⟩
  · exact ⟨d0, n, hn, hJ, h1, h2, by rw [q2, if_neg (by rw [q1]; decide)]⟩
theorem RB_no {t c : Nat} {Mc Z : Mm} {r r2 : Int32} (h : RB t c M Mc Z r r2) (hr : r = -5) : r2 = -5 := by
  obtain ⟨-, -, -, -, -, -, -, ⟨-, e⟩ | ⟨d0, n, hn, hJ, h1, h2, ⟨q1, q2, -⟩ | ⟨q1, q2, -⟩⟩⟩ := h
  · exact e
  · rw [hr] at q1; exact absurd q1 (by decide)
  · rw [hr] at q1; exact absurd q1 (by decide)
theorem BK_42 {Z Z' : Mm} (h : BK Z Z') : Z' 42 = Z 42 := h.1 42 (by decide) (by decide) (by decide) (by decide) (by decide) (by decide)
theorem sX2_cameDown {t d0 : Nat} (ht : t < 256) (h0 : M 35 0 = nI t) (hd : d0 < 256) (e4 : M 6 4 = nI d0) (h : post (nI (zct (fun k => dn t M k && !d0.testBit k) 8)) M L) : wpX2_cameDown M L post := by
  unfold wpX2_cameDown
  refine sX7_down ?_
  rw [dn_val (b := 35) ht h0, e4]
  have e : nI d0 = nI (zbs d0.testBit 8) := by rw [zbs_of (n := 8) hd]
  rw [e, z_andnot _ (zbs_lt _ 8)]
  refine sJ6_bitCount (zbs_lt _ 8) ?_
  rw [zpop_ct]
  have e2 : zct (zbs (fun k => (zbs (fun k => t.testBit k && decide (M 38 k ≤ 0) && decide (¬ M 37 k = -6)) 8).testBit k && !d0.testBit k) 8).testBit 8 = zct (fun k => dn t M k && !d0.testBit k) 8 := zct_cong (fun k hk => by
    rw [zbs_tb, zbs_tb, decide_eq_true hk, Bool.true_and, Bool.true_and]
    rfl)
  rw [e2]
  exact h
theorem pr_judge (hR : RI M) {x : Int32} (h : ∀ r M1 L1, agr (wpX9_judge x) r M1 L1 → post r M1 L1) : wpX8_judge x M L post := by
  obtain ⟨⟨t, u, hY⟩, ⟨c, hP⟩, -⟩ := id hR
  unfold wpX8_judge wpX8_judge_84
  refine sX8_isBelow 3 (fun hin => b1 ?_) (fun hout => b0 (h _ _ _ (fun p2 hp => sX9_in 0 2 (fun z => absurd ⟨z.1, by omega⟩ hout) (fun _ => b0 (hp _ _ hR)))))
  refine sX8_refusalOfDays hY hP (fun r Mc hC => ?_)
  have key : ∀ v, (∀ r2 Z Z' (p2 : Int32 → Mm → Ml → Prop), RB t c M Mc Z r r2 → BK Z Z' → p2 v Z' L → (r2 = (-5 : Int32) → wpX9_judge_41 p2 Z' L r2) ∧ (¬ (r2 = (-5 : Int32)) → (x ≤ (1 : Int32) → wpX9_judge_43 p2 Z' L x) ∧ (¬ (x ≤ (1 : Int32)) → (¬ r2 = (-3 : Int32) → wpX9_judge_43 p2 Z' L x) ∧ (r2 = (-3 : Int32) → wpX9_judge_41 p2 Z' L r2)))) → agr (wpX9_judge x) v Mc L := by
    intro v hv p2 hp
    unfold wpX9_judge
    exact sX9_in 0 2 (fun _ => b1 (sX9_refusal hY hP hC (fun r2 Z hB => sX9_back (fun Z' hK => hv r2 Z Z' p2 hB hK (hp Z' L (RI_back hR hB hK)))))) (fun z => absurd ⟨hin.1, by omega⟩ z)
  unfold wpX9_judge_41 wpX9_judge_43 wpX9_judge_70 at key
  refine ⟨fun hn => ⟨fun e => ?_, fun n0 => ⟨fun e => ?_, fun n1 => ⟨fun hs => ?_, fun hf => ?_⟩⟩⟩, fun e5 => ?_⟩
  · refine h _ _ _ (key _ (fun r2 Z Z' p2 hB hK hq => ?_))
    obtain ⟨d0, n, hn60, hJ, -, -, e2⟩ := RB_go hB hn
    refine bf_ (by rw [e2]; split <;> decide) (bt_ (by rw [e]; decide) (nt_ e ?_))
    rw [BK_42 hK, ← hJ.2.2.1.1, hB.1 6 (by decide)]
    exact hq
  · refine h _ _ _ (key _ (fun r2 Z Z' p2 hB hK hq => ?_))
    obtain ⟨d0, n, hn60, hJ, -, -, e2⟩ := RB_go hB hn
    refine bf_ (by rw [e2]; split <;> decide) (bt_ (by rw [e]; decide) (nf_ (by rw [e]; decide) (nt_ e ?_)))
    rw [BK_42 hK, ← hJ.2.2.1.2.1, hB.1 6 (by decide)]
    exact hq
  · have e3 : r = -3 := by
      rcases RC_r hC with e | e | e
      · exact absurd e hn
      · exact absurd e hs
      · exact e
    have hx2 : ¬ x ≤ 1 := by
      obtain ⟨k, hk, rfl⟩ := z_rng (n := 3) hin (by decide)
      have : k = 2 := by
        rcases (show k = 0 ∨ k = 1 ∨ k = 2 by omega) with rfl | rfl | rfl
        · exact absurd rfl n0
        · exact absurd rfl n1
        · rfl
      subst this
      decide
    refine h _ _ _ (key _ (fun r2 Z Z' p2 hB hK hq => ?_))
    obtain ⟨d0, n, hn60, hJ, -, -, e2⟩ := RB_go hB hn
    have e2 : r2 = -3 := by rw [e2, if_neg hs]
    refine bf_ (by rw [e2]; decide) (bf_ hx2 (nt_ e2 ?_))
    rw [e2]
    exact hq
  · have hx2 : ¬ x ≤ 1 := by
      obtain ⟨k, hk, rfl⟩ := z_rng (n := 3) hin (by decide)
      have : k = 2 := by
        rcases (show k = 0 ∨ k = 1 ∨ k = 2 by omega) with rfl | rfl | rfl
        · exact absurd rfl n0
        · exact absurd rfl n1
        · rfl
      subst this
      decide
    obtain ⟨d0, B', hJc⟩ := RC_JJ hC hP.1 hn
    obtain ⟨⟨u', hYc⟩, -, -, -, j1, j2, -, -⟩ := hJc
    have j1 : Mc 6 4 = nI d0 := j1
    refine sX2_cameDown hY.1 hYc.2.2.1 j2 j1 ?_
    refine h _ _ _ (key _ (fun r2 Z Z' p2 hB hK hq => ?_))
    obtain ⟨d0', n, hn60, hJ, -, -, e2⟩ := RB_go hB hn
    have e2 : r2 = -6 := by rw [e2, if_pos hf]
    refine bf_ (by rw [e2]; decide) (bf_ hx2 (nf_ (by rw [e2]; decide) (nf_ n0 (nf_ n1 ?_))))
    obtain ⟨-, -, -, -, k1, k2, k3, -⟩ := hJ
    have ed : d0' = d0 := by
      rw [hB.1 6 (by decide), j1] at k1
      exact nI_inj (by omega) (by omega) k1.symm
    rw [BK_42 hK, k3, ed]
    have e3 : zct (fun k => dn t Z k && !d0.testBit k) 8 = zct (fun k => dn t Mc k && !d0.testBit k) 8 := zct_cong (fun k hk => by
      unfold dn
      rw [hB.1 38 (by decide), hB.1 37 (by decide)])
    rw [e3]
    exact hq
  · refine h _ _ _ (key _ (fun r2 Z Z' p2 hB hK hq => ?_))
    have e2 := RB_no hB e5
    refine bt_ e2 ?_
    rw [e2]
    exact hq
theorem pr_behind (hR : RI M) {x y : Int32} (h : ∀ r M1 L1, agr (wpX9_behind x y) r M1 L1 → post r M1 L1) : wpX8_behind x y M L post := by
  obtain ⟨⟨t, u, hY⟩, ⟨c, hP⟩, -⟩ := id hR
  have ht := hY.1
  have e14 := hY.2.2.1
  have e42 : M 42 0 = nI t := hY.2.2.2.1
  unfold wpX8_behind
  refine sX7_has e14 ht (fun k hk ex hb => b1 ?_) (fun hout => b0 (h _ _ _ (fun p2 hp => ?_))) (fun k hk ex hb => b0 (h _ _ _ (fun p2 hp => ?_)))
  · subst ex
    refine sX8_isBelow 4 (fun hin => b1 ?_) (fun hout => b0 (h _ _ _ (fun p2 hp => ?_)))
    · refine sX8_refusalOfDays hY hP (fun r Mc hC => ?_)
      have key : ∀ v, (∀ r2 Z (p2 : Int32 → Mm → Ml → Prop), RB t c M Mc Z r r2 → (∀ Z', BK Z Z' → p2 v Z' L) → (r2 = (-6 : Int32) → wpX9_ofFlake (nI k) y Z L (fun r_44 M_44 L_44 => wpX9_behind_47 p2 M_44 L_44 r_44)) ∧ (¬ (r2 = (-6 : Int32)) → wpX9_behind_47 p2 Z L r2)) → agr (wpX9_behind (nI k) y) v Mc L := by
        intro v hv p2 hp
        unfold wpX9_behind
        obtain ⟨f1, -⟩ := RC_fr hC
        refine sX9_isFlake_k (t := t) (by rw [f1 42 (by decide) (by decide) (by decide) (by decide) (by decide)]; exact e42) ht hk (fun _ => b1 ?_) (fun z => absurd (hb.symm.trans z) (by decide))
        exact sX9_in 0 3 (fun _ => b1 (sX9_refusal hY hP hC (fun r2 Z hB => hv r2 Z p2 hB (fun Z' hK => hp Z' L (RI_back hR hB hK))))) (fun z => absurd ⟨hin.1, by omega⟩ z)
      unfold wpX9_behind_47 wpX9_ofFlake at key
      have ek : (nI k).toNatClampNeg = k := nI_clamp (by omega)
      have vk : vp_in (nI k) 8 := vp_in_nI hk (by decide)
      rw [ek] at key ⊢
      have go : ∀ (Z : Mm) r2, RB t c M Mc Z r r2 → r = 0 → r2 = -6 ∧ FR 35 Z (vM Z) k := by
        intro Z r2 hB e0
        obtain ⟨d0, n, hn60, ⟨⟨u', hYZ⟩, -⟩, -, -, e2⟩ := RB_go hB (by rw [e0]; decide)
        exact ⟨by rw [e2, if_pos e0], (hYZ.2.2.2.2.2.1 k hk).1 hb⟩
      refine ⟨fun e0 => ⟨fun q0 => ⟨vk, ?_⟩, fun n0 => ⟨fun q1 => ⟨vk, ?_⟩, fun n1 => ⟨fun q2 => ⟨vk, ?_⟩, fun n2 => ⟨vk, ?_⟩⟩⟩⟩, fun ne => ?_⟩
      · refine h _ _ _ (key _ (fun r2 Z p2 hB hq => ?_))
        obtain ⟨e2, ⟨v1, v2, v3, v4, v5⟩, -⟩ := go Z r2 hB e0
        refine bt_ e2 (bt_ q0 ⟨vk, sX9_back (fun Z' hK => ?_)⟩)
        have v1 : Z 43 k = Z 36 k := v1
        rw [v1, hB.1 36 (by decide)]
        exact hq Z' hK
      · refine h _ _ _ (key _ (fun r2 Z p2 hB hq => ?_))
        obtain ⟨e2, ⟨v1, v2, v3, v4, v5⟩, -⟩ := go Z r2 hB e0
        refine bt_ e2 (bf_ n0 (bt_ q1 ⟨vk, sX9_back (fun Z' hK => ?_)⟩))
        have v1 : Z 44 k = Z 37 k := v2
        rw [v1, hB.1 37 (by decide)]
        exact hq Z' hK
      · refine h _ _ _ (key _ (fun r2 Z p2 hB hq => ?_))
        obtain ⟨e2, ⟨v1, v2, v3, v4, v5⟩, -⟩ := go Z r2 hB e0
        refine bt_ e2 (bf_ n0 (bf_ n1 (bt_ q2 ⟨vk, sX9_back (fun Z' hK => ?_)⟩)))
        have v1 : Z 45 k = Z 38 k := v3
        rw [v1, hB.1 38 (by decide)]
        exact hq Z' hK
      · refine h _ _ _ (key _ (fun r2 Z p2 hB hq => ?_))
        obtain ⟨e2, ⟨v1, v2, v3, v4, v5⟩, -⟩ := go Z r2 hB e0
        refine bt_ e2 (bf_ n0 (bf_ n1 (bf_ n2 ⟨vk, sX9_back (fun Z' hK => ?_)⟩)))
        have v1 : Z 47 k = Z 40 k := v5
        rw [v1, hB.1 40 (by decide)]
        exact hq Z' hK
      · refine h _ _ _ (key _ (fun r2 Z p2 hB hq => ?_))
        have e2 : r2 = r ∧ ¬ r = -6 := by
          rcases RC_r hC with e | e | e
          · exact ⟨by rw [RB_no hB e, e], by rw [e]; decide⟩
          · exact absurd e ne
          · obtain ⟨d0, n, hn60, -, -, -, e2⟩ := RB_go hB (by rw [e]; decide)
            exact ⟨by rw [e2, if_neg ne, e], by rw [e]; decide⟩
        rw [e2.1]
        exact bf_ e2.2 (sX9_back (fun Z' hK => hq Z' hK))
    · unfold wpX9_behind
      exact sX9_isFlake_k e42 ht hk (fun _ => b1 (sX9_in 0 3 (fun z => absurd ⟨z.1, by omega⟩ hout) (fun _ => b0 (hp _ _ hR)))) (fun z => absurd (hb.symm.trans z) (by decide))
  · unfold wpX9_behind
    exact sX9_isFlake e42 ht (fun k hk ex _ => absurd (by rw [ex]; exact z_nrng hk (by decide)) hout) (fun k hk ex _ => b0 (hp _ _ hR)) (fun _ => b0 (hp _ _ hR))
  · subst ex
    unfold wpX9_behind
    exact sX9_isFlake_k e42 ht hk (fun z => absurd (hb.symm.trans z) (by decide)) (fun _ => b0 (hp _ _ hR))
end PRD
