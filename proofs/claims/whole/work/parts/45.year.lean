/-! a year: both -/
section YEARB
variable {M : Mm} {L : Ml} {post : Int32 → Mm → Ml → Prop}
theorem YD_two {t u : Nat} {M5 B : Mm} (hY5 : YD 35 (vM M) t u M5) (hB : ∀ a, 43 ≤ a → a ≤ 52 → B a = M a) (b0 : B 42 0 = M 42 0) (b11 : B 42 11 = M 42 11) : YD 35 (vM (mix M5 B)) t u (mix M5 B) := by
  have hs : YD 35 (vM M) t u (mix M5 B) := YD_same hY5 (fun i hi => mix_lt (by omega))
  have ev : ∀ i, 1 ≤ i → i ≤ 10 → ∀ k, vM (mix M5 B) i k = vM M i k := fun i h1 h2 k => by
    unfold vM
    rw [if_neg (by omega), if_neg (by omega), if_neg (by omega), if_neg (by omega), mix_ge (by omega), hB _ (by omega) (by omega)]
  exact YD_view hs b0 (fun i h1 h2 k _ => ev i h1 (by omega) k) (fun i h1 h2 k _ => ev i (by omega) (by omega) k) (fun k _ => ev 8 (by decide) (by decide) k) b11 (fun i h1 h2 k _ => ev i (by omega) (by omega) k)
theorem pr_year (hR : RI M) {x y z : Int32} (h : ∀ r M1 L1, agr (wpX9_year x y z) r M1 L1 → post r M1 L1) : wpX8_year x y z M L post := by
  obtain ⟨⟨t, u, hY⟩, -⟩ := id hR
  have ht := hY.1
  have e1 : (1 : Int32).toInt = 1 := rfl
  have e99 : (99 : Int32).toInt = 99 := rfl
  unfold wpX8_year wpX8_year_29
  have no1 : ¬ (0 ≤ x.toInt ∧ x.toInt < 10000) → agr (wpX9_year x y z) (-2) M L := fun hout p2 hp => by
    unfold wpX9_year wpX9_year_36
    exact sX9_in 0 9999 (fun q => absurd ⟨q.1, by omega⟩ hout) (fun _ => c0 (hp _ _ hR))
  have no2 : (0 ≤ x.toInt ∧ x.toInt < 10000) → ¬ (1 ≤ y.toInt ∧ y.toInt ≤ 99) → agr (wpX9_year x y z) (-2) M L := fun hx hout p2 hp => by
    unfold wpX9_year wpX9_year_36
    exact sX9_in 0 9999 (fun _ => c1 (sX9_in 1 99 (fun q => absurd q hout) (fun _ => c0 (hp _ _ hR)))) (fun q => absurd ⟨hx.1, by omega⟩ q)
  have no3 : (0 ≤ x.toInt ∧ x.toInt < 10000) → (1 ≤ y.toInt ∧ y.toInt ≤ 99) → ¬ (0 ≤ z.toInt ∧ z.toInt < 3) → agr (wpX9_year x y z) (-2) M L := fun hx hy hout p2 hp => by
    unfold wpX9_year wpX9_year_36
    exact sX9_in 0 9999 (fun _ => c1 (sX9_in 1 99 (fun _ => c1 (sX9_in 0 2 (fun q => absurd ⟨q.1, by omega⟩ hout) (fun _ => b0 (hp _ _ hR)))) (fun q => absurd hy q))) (fun q => absurd ⟨hx.1, by omega⟩ q)
  refine sX8_isBelow 10000 (fun hx => c1 ⟨fun q => h _ _ _ (no2 hx ?_), fun q => ⟨fun q2 => h _ _ _ (no2 hx ?_), fun q2 => ?_⟩⟩) (fun hout => c0 (h _ _ _ (no1 hout)))
  · rw [fa_lt, e1] at q; omega
  · rw [fa_lt, e99] at q2; omega
  have hy : 1 ≤ y.toInt ∧ y.toInt ≤ 99 := by
    rw [fa_lt, e1] at q
    rw [fa_lt, e99] at q2
    omega
  refine sX8_isBelow 3 (fun hz => b1 ?_) (fun hout => b0 (h _ _ _ (no3 hx hy hout)))
  obtain ⟨X, hX, rfl⟩ := z_rng (n := 10000) hx (by decide)
  obtain ⟨m, hm, rfl⟩ := z_rng (n := 100) (x := y) ⟨by omega, by omega⟩ (by decide)
  unfold wpX2_dreamYear
  refine sX7_copy (Or.inr (by decide)) (fun M5 hc => ?_)
  have hY5 : YD 35 (vM M) t u M5 := YD_copy hc hY
  have hYM := YD_two (M := M) (B := M) hY5 (fun _ _ _ => rfl) rfl rfl
  have hX7 : X < 65537 := by omega
  refine sX2_dreamYear hX7 hm (fun k hk => ?_) ?_
  · obtain ⟨u', hk'⟩ := YD_years (X := X) hYM k
    have := YD_cok hk'
    exact this
  obtain ⟨Mc, eMc⟩ : ∃ Mc, Mc = cyZ X M5 m := ⟨_, rfl⟩
  have hcn : ∀ a, (a < 35 ∨ 41 < a) → Mc a = M a := fun a ha => by rw [eMc, cyZ_ne ha]; exact hc.1 a ha
  have hc35 : Mc 35 0 = nI t := by
    obtain ⟨u', hk'⟩ := YD_years (X := X) hYM m
    rw [eMc]
    exact hk'.2.2.1
  rw [← eMc]
  have key : ∀ v, (∀ (p2 : Int32 → Mm → Ml → Prop) (Z : Mm) (u' : Nat), YD 35 (vM Z) t u' Z → (∀ a, a < 42 → Z a = Mc a) → wpX9_year_147 p2 Z L v → (¬ z = 0 → (¬ z = (1 : Int32) → wpX9_aboveMany Z L (fun r_144 M_144 L_144 => wpX9_year_147 p2 M_144 L_144 r_144)) ∧ (z = (1 : Int32) → wpX9_riverNow Z L (fun r_134 M_134 L_134 => wpX9_bitsOf r_134 M_134 L_134 (fun r_137 M_137 L_137 => wpX9_year_147 p2 M_137 L_137 r_137)))) ∧ (z = 0 → wpX9_postedNow Z L (fun r_119 M_119 L_119 => wpX9_bitsOf r_119 M_119 L_119 (fun r_122 M_122 L_122 => wpX9_year_147 p2 M_122 L_122 r_122)))) → agr (wpX9_year (nI X) (nI m) z) v Mc L := by
    intro v hv p2 hp
    unfold wpX9_year
    refine sX9_in 0 9999 (fun _ => c1 (sX9_in 1 99 (fun _ => c1 (sX9_in 0 2 (fun _ => b1 ?_) (fun q => absurd ⟨hz.1, by omega⟩ q))) (fun q => absurd hy q))) (fun q => absurd ⟨hx.1, by omega⟩ q)
    refine sX9_keepNow (fun H hH => ?_)
    have hH : HAD M H := HAD_cong hH (fun a h1 h2 => (hcn a (by omega)).symm)
    obtain ⟨B, eB⟩ : ∃ B, B = zr Mc 56 H := ⟨_, rfl⟩
    have bn : ∀ a, a ≠ 56 → B a = Mc a := fun a ha => by rw [eB, zr_ne ha]
    have hYB := YD_two (M := M) (B := B) hY5 (fun a h1 h2 => by rw [bn a (by omega), hcn a (by omega)]) (by rw [bn 42 (by decide), hcn 42 (by decide)]) (by rw [bn 42 (by decide), hcn 42 (by decide)])
    rw [← eB]
    refine sX9_yearLoop (t := t) hX7 hm (fun k hk => ?_) ?_
    · obtain ⟨u', hk'⟩ := YD_years (X := X) hYB k
      have := YD_mok hk'
      exact this
    · obtain ⟨u', hk'⟩ := YD_years (X := X) hYB m
      obtain ⟨Z, eZ⟩ : ∃ Z, Z = myZ t X B m := ⟨_, rfl⟩
      rw [← eZ, ← eMc] at hk'
      rw [← eZ]
      have zlo : ∀ a, a < 42 → Z a = Mc a := fun a ha => by rw [eZ, myZ_ne (Or.inl ha), bn a (by omega)]
      have emix : mix Mc Z = Z := by
        funext a
        by_cases ha : a < 42
        · rw [mix_lt ha, zlo a ha]
        · rw [mix_ge ha]
      rw [emix] at hk'
      refine hv p2 Z u' hk' zlo ?_
      unfold wpX9_year_147
      refine sX9_back (fun Z' hK => hp Z' L (RI_back2 hR (fun a ha => ?_) ?_ ?_ ⟨?_, ?_, ?_⟩ ?_ hK))
      · unfold kp at ha
        by_cases hl : a < 42
        · rw [zlo a hl, hcn a (by omega)]
        · rw [eZ, myZ_ne (Or.inr (Or.inl (by omega))), bn a (by omega), hcn a (by omega)]
      · rw [zlo 2 (by decide), hcn 2 (by decide)]
      · rw [eZ, myZ_ne (Or.inr (Or.inr rfl)), bn 46 (by decide), hcn 46 (by decide)]
      · rw [eZ, myZ_42 (by decide) (by decide), bn 42 (by decide), hcn 42 (by decide)]
      · rw [eZ, myZ_42 (by decide) (by decide), bn 42 (by decide), hcn 42 (by decide)]
      · rw [eZ, myZ_42 (by decide) (by decide), bn 42 (by decide), hcn 42 (by decide)]
      · rw [eZ, myZ_ne (Or.inr (Or.inl (by decide))), eB, zr_eq]
        exact hH
  refine ⟨fun q0 => ?_, fun n0 => ⟨fun q1 => ?_, fun n1 => ?_⟩⟩
  · refine sX7_delivered ?_
    rw [hc35, z_and]
    refine sJ6_bitCount (zbs_lt _ 8) (h _ _ _ (key _ (fun p2 Z u' hYZ zlo hb => nt_ q0 (sX9_postedNow (t := t) hYZ.2.2.2.1 ht (sX9_bitsOf (zbs_lt _ 8) ?_)))))
    have e : zbs (fun k => t.testBit k && decide (Z 47 k = Z 46 k)) 8 = zbs (fun k => decide (Mc (35 + 5) k = Mc (35 + 4) k) && t.testBit k) 8 := zbs_cong (fun i hi => by
      cases hb : t.testBit i with
      | false => simp
      | true =>
        have v1 : Z 47 i = Z 40 i := ((hYZ.2.2.2.2.2.1 i hi).1 hb).1.2.2.2.2
        have v2 : Z 46 i = Z 39 i := ((hYZ.2.2.2.2.2.1 i hi).1 hb).1.2.2.2.1
        rw [v1, v2, zlo 40 (by decide), zlo 39 (by decide), Bool.and_true, Bool.true_and])
    rw [e]
    exact hb
  · refine sX7_inRiver ?_
    rw [hc35, z_and]
    refine sJ6_bitCount (zbs_lt _ 8) (h _ _ _ (key _ (fun p2 Z u' hYZ zlo hb => nf_ n0 (nt_ q1 (sX9_riverNow (t := t) hYZ.2.2.2.1 ht (sX9_bitsOf (zbs_lt _ 8) ?_))))))
    have e : zbs (fun k => t.testBit k && decide (¬ 0 ≤ Z 44 k)) 8 = zbs (fun k => decide (Mc (35 + 2) k = -6) && t.testBit k) 8 := zbs_cong (fun i hi => by
      cases hb : t.testBit i with
      | false => simp
      | true =>
        have hf := (hYZ.2.2.2.2.2.1 i hi).1 hb
        have v1 : Z 44 i = Z 37 i := hf.1.2.1
        have v2 : zlt 16 (Z 37 i) ∨ Z 37 i = -6 ∧ Z 38 i = 0 := hf.2.2.1
        rw [zlo 37 (by decide)] at v1 v2
        rw [v1, Bool.and_true, Bool.true_and]
        rcases v2 with e | ⟨e, -⟩
        · rw [decide_eq_false (p := Mc (35 + 2) i = -6) (nlt_m6 (by decide) e), decide_eq_false (fun z => z (nlt_0 (by decide) e))]
        · rw [show Mc (35 + 2) i = -6 from e]; rfl)
    rw [e]
    exact hb
  · refine sX7_falling ?_
    refine sJ6_bitCount (zbs_lt _ 8) (h _ _ _ (key _ (fun p2 Z u' hYZ zlo hb => nf_ n0 (nf_ n1 (sX9_aboveMany (t := t) hYZ.2.2.2.1 ht ?_)))))
    have e : zct (zab t Z) 8 = zpop (zbs (fun k => decide (¬ Mc (35 + 3) k ≤ 0)) 8) 8 := by
      rw [zpop_ct]
      refine zct_cong (fun i hi => ?_)
      rw [zbs_tb, decide_eq_true hi, Bool.true_and, zab_of hYZ hi, zlo 38 (by decide)]
    rw [e]
    exact hb
end YEARB
