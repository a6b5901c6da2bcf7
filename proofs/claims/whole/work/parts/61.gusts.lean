/-! gusts: the pair -/
section GUSTC
variable {M : Mm} {L : Ml}
def okG (x1 x2 x3 x4 x5 x6 : Int32) : Prop := (0 ≤ x1.toInt ∧ x1.toInt < 16) ∧ (0 ≤ x2.toInt ∧ x2.toInt < 7) ∧ (0 ≤ x3.toInt ∧ x3.toInt < 11) ∧ (0 ≤ x4.toInt ∧ x4.toInt < 11) ∧ x3.toInt + x4.toInt ≤ 10 ∧ (-1 ≤ x5.toInt ∧ x5.toInt ≤ 15) ∧ (0 ≤ x6.toInt ∧ x6.toInt < 2)
theorem sX8_gusts {x1 x2 x3 x4 x5 x6 : Int32} {post : Int64 → Mm → Ml → Prop} (hok : okG x1 x2 x3 x4 x5 x6 → wpX4_fall x1 x2 x3 x4 M L (fun M_96 L_96 => wpX4_chance x5 x2 x6 M_96 L_96 (fun r_108 M_108 L_108 => post r_108 M_108 L_108))) (hno : ¬ okG x1 x2 x3 x4 x5 x6 → post (-1000000000000000002 : Int64) M L) : wpX8_gusts x1 x2 x3 x4 x5 x6 M L post := by
  unfold wpX8_gusts wpX8_gusts_62 wpX8_gusts_75 wpX8_gusts_76
  have i10 : (10 : Int32).toInt = 10 := rfl
  have im1 : (-1 : Int32).toInt = -1 := rfl
  refine sX8_isBelow 16 (fun q1 => c1 ?_) (fun q => c0 (b0 (hno (fun z => q z.1))))
  refine sX8_isBelow 7 (fun q2 => c1 ?_) (fun q => c0 (b0 (hno (fun z => q z.2.1))))
  refine sX8_isBelow 11 (fun q3 => c1 ?_) (fun q => c0 (b0 (hno (fun z => q z.2.2.1))))
  refine sX8_isBelow 11 (fun q4 => c1 ?_) (fun q => c0 (b0 (hno (fun z => q z.2.2.2.1))))
  obtain ⟨a, ha, ea⟩ := z_rng (n := 11) q3 (by decide)
  obtain ⟨b, hb, eb⟩ := z_rng (n := 11) q4 (by decide)
  have es : (x3 + x4).toInt = x3.toInt + x4.toInt := by rw [ea, eb, nI_add, nI_ti (by omega), nI_ti (by omega), nI_ti (by omega)]; omega
  refine ⟨fun q => b0 (hno (fun z => ?_)), fun q => ?_⟩
  · rw [fa_lt, i10, es] at q
    have := z.2.2.2.2.1
    omega
  have q5 : x3.toInt + x4.toInt ≤ 10 := by rw [fa_lt, i10, es] at q; omega
  have part : (-1 ≤ x5.toInt ∧ x5.toInt ≤ 15) → wpX8_isBelow x6 (2 : Int32) M L (fun r_65 M_65 L_65 => (r_65 = 0 → (¬ (0 : Int32) = 0 → wpX4_fall x1 x2 x3 x4 M_65 L_65 (fun M_96 L_96 => wpX4_chance x5 x2 x6 M_96 L_96 (fun r_108 M_108 L_108 => post r_108 M_108 L_108))) ∧ ((0 : Int32) = 0 → post (-1000000000000000002 : Int64) M_65 L_65)) ∧ (¬ (r_65 = 0) → (¬ (1 : Int32) = 0 → wpX4_fall x1 x2 x3 x4 M_65 L_65 (fun M_96 L_96 => wpX4_chance x5 x2 x6 M_96 L_96 (fun r_108 M_108 L_108 => post r_108 M_108 L_108))) ∧ ((1 : Int32) = 0 → post (-1000000000000000002 : Int64) M_65 L_65))) := fun q6 => sX8_isBelow 2 (fun q7 => c1 (b1 (hok ⟨q1, q2, q3, q4, q5, q6, q7⟩))) (fun q7 => c0 (b0 (hno (fun z => q7 z.2.2.2.2.2.2))))
  refine ⟨fun e => part (by rw [e, im1]; omega), fun ne => sX8_isBelow 16 (fun q6 => c1 (part (by omega))) (fun q6 => c0 (b0 (hno (fun z => ?_))))⟩
  have z6 := z.2.2.2.2.2.1
  rw [fa_eq, im1] at ne
  omega
theorem sX9_gusts {x1 x2 x3 x4 x5 x6 : Int32} {post : Int64 → Mm → Ml → Prop} (hok : okG x1 x2 x3 x4 x5 x6 → ∃ j9 : Nat, wlX9_gusts_31 post j9 (M, L, x1, x2, x3, x4, x5, x6, (0 : Int32))) (hno : ¬ okG x1 x2 x3 x4 x5 x6 → post (-1000000000000000002 : Int64) M L) : wpX9_gusts x1 x2 x3 x4 x5 x6 M L post := by
  unfold wpX9_gusts wpX9_gusts_24 wpX9_areGusts wpX9_areGusts_82 wpX9_areGusts_83
  have f0 : ∀ {X : Prop}, ¬ okG x1 x2 x3 x4 x5 x6 → ((0 : Int32) = 0 ∨ (0 : Int32) = 1) ∧ (((0 : Int32) = 0 → post (-1000000000000000002 : Int64) M L) ∧ (¬ ((0 : Int32) = 0) → X)) := fun hn => ⟨Or.inl rfl, c0 (hno hn)⟩
  refine sX9_in 0 15 (fun q1 => c1 ?_) (fun q => c0 (f0 (fun z => q ⟨z.1.1, by have := z.1.2; omega⟩)))
  refine sX9_in 0 6 (fun q2 => c1 ?_) (fun q => c0 (f0 (fun z => q ⟨z.2.1.1, by have := z.2.1.2; omega⟩)))
  refine sX9_in 0 10 (fun q3 => c1 ?_) (fun q => c0 (f0 (fun z => q ⟨z.2.2.1.1, by have := z.2.2.1.2; omega⟩)))
  refine sX9_in 0 10 (fun q4 => c1 ?_) (fun q => c0 (f0 (fun z => q ⟨z.2.2.2.1.1, by have := z.2.2.2.1.2; omega⟩)))
  obtain ⟨a, ha, ea⟩ := z_rng (n := 11) (x := x3) ⟨q3.1, by omega⟩ (by decide)
  obtain ⟨b, hb, eb⟩ := z_rng (n := 11) (x := x4) ⟨q4.1, by omega⟩ (by decide)
  have es : x3.toInt64 + x4.toInt64 = (nI (a + b)).toInt64 := by rw [ea, eb, nI_l (by omega), nI_l (by omega), nI_l (by omega), lN_add]
  have et : (nI (a + b)).toInt = x3.toInt + x4.toInt := by rw [ea, eb, nI_ti (by omega), nI_ti (by omega), nI_ti (by omega)]; omega
  rw [es]
  refine sX9_in 0 10 (fun q5 => c1 ?_) (fun q => c0 (f0 (fun z => q ⟨by omega, by have := z.2.2.2.2.1; omega⟩)))
  refine sX9_in (-1) 15 (fun q6 => c1 ⟨Or.inr rfl, c1 ?_⟩) (fun q => c0 (f0 (fun z => q z.2.2.2.2.2.1)))
  exact sX9_in 0 1 (fun q7 => b1 (hok ⟨⟨q1.1, by omega⟩, ⟨q2.1, by omega⟩, ⟨q3.1, by omega⟩, ⟨q4.1, by omega⟩, by omega, q6, ⟨q7.1, by omega⟩⟩)) (fun q => b0 (hno (fun z => q ⟨z.2.2.2.2.2.2.1, by have := z.2.2.2.2.2.2.2; omega⟩)))
end GUSTC
