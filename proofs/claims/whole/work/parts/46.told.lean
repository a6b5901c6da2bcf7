/-! told -/
section TOLD
variable {M : Mm} {L : Ml} {post : Int32 → Mm → Ml → Prop}
theorem z_pos {x : Int32} (h : 0 ≤ x.toInt) : ∃ n : Nat, n < 2147483648 ∧ x = nI n ∧ x.toInt = n := by
  have hl : x.toInt < 2 ^ 31 := Int32.toInt_lt x
  refine ⟨x.toInt.toNat, by omega, ?_, by omega⟩
  apply Int32.toInt_inj.mp
  rw [nI_toInt (by omega)]
  omega
theorem pr_told (hR : RI M) {x : Int32} (h : ∀ r M1 L1, agr (wpX9_told x) r M1 L1 → post r M1 L1) : wpX8_told x M L post := by
  obtain ⟨⟨t, u, hY⟩, ⟨c, hc1, hc2, hc3, -⟩, -⟩ := id hR
  have ht := hY.1
  have e14 : M 14 0 = nI t := hY.2.2.1
  have e42 : M 42 0 = nI t := hY.2.2.2.1
  have e7 : M 14 7 = nI u := hY.2.2.2.2.1
  have hF := hY.2.2.2.2.2.1
  have hO := hY.2.2.2.2.2.2.1
  obtain ⟨a1, a2, a3, a4⟩ := hY.2.2.2.2.2.2.2.1
  have a1 : M 50 0 = M 14 8 := a1
  have a2 : M 50 1 = M 14 9 := a2
  have i10 : (10 : Int32).toInt = 10 := rfl
  have i100 : (100 : Int32).toInt = 100 := rfl
  have hr := hR
  unfold wpX8_told
  refine ⟨fun h100 => ⟨fun h10 => ?_, fun h10 => ?_⟩, fun h100 => ?_⟩
  · rw [fa_lt, i10] at h10
    have key : ∀ v, (∀ p2 : Int32 → Mm → Ml → Prop, p2 v M L → ((x = (0 : Int32) → p2 (M 42 13) M L) ∧ (¬ (x = (0 : Int32)) → (x = (1 : Int32) → p2 (M 42 0) M L) ∧ (¬ (x = (1 : Int32)) → (x = (2 : Int32) → vp_in (0 : Int32) 2 ∧ (p2 (M 50 (0 : Int32).toNatClampNeg) M L)) ∧ (¬ (x = (2 : Int32)) → (x = (3 : Int32) → vp_in (1 : Int32) 2 ∧ (p2 (M 50 (1 : Int32).toNatClampNeg) M L)) ∧ (¬ (x = (3 : Int32)) → (x = (4 : Int32) → p2 (M 42 11) M L) ∧ (¬ (x = (4 : Int32)) → (x = (5 : Int32) → wpX9_riverNow M L (fun r_158 M_158 L_158 => p2 r_158 M_158 L_158)) ∧ (¬ (x = (5 : Int32)) → p2 (-2 : Int32) M L)))))))) → agr (wpX9_told x) v M L := by
      intro v hv p2 hp
      unfold wpX9_told
      exact sX9_in 100 159 (fun z => absurd z.1 (by omega)) (fun _ => c0 (sX9_in 10 89 (fun z => absurd z.1 (by omega)) (fun _ => c0 (hv p2 (hp _ _ hR)))))
    refine ⟨fun q0 => h _ _ _ (key _ (fun p2 hp => bt_ q0 (by rw [hc3, ← hc2]; exact hp))), fun q0 => ⟨fun q1 => h _ _ _ (key _ (fun p2 hp => bf_ q0 (bt_ q1 (by rw [e42, ← e14]; exact hp)))), fun q1 => ⟨fun q2 => h _ _ _ (key _ (fun p2 hp => bf_ q0 (bf_ q1 (bt_ q2 ⟨vp_in_nI (n := 0) (by decide) (by decide), ?_⟩)))), fun q2 => ⟨fun q3 => h _ _ _ (key _ (fun p2 hp => bf_ q0 (bf_ q1 (bf_ q2 (bt_ q3 ⟨vp_in_nI (n := 1) (by decide) (by decide), ?_⟩))))), fun q3 => ⟨fun q4 => h _ _ _ (key _ (fun p2 hp => bf_ q0 (bf_ q1 (bf_ q2 (bf_ q3 (bt_ q4 ?_)))))), fun q4 => ⟨fun q5 => ?_, fun q5 => h _ _ _ (key _ (fun p2 hp => bf_ q0 (bf_ q1 (bf_ q2 (bf_ q3 (bf_ q4 (bf_ q5 hp)))))))⟩⟩⟩⟩⟩⟩
    · show p2 (M 50 0) M L
      rw [a1]; exact hp
    · show p2 (M 50 1) M L
      rw [a2]; exact hp
    · obtain ⟨n, hs, lk, s1, s2, s3, s4, s5, -⟩ := hY.2.2.2.2.2.2.2.2
      have s5 : M 42 11 = nI n := s5
      rw [s5, ← s4]; exact hp
    · refine sX7_inRiver ?_
      rw [e14, z_and]
      refine h _ _ _ (key _ (fun p2 hp => bf_ q0 (bf_ q1 (bf_ q2 (bf_ q3 (bf_ q4 (bt_ q5 (sX9_riverNow e42 ht ?_))))))))
      have e : zbs (fun k => t.testBit k && decide (¬ 0 ≤ M 44 k)) 8 = zbs (fun k => decide (M (14 + 2) k = -6) && t.testBit k) 8 := zbs_cong (fun i hi => by
        cases hb : t.testBit i with
        | false => simp
        | true =>
          have hf := (hF i hi).1 hb
          have v1 : M 44 i = M 16 i := hf.1.2.1
          have v2 : zlt 16 (M 16 i) ∨ M 16 i = -6 ∧ M 17 i = 0 := hf.2.2.1
          rw [v1, Bool.and_true, Bool.true_and]
          rcases v2 with e | ⟨e, -⟩
          · rw [decide_eq_false (p := M (14 + 2) i = -6) (nlt_m6 (by decide) e), decide_eq_false (fun z => z (nlt_0 (by decide) e))]
          · rw [show M (14 + 2) i = -6 from e]; rfl)
      rw [e]
      exact hp
  · rw [fa_lt, i10] at h10
    rw [fa_lt, i100] at h100
    obtain ⟨n, hn, rfl, en⟩ := z_pos (x := x) (by omega)
    have d1 : nI n / (10 : Int32) - (1 : Int32) = nI (n / 10 - 1) := by
      rw [show nI n / (10 : Int32) = nI (n / 10) from pk_div (d := 10) (by omega) (by decide) (by decide)]
      exact pk_sub (b := 1) (by omega)
    have d2 : nI n - nI n / (10 : Int32) * (10 : Int32) = nI (n % 10) := pk_rem (d := 10) (by omega) (by decide) (by decide)
    obtain ⟨k, hk⟩ : ∃ k, k = n / 10 - 1 := ⟨_, rfl⟩
    obtain ⟨y, hy⟩ : ∃ y : Int32, y = nI (n % 10) := ⟨_, rfl⟩
    rw [d1, d2, ← hk, ← hy]
    have hk9 : k < 9 := by omega
    have outs : k = 8 → agr (wpX9_told (nI n)) (-2) M L := by
      intro ek p2 hp
      have n90 : 90 ≤ n := by omega
      have n100 : n < 100 := by omega
      have ne : ∀ j : Nat, j < 6 → ¬ nI n = nI j := fun j hj z => by have := nI_inj (by omega) (by omega) z; omega
      unfold wpX9_told
      exact sX9_in 100 159 (fun z => absurd z.1 (by omega)) (fun _ => c0 (sX9_in 10 89 (fun z => absurd z.2 (by omega)) (fun _ => c0 (bf_ (ne 0 (by decide)) (bf_ (ne 1 (by decide)) (bf_ (ne 2 (by decide)) (bf_ (ne 3 (by decide)) (bf_ (ne 4 (by decide)) (bf_ (ne 5 (by decide)) (hp _ _ hR))))))))))
    have key : k < 8 → ∀ v, (∀ p2 : Int32 → Mm → Ml → Prop, p2 v M L → wpX9_toldOf (nI k) y M L (fun r_83 M_83 L_83 => p2 r_83 M_83 L_83)) → agr (wpX9_told (nI n)) v M L := by
      intro hk8 v hv p2 hp
      unfold wpX9_told
      refine sX9_in 100 159 (fun z => absurd z.1 (by omega)) (fun _ => c0 (sX9_in 10 89 (fun _ => c1 ?_) (fun z => absurd ⟨by omega, by omega⟩ z)))
      rw [d1, d2, ← hk, ← hy]
      exact hv p2 (hp _ _ hR)
    unfold wpX8_toldOfFlake
    refine sX7_has e14 ht (fun i hi ei hb => b1 ?_) (fun hout => b0 (h _ _ _ (outs ?_))) (fun i hi ei hb => b0 (h _ _ _ (key ?_ _ (fun p2 hp => ?_))))
    · have ei : k = i := nI_inj (by omega) (by omega) ei
      subst ei
      have vk : vp_in (nI k) 8 := vp_in_nI hi (by decide)
      have ek : (nI k).toNatClampNeg = k := nI_clamp (by omega)
      unfold wpX9_toldOf at key
      rw [ek] at key ⊢
      obtain ⟨⟨v1, v2, v3, v4, v5⟩, -⟩ := (hF k hi).1 hb
      have v1 : M 43 k = M 15 k := v1
      have v2 : M 44 k = M 16 k := v2
      have v3 : M 45 k = M 17 k := v3
      have v4 : M 46 k = M 18 k := v4
      have v5 : M 47 k = M 19 k := v5
      have go : ∀ v, (∀ p2 : Int32 → Mm → Ml → Prop, p2 v M L → ((y = (0 : Int32) → vp_in (nI k) 8 ∧ p2 (M 43 k) M L) ∧ (¬ (y = (0 : Int32)) → (y = (1 : Int32) → vp_in (nI k) 8 ∧ p2 (M 44 k) M L) ∧ (¬ (y = (1 : Int32)) → (y = (2 : Int32) → vp_in (nI k) 8 ∧ p2 (M 45 k) M L) ∧ (¬ (y = (2 : Int32)) → (y = (3 : Int32) → vp_in (nI k) 8 ∧ p2 (M 46 k) M L) ∧ (¬ (y = (3 : Int32)) → (y = (4 : Int32) → vp_in (nI k) 8 ∧ p2 (M 47 k) M L) ∧ (¬ (y = (4 : Int32)) → p2 (-2 : Int32) M L))))))) → agr (wpX9_told (nI n)) v M L := fun v hv => key hi v (fun p2 hp => sX9_isFlake_k e42 ht hi (fun _ => b1 (hv p2 hp)) (fun z => absurd (hb.symm.trans z) (by decide)))
      exact ⟨fun q0 => ⟨vk, h _ _ _ (go _ (fun p2 hp => bt_ q0 ⟨vk, by show p2 (M 43 k) M L; rw [v1]; exact hp⟩))⟩, fun q0 => ⟨fun q1 => ⟨vk, h _ _ _ (go _ (fun p2 hp => bf_ q0 (bt_ q1 ⟨vk, by show p2 (M 44 k) M L; rw [v2]; exact hp⟩)))⟩, fun q1 => ⟨fun q2 => ⟨vk, h _ _ _ (go _ (fun p2 hp => bf_ q0 (bf_ q1 (bt_ q2 ⟨vk, by show p2 (M 45 k) M L; rw [v3]; exact hp⟩))))⟩, fun q2 => ⟨fun q3 => ⟨vk, h _ _ _ (go _ (fun p2 hp => bf_ q0 (bf_ q1 (bf_ q2 (bt_ q3 ⟨vk, by show p2 (M 46 k) M L; rw [v4]; exact hp⟩)))))⟩, fun q3 => ⟨fun q4 => ⟨vk, h _ _ _ (go _ (fun p2 hp => bf_ q0 (bf_ q1 (bf_ q2 (bf_ q3 (bt_ q4 ⟨vk, by show p2 (M 47 k) M L; rw [v5]; exact hp⟩))))))⟩, fun q4 => h _ _ _ (go _ (fun p2 hp => bf_ q0 (bf_ q1 (bf_ q2 (bf_ q3 (bf_ q4 hp))))))⟩⟩⟩⟩⟩
    · rw [nI_ti (by omega)] at hout
      omega
    · have ei : k = i := nI_inj (by omega) (by omega) ei
      omega
    · have ei : k = i := nI_inj (by omega) (by omega) ei
      subst ei
      unfold wpX9_toldOf
      exact sX9_isFlake_k e42 ht hi (fun z => absurd (hb.symm.trans z) (by decide)) (fun _ => b0 hp)
  · rw [fa_lt, i100] at h100
    obtain ⟨n, hn, rfl, en⟩ := z_pos (x := x) (by omega)
    have d1 : nI n / (10 : Int32) - (10 : Int32) = nI (n / 10 - 10) := by
      rw [show nI n / (10 : Int32) = nI (n / 10) from pk_div (d := 10) (by omega) (by decide) (by decide)]
      exact pk_sub (b := 10) (by omega)
    have d2 : nI n - nI n / (10 : Int32) * (10 : Int32) = nI (n % 10) := pk_rem (d := 10) (by omega) (by decide) (by decide)
    have d3 : (nI n - (100 : Int32)) / (10 : Int32) = nI (n / 10 - 10) := by
      rw [show nI n - (100 : Int32) = nI (n - 100) from pk_sub (b := 100) (by omega), show nI (n - 100) / (10 : Int32) = nI ((n - 100) / 10) from pk_div (d := 10) (by omega) (by decide) (by decide)]
      congr 1
      omega
    obtain ⟨k, hk⟩ : ∃ k, k = n / 10 - 10 := ⟨_, rfl⟩
    obtain ⟨d, hd⟩ : ∃ d, d = n % 10 := ⟨_, rfl⟩
    have hd10 : d < 10 := by omega
    rw [d1, d2, ← hk, ← hd]
    have ne : ∀ j : Nat, j < 6 → ¬ nI n = nI j := fun j hj z => by have := nI_inj (by omega) (by omega) z; omega
    have outs : ¬ k < 6 → agr (wpX9_told (nI n)) (-2) M L := by
      intro ek p2 hp
      unfold wpX9_told
      exact sX9_in 100 159 (fun z => absurd z.2 (by omega)) (fun _ => c0 (sX9_in 10 89 (fun z => absurd z.2 (by omega)) (fun _ => c0 (bf_ (ne 0 (by decide)) (bf_ (ne 1 (by decide)) (bf_ (ne 2 (by decide)) (bf_ (ne 3 (by decide)) (bf_ (ne 4 (by decide)) (bf_ (ne 5 (by decide)) (hp _ _ hR))))))))))
    have key : k < 6 → ∀ v, (∀ p2 : Int32 → Mm → Ml → Prop, p2 v M L → ((¬ nI d = 0 → (¬ nI d = (1 : Int32) → p2 (-2 : Int32) M L) ∧ (nI d = (1 : Int32) → vp_in (nI k) 6 ∧ (p2 (M 49 k) M L))) ∧ (nI d = 0 → vp_in (nI k) 6 ∧ (p2 (M 48 k) M L)))) → agr (wpX9_told (nI n)) v M L := by
      intro hk6 v hv p2 hp
      unfold wpX9_told wpX9_told_57
      refine sX9_in 100 159 (fun _ => c1 (fun a ea => ?_)) (fun z => absurd ⟨by omega, by omega⟩ z)
      rw [d3, ← hk] at ea
      subst ea
      rw [d2, ← hd, nI_clamp (n := k) (by omega)]
      exact hv p2 (hp _ _ hR)
    unfold wpX8_toldOfOne wpX8_toldOfOne_17 wpX8_toldOfOne_47
    have tk : (nI k).toInt = k := nI_ti (by omega)
    have td : (nI d).toInt = d := nI_ti (by omega)
    refine sX8_isBelow 6 (fun hin => c1 ?_) (fun hout => c0 (h _ _ _ (outs (by omega))))
    have hk6 : k < 6 := by omega
    have vk : vp_in (nI k) 6 := vp_in_nI hk6 (by decide)
    obtain ⟨o1, -, o3⟩ := hO k hk6
    have o1 : M 48 k = M 20 k := o1
    have o3 : M 49 k = if u.testBit k then 1 else 0 := o3
    have hu := hY.2.1
    refine sX8_isBelow 2 (fun hin2 => b1 ?_) (fun hout => b0 (h _ _ _ (key hk6 _ (fun p2 hp => ?_))))
    · rw [nI_clamp (n := k) (by omega), e7]
      refine ⟨fun q => sX8_bit (by omega) (by omega) (h _ _ _ (key hk6 _ (fun p2 hp => nf_ q (nt_ ?_ ⟨vk, by rw [o3]; exact hp⟩)))), fun q => ⟨vk, h _ _ _ (key hk6 _ (fun p2 hp => nt_ q ⟨vk, by rw [o1]; exact hp⟩))⟩⟩
      have : d = 1 := by
        have : ¬ d = 0 := fun z => q (by rw [z]; rfl)
        omega
      rw [this]
      rfl
    · have d0 : ¬ nI d = 0 := fun z => by
        have := nI_inj (b := 0) (by omega) (by decide) z
        omega
      have d1 : ¬ nI d = 1 := fun z => by
        have := nI_inj (b := 1) (by omega) (by decide) z
        omega
      exact nf_ d0 (nf_ d1 hp)
end TOLD
