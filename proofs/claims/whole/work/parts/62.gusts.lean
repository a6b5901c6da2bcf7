/-! gusts: the pair's answer -/
section GUSTD
variable {M : Mm} {L : Ml}
theorem pr_gusts {post : Int64 → Mm → Ml → Prop} (hR : RI M) {x1 x2 x3 x4 x5 x6 : Int32} (h : ∀ r M1 L1, agr (wpX9_gusts x1 x2 x3 x4 x5 x6) r M1 L1 → post r M1 L1) : wpX8_gusts x1 x2 x3 x4 x5 x6 M L post := by
  refine sX8_gusts (fun hok => ?_) (fun hno => h _ _ _ (fun p2 hp => sX9_gusts (fun z => absurd z hno) (fun _ => hp _ _ hR)))
  obtain ⟨q1, q2, q3, q4, q5, q6, q7⟩ := id hok
  obtain ⟨f, hf, e1⟩ := z_rng (n := 16) q1 (by decide)
  obtain ⟨n, hn, e2⟩ := z_rng (n := 7) q2 (by decide)
  obtain ⟨a, ha, e3⟩ := z_rng (n := 11) q3 (by decide)
  obtain ⟨b, hb, e4⟩ := z_rng (n := 11) q4 (by decide)
  have hab : a + b ≤ 10 := by rw [e3, e4, nI_ti (by omega), nI_ti (by omega)] at q5; omega
  have hto : x5 = -1 ∨ zlt 16 x5 := by
    by_cases q : x5 = -1
    · exact Or.inl q
    · have im1 : (-1 : Int32).toInt = -1 := rfl
      rw [fa_eq, im1] at q
      exact Or.inr (z_rng (n := 16) ⟨by omega, by omega⟩ (by decide))
  rw [e1, e2, e3, e4] at h hok ⊢
  have hT0 : 0 < 10 ^ n := Nat.pow_pos (by decide)
  have hT6 : 10 ^ n ≤ 1000000 := Nat.pow_le_pow_right (n := 10) (by decide) (show n ≤ 6 by omega)
  have hle := gwT_le (h := n) hf hab hto
  refine sX4_fall hf ha hb hab (by omega) (fun A hA hw => sX4_chance hf hab (by omega) hto hw (h _ _ _ (fun p2 hp => ?_)))
  have hRA : RI A := RI_same hR (fun i hi => hA i (by unfold kp at hi; omega)) (by rw [hA 2 (by decide)]) (by rw [hA 42 (by decide)]) (by rw [hA 42 (by decide)]) (by rw [hA 42 (by decide)])
  refine sX9_gusts (fun _ => ?_) (fun z => absurd hok z)
  unfold wlX9_gusts_31
  refine zlp_forI 17 (fun k s => ∃ L', s = (A, L', nI f, nI n, nI a, nI b, x5, x6, nI k) ∧ ∀ p, p < k → L' 62 p = lN (if p = f then 1 else 0)) ⟨L, rfl, fun p hp => absurd hp (by omega)⟩ ?_ ?_
  · rintro k K _ hk ⟨L', rfl, h1⟩ hK
    show wpX9_gusts_31 p2 _ A L' (nI f) (nI n) (nI a) (nI b) x5 x6 (nI k)
    unfold wpX9_gusts_31 wpX9_gusts_55
    rw [nI_clamp (n := k) (by omega)]
    have go : ∀ v : Int64, v = lN (if k = f then 1 else 0) → vp_in (nI k) 17 ∧ (∀ L_55 : Ml, L_55 = zsl L' 62 k v → (∀ a_56 : Int32, a_56 = nI k + (1 : Int32) → K (A, L_55, nI f, nI n, nI a, nI b, x5, x6, a_56))) := fun v ev => ⟨vp_in_nI hk (by decide), fun L2 g2 z ez => hK _ ⟨L2, by rw [ez, nI_1], fun p hp => by
      rw [g2, zsl_at]
      by_cases e : p = k
      · rw [if_pos e, ev, e]
      · rw [if_neg e]; exact h1 p (by omega)⟩⟩
    refine pk_lt 16 k (fun h => by omega) (fun _ => ⟨fun q => go _ ?_, fun q => go _ ?_⟩)
    · rw [if_neg (fun z => q (by rw [z]))]; rfl
    · rw [if_pos (nI_inj (by omega) (by omega) q)]; rfl
  · rintro K _ ⟨L', rfl, h1⟩
    show wpX9_gusts_31 p2 _ A L' (nI f) (nI n) (nI a) (nI b) x5 x6 (nI 17)
    unfold wpX9_gusts_31
    refine pk_lt 16 17 (fun _ => ?_) (fun h => by omega)
    unfold wlX9_gusts_68
    refine zlp_forI n (fun i s => ∃ L', s = (A, L', nI n, nI a, nI b, x5, x6, lN (10 ^ i), nI i) ∧ (∀ p, p < 16 → L' 62 p = lN (gw f a b i p)) ∧ L' 62 16 = lN (gon f a b i)) ⟨L', rfl, fun p hp => h1 p (by omega), by rw [h1 16 (by decide), if_neg (by omega)]; rfl⟩ ?_ ?_
    · rintro i K2 _ hi ⟨L', rfl, g1, g2⟩ hK
      show wpX9_gusts_68 p2 _ A L' (nI n) (nI a) (nI b) x5 x6 (lN (10 ^ i)) (nI i)
      unfold wpX9_gusts_68
      refine pk_le n i (fun h => by omega) (fun _ => sX9_gust ha hb hab g1 g2 (fun L2 g3 v ev z ez => hK _ ⟨L2, ?_, fun p hp => by rw [g3 p (by omega)]; exact congrArg lN (ptk_gw hp), by rw [g3 16 (by decide)]; exact congrArg lN ptk_go⟩))
      show (A, L2, nI n, nI a, nI b, x5, x6, v, z) = _
      rw [ev, ez, nI_1, show (10 : Int64) = lN 10 from rfl, lN_mul, Nat.pow_succ]
    · rintro K2 _ ⟨L', rfl, g1, g2⟩
      show wpX9_gusts_68 p2 _ A L' (nI n) (nI a) (nI b) x5 x6 (lN (10 ^ n)) (nI n)
      unfold wpX9_gusts_68 wpX9_gusts_111
      have fin := sX9_lowest (M := A) (L := L') (U := gwT f a b n x5) (T := 10 ^ n) (part := x6) (post := fun r M1 L1 => p2 r M1 L1) hT0 (by omega) (by omega) (hp _ _ hRA)
      refine pk_le n n (fun _ => ⟨fun q => ?_, fun q => ?_⟩) (fun h => by omega)
      · have ne : ¬ x5 = -1 := fun z => by rw [z] at q; exact absurd q (by decide)
        obtain ⟨p, hpp, ep⟩ := hto.resolve_left ne
        unfold gwT at fin
        rw [if_neg ne] at fin
        rw [ep, nI_clamp (by omega)] at fin
        rw [ep, nI_clamp (by omega), g1 p hpp]
        exact ⟨vp_in_nI (by omega) (by decide), fin⟩
      · have eq1 : x5 = -1 := by
          rcases hto with e | e
          · exact e
          · exact absurd (nlt_0 (by decide) e) q
        unfold gwT at fin
        rw [if_pos eq1] at fin
        refine ⟨vp_in_nI (n := 16) (by decide) (by decide), ?_⟩
        rw [show (16 : Int32).toNatClampNeg = 16 from rfl, g2]
        exact fin
end GUSTD
