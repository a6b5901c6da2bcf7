/-! gusts: the model, the pair -/
section GUSTB
variable {M : Mm} {L : Ml}
theorem zsl_ne {L : Ml} {c a : Nat} (h : a ≠ c) (k : Nat) (v : Int64) : zsl L c k v a = L a := by unfold zsl; exact zrl_ne h
theorem sX9_gust {w : Nat → Nat} {o a b : Nat} {post : Mm → Ml → Prop} (ha : a < 11) (hb : b < 11) (hab : a + b ≤ 10) (hw : ∀ p, p < 16 → L 62 p = lN (w p)) (ho : L 62 16 = lN o) (hp : ∀ L', (∀ p, p < 17 → L' 62 p = lN (ptk w o a b 16 p)) → post M L') : wpX9_gust (nI a) (nI b) M L post := by
  unfold wpX9_gust wlX9_gust_2
  have ec : ((10 : Int64) - (nI a).toInt64) - (nI b).toInt64 = lN (10 - a - b) := by rw [nI_l (by omega), nI_l (by omega), show (10 : Int64) = lN 10 from rfl, lN_sub (by omega), lN_sub (by omega)]
  refine zlp_forI 17 (fun k s => ∃ L', s = (M, L', nI a, nI b, nI k) ∧ (∀ p, p < 17 → L' 62 p = L 62 p) ∧ ∀ q, q < k → L' 63 q = lN (ptk w o a b 0 q)) ⟨L, rfl, fun _ _ => rfl, fun q hq => absurd hq (by omega)⟩ ?_ ?_
  · rintro k K _ hk ⟨L', rfl, h1, h2⟩ hK
    show wpX9_gust_2 post _ M L' (nI a) (nI b) (nI k)
    unfold wpX9_gust_2 wpX9_gust_33
    rw [nI_clamp (n := k) (by omega), h1 k hk]
    have vk : vp_in (nI k) 17 := vp_in_nI hk (by decide)
    have go : ∀ v : Int64, v = lN (ptk w o a b 0 k) → vp_in (nI k) 17 ∧ (∀ L_33 : Ml, L_33 = zsl L' 63 k v → (∀ a_34 : Int32, a_34 = nI k + (1 : Int32) → K (M, L_33, nI a, nI b, a_34))) := fun v ev => ⟨vk, fun L2 e2 z ez => hK _ ⟨L2, by rw [ez, nI_1], fun p hp => by rw [e2, zsl_ne (by decide)]; exact h1 p hp, fun q hq => by
      rw [e2, zsl_at]
      by_cases e : q = k
      · rw [if_pos e, ev, e]
      · rw [if_neg e]; exact h2 q (by omega)⟩⟩
    have k16 : nI k = (16 : Int32) ↔ k = 16 := ⟨fun z => nI_inj (a := k) (b := 16) (by omega) (by decide) z, fun z => by rw [z]; rfl⟩
    refine pk_lt 16 k (fun h => by omega) (fun _ => ⟨fun q => go _ ?_, fun q => ⟨vk, go _ ?_⟩⟩)
    · unfold ptk; rw [if_neg (fun z => q (k16.mpr z))]; rfl
    · have e := k16.mp q
      unfold ptk
      rw [if_pos e, e, ho, show (10 : Int64) = lN 10 from rfl, lN_mul]
  · rintro K _ ⟨L', rfl, h1, h2⟩
    show wpX9_gust_2 post _ M L' (nI a) (nI b) (nI 17)
    unfold wpX9_gust_2
    refine pk_lt 16 17 (fun _ => ?_) (fun h => by omega)
    unfold wlX9_gust_42
    refine zlp_forI 16 (fun k s => ∃ L', s = (M, L', nI a, nI b, nI k) ∧ (∀ p, p < 17 → L' 62 p = L 62 p) ∧ ∀ q, q < 17 → L' 63 q = lN (ptk w o a b k q)) ⟨L', rfl, h1, h2⟩ ?_ ?_
    · rintro k K2 _ hk ⟨L', rfl, h1, h2⟩ hK
      show wpX9_gust_42 post _ M L' (nI a) (nI b) (nI k)
      unfold wpX9_gust_42
      have core : ∀ s : Nat, s = (if k = 0 then 16 else k - 1) → wpX9_gust_64 post (fun M L v1 v2 v3 => K2 (M, L, v1, v2, v3)) M L' (nI a) (nI b) (nI k) (nI s) := by
        intro s es
        have hs : s < 17 ∧ ¬ s = k ∧ ¬ s = k + 1 := by
          by_cases q : k = 0
          · rw [if_pos q] at es; omega
          · rw [if_neg q] at es; omega
        unfold wpX9_gust_64
        rw [nI_1, nI_clamp (n := k) (by omega), nI_clamp (n := k + 1) (by omega), nI_clamp (n := s) (by omega), ec]
        have vk : vp_in (nI k) 17 := vp_in_nI (by omega) (by decide)
        have vk1 : vp_in (nI (k + 1)) 17 := vp_in_nI (by omega) (by decide)
        have vs : vp_in (nI s) 17 := vp_in_nI hs.1 (by decide)
        refine ⟨vs, vk, vs, fun A ea => ⟨vk1, vk, vk1, fun B eb => ⟨vk, vk, vk, fun C ec2 z ez => hK _ ⟨C, by show (M, C, nI a, nI b, z) = _; rw [ez], ?_, ?_⟩⟩⟩⟩
        · intro p hpp
          rw [ec2, zsl_ne (by decide), eb, zsl_ne (by decide), ea, zsl_ne (by decide)]
          exact h1 p hpp
        · intro q hq
          have w62 : L' 62 k = lN (w k) := by rw [h1 k (by omega)]; exact hw k hk
          have a62 : A 62 k = lN (w k) := by rw [ea, zsl_ne (by decide)]; exact w62
          have b62 : B 62 k = lN (w k) := by rw [eb, zsl_ne (by decide)]; exact a62
          rw [w62, nI_l (by omega), lN_mul] at ea
          rw [a62, nI_l (by omega), lN_mul] at eb
          rw [b62, lN_mul] at ec2
          have rA : ∀ j, A 63 j = if j = s then L' 63 s + lN (a * w k) else L' 63 j := fun j => by rw [ea, zsl_at]
          have rB : ∀ j, B 63 j = if j = k + 1 then A 63 (k + 1) + lN (b * w k) else A 63 j := fun j => by rw [eb, zsl_at]
          have rC : ∀ j, C 63 j = if j = k then B 63 k + lN ((10 - a - b) * w k) else B 63 j := fun j => by rw [ec2, zsl_at]
          rw [rC]
          unfold ptk
          rw [← es]
          by_cases q1 : q = k
          · rw [if_pos q1, rB, if_neg (by omega), rA, if_neg (fun z => hs.2.1 z.symm), h2 k (by omega), lN_add, q1, if_neg (fun z => hs.2.1 z.symm), if_neg (by omega), if_pos rfl]
            rfl
          · rw [if_neg q1, rB, if_neg q1]
            by_cases q2 : q = k + 1
            · rw [if_pos q2, rA, if_neg (fun z => hs.2.2 z.symm), h2 (k + 1) (by omega), lN_add, q2, if_neg (fun z => hs.2.2 z.symm), if_pos rfl]
              rfl
            · rw [if_neg q2, if_neg q2, rA]
              by_cases q3 : q = s
              · rw [if_pos q3, if_pos q3, h2 s hs.1, lN_add, q3]
                rfl
              · rw [if_neg q3, if_neg q3, h2 q hq]
                rfl
      have k0 : nI k = 0 ↔ k = 0 := ⟨fun z => nI_inj (b := 0) (by omega) (by decide) z, fun z => by rw [z]; rfl⟩
      refine pk_le 16 k (fun h => by omega) (fun _ => ⟨fun q => ?_, fun q => core 16 (by rw [if_pos (k0.mp q)])⟩)
      have q : ¬ k = 0 := fun z => q (k0.mpr z)
      rw [show nI k - (1 : Int32) = nI (k - 1) from pk_sub (b := 1) (by omega)]
      exact core (k - 1) (by rw [if_neg q])
    · rintro K2 _ ⟨L', rfl, h1, h2⟩
      show wpX9_gust_42 post _ M L' (nI a) (nI b) (nI 16)
      unfold wpX9_gust_42
      refine pk_le 16 16 (fun _ => ?_) (fun h => by omega)
      unfold wlX9_gust_130
      refine zlp_forI 17 (fun k s => ∃ L', s = (M, L', nI k) ∧ (∀ q, q < 17 → L' 63 q = lN (ptk w o a b 16 q)) ∧ ∀ q, q < k → L' 62 q = lN (ptk w o a b 16 q)) ⟨L', rfl, h2, fun q hq => absurd hq (by omega)⟩ ?_ ?_
      · rintro k K3 _ hk ⟨L', rfl, h3, h4⟩ hK
        show wpX9_gust_130 post _ M L' (nI k)
        unfold wpX9_gust_130
        rw [nI_clamp (n := k) (by omega), h3 k hk]
        refine pk_lt 16 k (fun h => by omega) (fun _ => ⟨vp_in_nI hk (by decide), vp_in_nI hk (by decide), fun L2 e2 z ez => hK _ ⟨L2, by show (M, L2, z) = _; rw [ez, nI_1], fun q hq => by rw [e2, zsl_ne (by decide)]; exact h3 q hq, fun q hq => ?_⟩⟩)
        rw [e2, zsl_at]
        by_cases e : q = k
        · rw [if_pos e, e]
        · rw [if_neg e]; exact h4 q (by omega)
      · rintro K3 _ ⟨L', rfl, h3, h4⟩
        show wpX9_gust_130 post _ M L' (nI 17)
        unfold wpX9_gust_130
        exact pk_lt 16 17 (fun _ => hp L' h4) (fun h => by omega)
end GUSTB
