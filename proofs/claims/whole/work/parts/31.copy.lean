/-! copies: a yard, the model's backup -/
/-- the yard b is as b2 was; all else as it was -/
def CP (b b2 : Nat) (M M' : Mm) : Prop := (∀ a, (a < b ∨ b + 6 < a) → M' a = M a) ∧ (M' b 0 = M b2 0 ∧ ∀ j, 7 ≤ j → j ≤ 12 → M' b j = M b2 j) ∧ (∀ i, 1 ≤ i → i ≤ 5 → ∀ k, k < 8 → M' (b + i) k = M (b2 + i) k) ∧ ∀ k, k < 6 → M' (b + 6) k = M (b2 + 6) k
theorem cpy_at {f g : Nat → Int32} {n k : Nat} (h : k < n) : va_cpy f g 0 0 n k = f k := by
  rw [pk_cpy_in (Nat.zero_le _) (by omega)]
  congr 1
  omega
theorem sX7_copy {b b2 : Nat} {M : Mm} {L : Ml} {post : Mm → Ml → Prop} (hd : b + 6 < b2 ∨ b2 + 6 < b) (h : ∀ M', CP b b2 M M' → post M' L) : wpX7_copy b b2 M L post := by
  unfold wpX7_copy
  intro M0 e0 M1 e1 M2 e2 M3 e3 M4 e4 M5 e5 M6 e6 M7 e7 M8 e8 M9 e9 M10 e10 M11 e11 M12 e12
  have o0 : ∀ a, a ≠ b → M0 a = M a := fun a ha => by rw [e0, zs_ne ha]
  have o1 : ∀ a, a ≠ b + 1 → M1 a = M0 a := fun a ha => by rw [e1, zr_ne ha]
  have o2 : ∀ a, a ≠ b + 2 → M2 a = M1 a := fun a ha => by rw [e2, zr_ne ha]
  have o3 : ∀ a, a ≠ b + 3 → M3 a = M2 a := fun a ha => by rw [e3, zr_ne ha]
  have o4 : ∀ a, a ≠ b + 4 → M4 a = M3 a := fun a ha => by rw [e4, zr_ne ha]
  have o5 : ∀ a, a ≠ b + 5 → M5 a = M4 a := fun a ha => by rw [e5, zr_ne ha]
  have o6 : ∀ a, a ≠ b + 6 → M6 a = M5 a := fun a ha => by rw [e6, zr_ne ha]
  have o7 : ∀ a, a ≠ b → M12 a = M6 a := fun a ha => by rw [e12, zs_ne ha, e11, zs_ne ha, e10, zs_ne ha, e9, zs_ne ha, e8, zs_ne ha, e7, zs_ne ha]
  have s : ∀ i, i ≤ 6 → M6 (b2 + i) = M (b2 + i) := fun i hi => by rw [o6 _ (by omega), o5 _ (by omega), o4 _ (by omega), o3 _ (by omega), o2 _ (by omega), o1 _ (by omega), o0 _ (by omega)]
  have sb : M6 b2 = M b2 := s 0 (by omega)
  have s6 : ∀ X : Mm, (∀ a, a ≠ b → X a = M6 a) → X b2 = M b2 := fun X hX => by rw [hX b2 (by omega), sb]
  have n7 : ∀ a, a ≠ b → M7 a = M6 a := fun a ha => by rw [e7, zs_ne ha]
  have n8 : ∀ a, a ≠ b → M8 a = M6 a := fun a ha => by rw [e8, zs_ne ha, n7 a ha]
  have n9 : ∀ a, a ≠ b → M9 a = M6 a := fun a ha => by rw [e9, zs_ne ha, n8 a ha]
  have n10 : ∀ a, a ≠ b → M10 a = M6 a := fun a ha => by rw [e10, zs_ne ha, n9 a ha]
  have n11 : ∀ a, a ≠ b → M11 a = M6 a := fun a ha => by rw [e11, zs_ne ha, n10 a ha]
  have hb : ∀ j, M12 b j = if j = 12 then M b2 12 else if j = 11 then M b2 11 else if j = 10 then M b2 10 else if j = 9 then M b2 9 else if j = 8 then M b2 8 else if j = 7 then M b2 7 else M6 b j := fun j => by
    rw [e12, zs_at, s6 M11 n11, e11, zs_at, s6 M10 n10, e10, zs_at, s6 M9 n9, e9, zs_at, s6 M8 n8, e8, zs_at, s6 M7 n7, e7, zs_at, sb]
  refine h M12 ⟨fun a ha => ?_, ⟨?_, fun j h1 h2 => ?_⟩, fun i h1 h2 k hk => ?_, fun k hk => ?_⟩
  · rw [o7 a (by omega), o6 a (by omega), o5 a (by omega), o4 a (by omega), o3 a (by omega), o2 a (by omega), o1 a (by omega), o0 a (by omega)]
  · rw [hb, if_neg (by decide), if_neg (by decide), if_neg (by decide), if_neg (by decide), if_neg (by decide), if_neg (by decide), o6 b (by omega), o5 b (by omega), o4 b (by omega), o3 b (by omega), o2 b (by omega), o1 b (by omega), e0, zs_eq]
  · rw [hb]
    rcases (show j = 7 ∨ j = 8 ∨ j = 9 ∨ j = 10 ∨ j = 11 ∨ j = 12 by omega) with rfl | rfl | rfl | rfl | rfl | rfl <;> rfl
  · rw [o7 _ (by omega), o6 _ (by omega)]
    rcases (show i = 1 ∨ i = 2 ∨ i = 3 ∨ i = 4 ∨ i = 5 by omega) with rfl | rfl | rfl | rfl | rfl
    · rw [o5 _ (by omega), o4 _ (by omega), o3 _ (by omega), o2 _ (by omega), e1, zr_eq, cpy_at hk, o0 _ (by omega)]
    · rw [o5 _ (by omega), o4 _ (by omega), o3 _ (by omega), e2, zr_eq, cpy_at hk, o1 _ (by omega), o0 _ (by omega)]
    · rw [o5 _ (by omega), o4 _ (by omega), e3, zr_eq, cpy_at hk, o2 _ (by omega), o1 _ (by omega), o0 _ (by omega)]
    · rw [o5 _ (by omega), e4, zr_eq, cpy_at hk, o3 _ (by omega), o2 _ (by omega), o1 _ (by omega), o0 _ (by omega)]
    · rw [e5, zr_eq, cpy_at hk, o4 _ (by omega), o3 _ (by omega), o2 _ (by omega), o1 _ (by omega), o0 _ (by omega)]
  · rw [o7 _ (by omega), e6, zr_eq, cpy_at hk, o5 _ (by omega), o4 _ (by omega), o3 _ (by omega), o2 _ (by omega), o1 _ (by omega), o0 _ (by omega)]
/-- the relation goes with the copy -/
theorem YD_copy {b b2 t u : Nat} {V : Nat → Nat → Int32} {M M' : Mm} (hc : CP b b2 M M') (h : YD b2 V t u M) : YD b V t u M' := by
  obtain ⟨-, ⟨c0, cj⟩, ci, c6⟩ := hc
  obtain ⟨ht, hu, h0, hv0, h7, hF, hO, hA, hS⟩ := h
  refine ⟨ht, hu, by rw [c0]; exact h0, hv0, by rw [cj 7 (by decide) (by decide)]; exact h7, ?_, ?_, ?_, ?_⟩
  · intro k hk
    have := hF k hk
    unfold FR at this ⊢
    rw [ci 1 (by decide) (by decide) k hk, ci 2 (by decide) (by decide) k hk, ci 3 (by decide) (by decide) k hk, ci 4 (by decide) (by decide) k hk, ci 5 (by decide) (by decide) k hk]
    exact this
  · intro e he
    have := hO e he
    rw [c6 e he]; exact this
  · unfold YA at hA ⊢
    rw [cj 8 (by decide) (by decide), cj 9 (by decide) (by decide)]; exact hA
  · unfold YS at hS ⊢
    rw [cj 10 (by decide) (by decide), cj 11 (by decide) (by decide), cj 12 (by decide) (by decide)]
    exact hS
/-- another view of the model that says the same -/
theorem YD_view {b t u : Nat} {V V' : Nat → Nat → Int32} {M : Mm} (h : YD b V t u M) (v0 : V' 0 0 = V 0 0) (v1 : ∀ i, 1 ≤ i → i ≤ 5 → ∀ k, k < 8 → V' i k = V i k) (v6 : ∀ i, 6 ≤ i → i ≤ 7 → ∀ e, e < 6 → V' i e = V i e) (v8 : ∀ e, e < 2 → V' 8 e = V 8 e) (v11 : V' 11 0 = V 11 0) (v9 : ∀ i, 9 ≤ i → i ≤ 10 → ∀ e, e < 8 → V' i e = V i e) : YD b V' t u M := by
  obtain ⟨ht, hu, h0, hv0, h7, hF, hO, hA, n, hs, lk, s1, s2, s3, s4, s5, s6, s7, s8, s9⟩ := h
  refine ⟨ht, hu, h0, by rw [v0]; exact hv0, h7, ?_, ?_, ?_, n, hs, lk, s1, s2, s3, s4, by rw [v11]; exact s5, s6, s7, ?_, ?_⟩
  · intro k hk
    have := hF k hk
    unfold FR at this ⊢
    rw [v1 1 (by decide) (by decide) k hk, v1 2 (by decide) (by decide) k hk, v1 3 (by decide) (by decide) k hk, v1 4 (by decide) (by decide) k hk, v1 5 (by decide) (by decide) k hk]
    exact this
  · intro e he
    have := hO e he
    rw [v6 6 (by decide) (by decide) e he, v6 7 (by decide) (by decide) e he]; exact this
  · unfold YA at hA ⊢
    rw [v8 0 (by decide), v8 1 (by decide)]; exact hA
  · intro e he
    rw [v9 9 (by decide) (by decide) e (by omega), v9 10 (by decide) (by decide) e (by omega)]; exact s8 e he
  · intro w hw
    rw [s9 w hw]
    constructor
    · intro q e he
      rw [v9 9 (by decide) (by decide) e (by omega), v9 10 (by decide) (by decide) e (by omega)]; exact q e he
    · intro q e he
      have := q e he
      rw [v9 9 (by decide) (by decide) e (by omega), v9 10 (by decide) (by decide) e (by omega)] at this
      exact this
/-- the yard's cells as they were: the relation stays -/
theorem YD_same {b t u : Nat} {V : Nat → Nat → Int32} {M M' : Mm} (h : YD b V t u M) (hc : ∀ i, i ≤ 6 → M' (b + i) = M (b + i)) : YD b V t u M' := by
  unfold YD YF YO YA YS FR at h ⊢
  rw [show M' b = M b from hc 0 (by decide), hc 1 (by decide), hc 2 (by decide), hc 3 (by decide), hc 4 (by decide), hc 5 (by decide), hc 6 (by decide)]
  exact h
section KEEP
variable {M : Mm} {L : Ml}
/-- what the backup holds -/
def HAD (M : Mm) (H : Nat → Int32) : Prop := (∀ i, i < 8 → H i = M 43 i ∧ H (8 + i) = M 44 i ∧ H (16 + i) = M 45 i ∧ H (24 + i) = M 47 i) ∧ ∀ e, e < 6 → H (32 + e) = M 48 e ∧ H (38 + e) = M 49 e
theorem nI_lit (a k : Nat) (v : Int32) (hv : v = nI a) : v + nI k = nI (a + k) := by rw [hv, nI_add]
theorem sX9_keepNow {post : Mm → Ml → Prop} (h : ∀ H, HAD M H → post (zr M 56 H) L) : wpX9_keepNow M L post := by
  unfold wpX9_keepNow wlX9_keepNow_2
  refine zlp_forI 8 (fun k s => ∃ H, s = (zr M 56 H, L, nI k) ∧ ∀ i, i < k → H i = M 43 i ∧ H (8 + i) = M 44 i ∧ H (16 + i) = M 45 i ∧ H (24 + i) = M 47 i) ⟨M 56, by rw [zr_self]; rfl, fun i hi => absurd hi (by omega)⟩ ?_ ?_
  · rintro k K _ hk ⟨H, rfl, hH⟩ hK
    show wpX9_keepNow_2 post _ (zr M 56 H) L (nI k)
    have ek : (nI k).toNatClampNeg = k := nI_clamp (by omega)
    have l8 := nI_lit 8 k (8 : Int32) rfl
    have l16 := nI_lit 16 k (16 : Int32) rfl
    have l24 := nI_lit 24 k (24 : Int32) rfl
    have e8 : (nI (8 + k)).toNatClampNeg = 8 + k := nI_clamp (by omega)
    have e16 : (nI (16 + k)).toNatClampNeg = 16 + k := nI_clamp (by omega)
    have e24 : (nI (24 + k)).toNatClampNeg = 24 + k := nI_clamp (by omega)
    unfold wpX9_keepNow_2
    rw [l8, l16, l24, ek, e8, e16, e24]
    refine pk_le 8 k (fun h => by omega) (fun _ => ⟨vp_in_nI hk (by decide), vp_in_nI (by omega) (by decide), fun M1 q1 => ⟨vp_in_nI hk (by decide), vp_in_nI (by omega) (by decide), fun M2 q2 => ⟨vp_in_nI hk (by decide), vp_in_nI (by omega) (by decide), fun M3 q3 => ⟨vp_in_nI hk (by decide), vp_in_nI (by omega) (by decide), fun M4 q4 a ha => ?_⟩⟩⟩⟩)
    rw [zs_zr, zr_ne (by decide)] at q1
    rw [q1, zs_zr, zr_ne (by decide)] at q2
    rw [q2, zs_zr, zr_ne (by decide)] at q3
    rw [q3, zs_zr, zr_ne (by decide)] at q4
    refine hK _ ⟨_, by show (M4, L, a) = _; rw [q4, ha, nI_1], fun i hi => ?_⟩
    unfold upd
    by_cases e : i = k
    · subst e
      simp
    · obtain ⟨g1, g2, g3, g4⟩ := hH i (by omega)
      have n1 : ∀ c d, c + i ≠ d + k ∨ c + i = d + k := fun c d => by omega
      refine ⟨?_, ?_, ?_, ?_⟩
      · rw [if_neg (by omega), if_neg (by omega), if_neg (by omega), if_neg (by omega)]; exact g1
      · rw [if_neg (by omega), if_neg (by omega), if_neg (by omega), if_neg (by omega)]; exact g2
      · rw [if_neg (by omega), if_neg (by omega), if_neg (by omega), if_neg (by omega)]; exact g3
      · rw [if_neg (by omega), if_neg (by omega), if_neg (by omega), if_neg (by omega)]; exact g4
  · rintro K _ ⟨H, rfl, hH⟩
    show wpX9_keepNow_2 post _ (zr M 56 H) L (nI 8)
    unfold wpX9_keepNow_2 wlX9_keepNow_73
    refine pk_le 8 8 (fun _ => ?_) (fun h => by omega)
    refine zlp_forI 6 (fun k s => ∃ H, s = (zr M 56 H, L, nI k) ∧ (∀ i, i < 8 → H i = M 43 i ∧ H (8 + i) = M 44 i ∧ H (16 + i) = M 45 i ∧ H (24 + i) = M 47 i) ∧ ∀ e, e < k → H (32 + e) = M 48 e ∧ H (38 + e) = M 49 e) ⟨H, rfl, hH, fun i hi => absurd hi (by omega)⟩ ?_ ?_
    · rintro k K2 _ hk ⟨H, rfl, hH, hG⟩ hK
      show wpX9_keepNow_73 post _ (zr M 56 H) L (nI k)
      have ek : (nI k).toNatClampNeg = k := nI_clamp (by omega)
      have l8 := nI_lit 32 k (32 : Int32) rfl
      have l16 := nI_lit 38 k (38 : Int32) rfl
      have e8 : (nI (32 + k)).toNatClampNeg = 32 + k := nI_clamp (by omega)
      have e16 : (nI (38 + k)).toNatClampNeg = 38 + k := nI_clamp (by omega)
      unfold wpX9_keepNow_73
      rw [l8, l16, ek, e8, e16]
      refine pk_le 6 k (fun h => by omega) (fun _ => ⟨vp_in_nI hk (by decide), vp_in_nI (by omega) (by decide), fun M1 q1 => ⟨vp_in_nI hk (by decide), vp_in_nI (by omega) (by decide), fun M2 q2 a ha => ?_⟩⟩)
      rw [zs_zr, zr_ne (by decide)] at q1
      rw [q1, zs_zr, zr_ne (by decide)] at q2
      refine hK _ ⟨_, by show (M2, L, a) = _; rw [q2, ha, nI_1], fun i hi => ?_, fun i hi => ?_⟩
      · obtain ⟨g1, g2, g3, g4⟩ := hH i hi
        unfold upd
        refine ⟨?_, ?_, ?_, ?_⟩
        · rw [if_neg (by omega), if_neg (by omega)]; exact g1
        · rw [if_neg (by omega), if_neg (by omega)]; exact g2
        · rw [if_neg (by omega), if_neg (by omega)]; exact g3
        · rw [if_neg (by omega), if_neg (by omega)]; exact g4
      · unfold upd
        by_cases e : i = k
        · subst e
          refine ⟨?_, ?_⟩
          · rw [if_neg (by omega), if_pos rfl]
          · rw [if_pos rfl]
        · obtain ⟨g1, g2⟩ := hG i (by omega)
          refine ⟨?_, ?_⟩
          · rw [if_neg (by omega), if_neg (by omega)]; exact g1
          · rw [if_neg (by omega), if_neg (by omega)]; exact g2
    · rintro K2 _ ⟨H, rfl, hH, hG⟩
      show wpX9_keepNow_73 post _ (zr M 56 H) L (nI 6)
      unfold wpX9_keepNow_73
      exact pk_le 6 6 (fun _ => h H ⟨hH, hG⟩) (fun h => by omega)
/-- the rows as the backup has them -/
def BK (M M' : Mm) : Prop := (∀ a, a ≠ 43 → a ≠ 44 → a ≠ 45 → a ≠ 47 → a ≠ 48 → a ≠ 49 → M' a = M a) ∧ HAD M' (M 56)
theorem sX9_back {x : Int32} {post : Int32 → Mm → Ml → Prop} (h : ∀ M', BK M M' → post x M' L) : wpX9_back x M L post := by
  unfold wpX9_back wlX9_back_2
  refine zlp_forI 8 (fun k s => ∃ M', s = (M', L, x, nI k) ∧ (∀ a, a ≠ 43 → a ≠ 44 → a ≠ 45 → a ≠ 47 → M' a = M a) ∧ ∀ i, i < k → M 56 i = M' 43 i ∧ M 56 (8 + i) = M' 44 i ∧ M 56 (16 + i) = M' 45 i ∧ M 56 (24 + i) = M' 47 i) ⟨M, rfl, fun _ _ _ _ _ => rfl, fun i hi => absurd hi (by omega)⟩ ?_ ?_
  · rintro k K _ hk ⟨M', rfl, hn, hH⟩ hK
    show wpX9_back_2 post _ M' L x (nI k)
    have ek : (nI k).toNatClampNeg = k := nI_clamp (by omega)
    have l8 := nI_lit 8 k (8 : Int32) rfl
    have l16 := nI_lit 16 k (16 : Int32) rfl
    have l24 := nI_lit 24 k (24 : Int32) rfl
    have e8 : (nI (8 + k)).toNatClampNeg = 8 + k := nI_clamp (by omega)
    have e16 : (nI (16 + k)).toNatClampNeg = 16 + k := nI_clamp (by omega)
    have e24 : (nI (24 + k)).toNatClampNeg = 24 + k := nI_clamp (by omega)
    unfold wpX9_back_2
    rw [l8, l16, l24, ek, e8, e16, e24]
    refine pk_le 8 k (fun h => by omega) (fun _ => ⟨vp_in_nI (by omega) (by decide), vp_in_nI hk (by decide), fun M1 q1 => ⟨vp_in_nI (by omega) (by decide), vp_in_nI hk (by decide), fun M2 q2 => ⟨vp_in_nI (by omega) (by decide), vp_in_nI hk (by decide), fun M3 q3 => ⟨vp_in_nI (by omega) (by decide), vp_in_nI hk (by decide), fun M4 q4 a ha => ?_⟩⟩⟩⟩)
    have h56 : M' 56 = M 56 := hn 56 (by decide) (by decide) (by decide) (by decide)
    have w1 : M1 56 = M 56 := by rw [q1, zs_ne (by decide), h56]
    have w2 : M2 56 = M 56 := by rw [q2, zs_ne (by decide), w1]
    have w3 : M3 56 = M 56 := by rw [q3, zs_ne (by decide), w2]
    refine hK _ ⟨M4, by show (M4, L, x, a) = _; rw [ha, nI_1], fun b h1 h2 h3 h4 => ?_, fun i hi => ?_⟩
    · rw [q4, zs_ne h4, q3, zs_ne h3, q2, zs_ne h2, q1, zs_ne h1, hn b h1 h2 h3 h4]
    · have r43 : M4 43 i = if i = k then M 56 k else M' 43 i := by rw [q4, zs_ne (by decide), q3, zs_ne (by decide), q2, zs_ne (by decide), q1, zs_at, h56]
      have r44 : M4 44 i = if i = k then M 56 (8 + k) else M' 44 i := by rw [q4, zs_ne (by decide), q3, zs_ne (by decide), q2, zs_at, w1, q1, zs_ne (by decide)]
      have r45 : M4 45 i = if i = k then M 56 (16 + k) else M' 45 i := by rw [q4, zs_ne (by decide), q3, zs_at, w2, q2, zs_ne (by decide), q1, zs_ne (by decide)]
      have r47 : M4 47 i = if i = k then M 56 (24 + k) else M' 47 i := by rw [q4, zs_at, w3, q3, zs_ne (by decide), q2, zs_ne (by decide), q1, zs_ne (by decide)]
      rw [r43, r44, r45, r47]
      by_cases e : i = k
      · subst e
        rw [if_pos rfl, if_pos rfl, if_pos rfl, if_pos rfl]
        exact ⟨rfl, rfl, rfl, rfl⟩
      · rw [if_neg e, if_neg e, if_neg e, if_neg e]
        exact hH i (by omega)
  · rintro K _ ⟨M', rfl, hn, hH⟩
    show wpX9_back_2 post _ M' L x (nI 8)
    unfold wpX9_back_2 wlX9_back_73
    refine pk_le 8 8 (fun _ => ?_) (fun h => by omega)
    refine zlp_forI 6 (fun k s => ∃ M', s = (M', L, x, nI k) ∧ (∀ a, a ≠ 43 → a ≠ 44 → a ≠ 45 → a ≠ 47 → a ≠ 48 → a ≠ 49 → M' a = M a) ∧ (∀ i, i < 8 → M 56 i = M' 43 i ∧ M 56 (8 + i) = M' 44 i ∧ M 56 (16 + i) = M' 45 i ∧ M 56 (24 + i) = M' 47 i) ∧ ∀ e, e < k → M 56 (32 + e) = M' 48 e ∧ M 56 (38 + e) = M' 49 e) ⟨M', rfl, fun a h1 h2 h3 h4 _ _ => hn a h1 h2 h3 h4, hH, fun i hi => absurd hi (by omega)⟩ ?_ ?_
    · rintro k K2 _ hk ⟨M', rfl, hn, hH, hG⟩ hK
      show wpX9_back_73 post _ M' L x (nI k)
      have ek : (nI k).toNatClampNeg = k := nI_clamp (by omega)
      have l8 := nI_lit 32 k (32 : Int32) rfl
      have l16 := nI_lit 38 k (38 : Int32) rfl
      have e8 : (nI (32 + k)).toNatClampNeg = 32 + k := nI_clamp (by omega)
      have e16 : (nI (38 + k)).toNatClampNeg = 38 + k := nI_clamp (by omega)
      unfold wpX9_back_73
      rw [l8, l16, ek, e8, e16]
      refine pk_le 6 k (fun h => by omega) (fun _ => ⟨vp_in_nI (by omega) (by decide), vp_in_nI hk (by decide), fun M1 q1 => ⟨vp_in_nI (by omega) (by decide), vp_in_nI hk (by decide), fun M2 q2 a ha => ?_⟩⟩)
      have h56 : M' 56 = M 56 := hn 56 (by decide) (by decide) (by decide) (by decide) (by decide) (by decide)
      have w1 : M1 56 = M 56 := by rw [q1, zs_ne (by decide), h56]
      have m2 : ∀ b, b ≠ 48 → b ≠ 49 → M2 b = M' b := fun b h1 h2 => by rw [q2, zs_ne h2, q1, zs_ne h1]
      refine hK _ ⟨M2, by show (M2, L, x, a) = _; rw [ha, nI_1], fun b h1 h2 h3 h4 h5 h6 => ?_, fun i hi => ?_, fun i hi => ?_⟩
      · rw [m2 b h5 h6, hn b h1 h2 h3 h4 h5 h6]
      · rw [m2 43 (by decide) (by decide), m2 44 (by decide) (by decide), m2 45 (by decide) (by decide), m2 47 (by decide) (by decide)]; exact hH i hi
      · have r48 : M2 48 i = if i = k then M 56 (32 + k) else M' 48 i := by rw [q2, zs_ne (by decide), q1, zs_at, h56]
        have r49 : M2 49 i = if i = k then M 56 (38 + k) else M' 49 i := by rw [q2, zs_at, w1, q1, zs_ne (by decide)]
        rw [r48, r49]
        by_cases e : i = k
        · subst e
          rw [if_pos rfl, if_pos rfl]
          exact ⟨rfl, rfl⟩
        · rw [if_neg e, if_neg e]
          exact hG i (by omega)
    · rintro K2 _ ⟨M', rfl, hn, hH, hG⟩
      show wpX9_back_73 post _ M' L x (nI 6)
      unfold wpX9_back_73
      exact pk_le 6 6 (fun _ => h M' ⟨hn, hH, hG⟩) (fun h => by omega)
end KEEP
