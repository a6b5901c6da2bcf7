/-! the widest patch -/
theorem z_shl16 {a : Int32} {k : Nat} (e : a = nI k) (hk : k < 31) : (1 : Int32) <<< (a &&& 31) = nI (2 ^ k) := by rw [e, z_shl hk]
theorem or_bit {T a p : Nat} : (T ||| 2 ^ a).testBit p = true ↔ T.testBit p = true ∨ p = a := by
  rw [Nat.testBit_or, Nat.testBit_two_pow, Bool.or_eq_true, decide_eq_true_iff]
  exact ⟨fun h => h.imp id Eq.symm, fun h => h.imp id Eq.symm⟩
theorem or_lt16 {T a : Nat} (h : T < 65536) (ha : a < 16) : (T ||| 2 ^ a) < 65536 := by
  have : T ||| 2 ^ a < 2 ^ 16 := Nat.or_lt_two_pow h (Nat.pow_lt_pow_right (by decide) ha)
  exact this
section PATCH
variable {M : Mm} {L : Ml} {post : Int32 → Mm → Ml → Prop}
/-- trodden: where one stands, where one lies -/
def trod (M : Mm) (t p : Nat) : Prop := (∃ e, e < 6 ∧ M 20 e = nI p) ∨ ∃ k, k < 8 ∧ t.testBit k = true ∧ M 17 k ≤ 0 ∧ ¬ M 16 k = -6 ∧ M 19 k = -6 ∧ M 16 k = nI p
theorem sX7_trodden {t : Nat} (ht : t < 256) (h0 : M 14 0 = nI t) (hO : ∀ e, e < 6 → zlt 16 (M 20 e)) (hF : ∀ k, k < 8 → t.testBit k = true → zlt 16 (M 16 k) ∨ M 16 k = -6) (h : ∀ T, T < 65536 → (∀ p, p < 16 → (T.testBit p = true ↔ trod M t p)) → post (nI T) M L) : wpX7_trodden 14 M L post := by
  unfold wpX7_trodden wlX7_trodden_4
  refine zlp_forI 6 (fun k s => ∃ T, s = (M, L, nI T, nI k) ∧ T < 65536 ∧ ∀ p, p < 16 → (T.testBit p = true ↔ ∃ e, e < k ∧ M 20 e = nI p)) ⟨0, rfl, by decide, fun p hp => ⟨fun z => by simp at z, fun ⟨e, he, _⟩ => absurd he (by omega)⟩⟩ ?_ ?_
  · rintro k K _ hk ⟨T, rfl, hT, hb⟩ hK
    have ek : (nI k).toNatClampNeg = k := nI_clamp (by omega)
    show wpX7_trodden_4 14 post _ M L (nI T) (nI k)
    unfold wpX7_trodden_4
    rw [ek]
    obtain ⟨a, ha, ea⟩ := hO k hk
    refine pk_le 6 k (fun h => by omega) (fun _ => ⟨vp_in_nI hk (by decide), fun v ev w ew => ?_⟩)
    rw [z_shl16 ea (by omega), fa_or] at ev
    refine hK _ ⟨T ||| 2 ^ a, by show (M, L, v, w) = _; rw [ev, ew, nI_1], or_lt16 hT ha, fun p hp => ?_⟩
    rw [or_bit, hb p hp]
    constructor
    · rintro (⟨e, he, h1⟩ | rfl)
      · exact ⟨e, by omega, h1⟩
      · exact ⟨k, by omega, ea⟩
    · rintro ⟨e, he, h1⟩
      by_cases q : e = k
      · subst q
        rw [ea] at h1
        exact Or.inr (nI_inj (by omega) (by omega) h1.symm)
      · exact Or.inl ⟨e, by omega, h1⟩
  · rintro K _ ⟨T, rfl, hT, hb⟩
    show wpX7_trodden_4 14 post _ M L (nI T) (nI 6)
    unfold wpX7_trodden_4
    refine pk_le 6 6 (fun _ => sX7_down (sX7_flakesWith ?_)) (fun h => by omega)
    rw [dn_val (b := 14) ht h0, h0, z_and, fa_and]
    intro v ev
    obtain ⟨D, hD⟩ : ∃ D, D = (zbs (fun k => t.testBit k && decide (M (14 + 3) k ≤ 0) && decide (¬ M (14 + 2) k = -6)) 8) &&& (zbs (fun k => decide (M (14 + 5) k = -6) && t.testBit k) 8) := ⟨_, rfl⟩
    have hDb : ∀ k, k < 8 → (D.testBit k = true ↔ t.testBit k = true ∧ M 17 k ≤ 0 ∧ ¬ M 16 k = -6 ∧ M 19 k = -6) := by
      intro k hk
      rw [hD, Nat.testBit_and, zbs_tb, zbs_tb]
      simp only [hk, decide_true, Bool.true_and, Bool.and_eq_true, decide_eq_true_iff]
      constructor
      · rintro ⟨⟨⟨a1, a2⟩, a3⟩, a4, -⟩
        exact ⟨a1, a2, a3, a4⟩
      · rintro ⟨a1, a2, a3, a4⟩
        exact ⟨⟨⟨a1, a2⟩, a3⟩, a4, a1⟩
    have hDl : D < 256 := by
      rw [hD]
      exact Nat.lt_of_le_of_lt Nat.and_le_left (zbs_lt _ 8)
    rw [← hD] at ev
    rw [ev]
    unfold wlX7_trodden_41
    refine zlp_forI 8 (fun k s => ∃ T, s = (M, L, nI T, nI D, nI k) ∧ T < 65536 ∧ ∀ p, p < 16 → (T.testBit p = true ↔ (∃ e, e < 6 ∧ M 20 e = nI p) ∨ ∃ i, i < k ∧ t.testBit i = true ∧ M 17 i ≤ 0 ∧ ¬ M 16 i = -6 ∧ M 19 i = -6 ∧ M 16 i = nI p)) ⟨T, rfl, hT, fun p hp => by rw [hb p hp]; exact ⟨Or.inl, fun z => z.elim id (fun ⟨i, hi, _⟩ => absurd hi (by omega))⟩⟩ ?_ ?_
    · rintro k K2 _ hk ⟨T2, rfl, hT2, hb2⟩ hK
      have ek : (nI k).toNatClampNeg = k := nI_clamp (by omega)
      show wpX7_trodden_41 14 post _ M L (nI T2) (nI D) (nI k)
      unfold wpX7_trodden_41 wpX7_trodden_67
      rw [ek]
      refine pk_le 8 k (fun h => by omega) (fun _ => sX8_bit (by omega) (by omega) ?_)
      cases hbk : D.testBit k with
      | false =>
        refine nf_ (by decide) (fun a ha => hK _ ⟨T2, by show (M, L, nI T2, nI D, a) = _; rw [ha, nI_1], hT2, fun p hp => ?_⟩)
        rw [hb2 p hp]
        constructor
        · rintro (h1 | ⟨i, hi, h1⟩)
          · exact Or.inl h1
          · exact Or.inr ⟨i, by omega, h1⟩
        · rintro (h1 | ⟨i, hi, h1, h2, h3, h4, h5⟩)
          · exact Or.inl h1
          · by_cases q : i = k
            · subst q
              rw [(hDb i hk).mpr ⟨h1, h2, h3, h4⟩] at hbk
              exact absurd hbk (by decide)
            · exact Or.inr ⟨i, by omega, h1, h2, h3, h4, h5⟩
      | true =>
        obtain ⟨q1, q2, q3, q4⟩ := (hDb k hk).mp hbk
        obtain ⟨a, ha, ea⟩ := (hF k hk q1).resolve_right q3
        refine nt_ rfl ⟨vp_in_nI hk (by decide), fun v ev w ew => ?_⟩
        rw [show M (14 + 2) k = M 16 k from rfl, z_shl16 ea (by omega), fa_or] at ev
        refine hK _ ⟨T2 ||| 2 ^ a, by show (M, L, v, nI D, w) = _; rw [ev, ew, nI_1], or_lt16 hT2 ha, fun p hp => ?_⟩
        rw [or_bit, hb2 p hp]
        constructor
        · rintro ((h1 | ⟨i, hi, h1⟩) | rfl)
          · exact Or.inl h1
          · exact Or.inr ⟨i, by omega, h1⟩
          · exact Or.inr ⟨k, by omega, q1, q2, q3, q4, ea⟩
        · rintro (h1 | ⟨i, hi, h1, h2, h3, h4, h5⟩)
          · exact Or.inl (Or.inl h1)
          · by_cases q : i = k
            · subst q
              rw [ea] at h5
              exact Or.inr (nI_inj (by omega) (by omega) h5.symm)
            · exact Or.inl (Or.inr ⟨i, by omega, h1, h2, h3, h4, h5⟩)
    · rintro K2 _ ⟨T2, rfl, hT2, hb2⟩
      show wpX7_trodden_41 14 post _ M L (nI T2) (nI D) (nI 8)
      unfold wpX7_trodden_41
      exact pk_le 8 8 (fun _ => h T2 hT2 hb2) (fun h => by omega)
/-- not free: where one stands, where one lies -/
def taken (M : Mm) (t : Nat) (x : Int32) : Prop := (∃ e, e < 6 ∧ M 48 e = x) ∨ ∃ k, k < 8 ∧ t.testBit k = true ∧ M 45 k = 0 ∧ ¬ 0 ≤ M 47 k ∧ M 44 k = x
theorem sX9_isFree {t : Nat} {x : Int32} (ht : t < 256) (et : M 42 0 = nI t) (h1 : ¬ taken M t x → post 1 M L) (h0 : taken M t x → post 0 M L) : wpX9_isFree x M L post := by
  unfold wpX9_isFree wlX9_isFree_4
  refine zlp_forI 6 (fun k s => ∃ v : Int32, s = (M, L, x, v, nI k) ∧ ((v = 0 ∧ ∃ e, e < k ∧ M 48 e = x) ∨ (v = 1 ∧ ¬ ∃ e, e < k ∧ M 48 e = x))) ⟨1, rfl, Or.inr ⟨rfl, fun ⟨e, he, _⟩ => absurd he (by omega)⟩⟩ ?_ ?_
  · rintro k K _ hk ⟨v, rfl, hv⟩ hK
    have ek : (nI k).toNatClampNeg = k := nI_clamp (by omega)
    show wpX9_isFree_4 post _ M L x v (nI k)
    unfold wpX9_isFree_4 wpX9_isFree_28 wpX9_isFree_29
    rw [ek]
    refine pk_le 6 k (fun h => by omega) (fun _ => ?_)
    rcases hv with ⟨rfl, e, he, hq⟩ | ⟨rfl, hq⟩
    · exact bt_ rfl (fun a ha => hK _ ⟨0, by show (M, L, x, (0 : Int32), a) = _; rw [ha, nI_1], Or.inl ⟨rfl, e, by omega, hq⟩⟩)
    · refine bf_ (by decide) ⟨vp_in_nI hk (by decide), fun q a ha => hK _ ⟨0, by show (M, L, x, (0 : Int32), a) = _; rw [ha, nI_1], Or.inl ⟨rfl, k, by omega, q⟩⟩, fun q a ha => hK _ ⟨1, by show (M, L, x, (1 : Int32), a) = _; rw [ha, nI_1], Or.inr ⟨rfl, ?_⟩⟩⟩
      rintro ⟨e, he, h2⟩
      by_cases e1 : e = k
      · subst e1; exact q h2
      · exact hq ⟨e, by omega, h2⟩
  · rintro K _ ⟨v, rfl, hv⟩
    show wpX9_isFree_4 post _ M L x v (nI 6)
    unfold wpX9_isFree_4
    refine pk_le 6 6 (fun _ => ?_) (fun h => by omega)
    unfold wlX9_isFree_38
    refine zlp_forI 8 (fun k s => ∃ v : Int32, s = (M, L, x, v, nI k) ∧ ((v = 0 ∧ ((∃ e, e < 6 ∧ M 48 e = x) ∨ ∃ i, i < k ∧ t.testBit i = true ∧ M 45 i = 0 ∧ ¬ 0 ≤ M 47 i ∧ M 44 i = x)) ∨ (v = 1 ∧ ¬ ((∃ e, e < 6 ∧ M 48 e = x) ∨ ∃ i, i < k ∧ t.testBit i = true ∧ M 45 i = 0 ∧ ¬ 0 ≤ M 47 i ∧ M 44 i = x)))) ⟨v, rfl, hv.imp (fun ⟨a, b⟩ => ⟨a, Or.inl b⟩) (fun ⟨a, b⟩ => ⟨a, fun z => z.elim b (fun ⟨i, hi, _⟩ => absurd hi (by omega))⟩)⟩ ?_ ?_
    · rintro k K2 _ hk ⟨v, rfl, hv⟩ hK
      have ek : (nI k).toNatClampNeg = k := nI_clamp (by omega)
      have vk : vp_in (nI k) 8 := vp_in_nI hk (by decide)
      show wpX9_isFree_38 post _ M L x v (nI k)
      unfold wpX9_isFree_38 wpX9_isFree_74 wpX9_isFree_75 wpX9_isFree_96 wpX9_isFree_100 wpX9_isFree_101
      rw [ek]
      -- the flake k doesn't lie there
      have no : ¬ (t.testBit k = true ∧ M 45 k = 0 ∧ ¬ 0 ≤ M 47 k ∧ M 44 k = x) → (v = 0 → ∀ a_102 : Int32, a_102 = nI k + 1 → K2 (M, L, x, 0, a_102)) ∧ (¬ v = 0 → ∀ a_102 : Int32, a_102 = nI k + 1 → K2 (M, L, x, 1, a_102)) := by
        intro hn
        refine ⟨fun ev a ha => hK _ ⟨0, by rw [ha, nI_1], Or.inl ⟨rfl, ?_⟩⟩, fun nv a ha => hK _ ⟨1, by rw [ha, nI_1], Or.inr ⟨rfl, ?_⟩⟩⟩
        · rcases hv with ⟨-, z⟩ | ⟨z, -⟩
          · exact z.imp id (fun ⟨i, hi, w⟩ => ⟨i, by omega, w⟩)
          · rw [z] at ev; exact absurd ev (by decide)
        · rcases hv with ⟨z, -⟩ | ⟨-, z⟩
          · exact absurd z nv
          · rintro (w | ⟨i, hi, w⟩)
            · exact z (Or.inl w)
            · by_cases e1 : i = k
              · subst e1; exact hn w
              · exact z (Or.inr ⟨i, by omega, w⟩)
      have no2 : ¬ (t.testBit k = true ∧ M 45 k = 0 ∧ ¬ 0 ≤ M 47 k ∧ M 44 k = x) → (v = 0 → ∀ a_102 : Int32, a_102 = nI k + 1 → K2 (M, L, x, 0, a_102)) ∧ (¬ v = 0 → ((0 : Int32) = 0 → ∀ a_102 : Int32, a_102 = nI k + 1 → K2 (M, L, x, 1, a_102)) ∧ (¬ (0 : Int32) = 0 → vp_in (nI k) 8 ∧ ((M 44 k = x → ∀ a_102 : Int32, a_102 = nI k + 1 → K2 (M, L, x, 0, a_102)) ∧ (¬ M 44 k = x → ∀ a_102 : Int32, a_102 = nI k + 1 → K2 (M, L, x, 1, a_102))))) := fun hn => ⟨(no hn).1, fun nv => bt_ rfl ((no hn).2 nv)⟩
      refine pk_le 8 k (fun h => by omega) (fun _ => sX9_isFlake_k et ht hk (fun hb => c1 ⟨vk, fun q1 => no2 (fun z => q1 z.2.1), fun q1 => ⟨vk, fun q2 => no2 (fun z => z.2.2.1 q2), fun q2 => ?_⟩⟩) (fun hb => c0 (no2 (fun z => absurd (hb.symm.trans z.1) (by decide)))))
      by_cases q3 : M 44 k = x
      · have yes : ∀ a_102 : Int32, a_102 = nI k + 1 → K2 (M, L, x, 0, a_102) := fun a ha => hK _ ⟨0, by rw [ha, nI_1], Or.inl ⟨rfl, Or.inr ⟨k, by omega, hb, q1, q2, q3⟩⟩⟩
        exact ⟨fun _ => yes, fun nv => bf_ (by decide) ⟨vk, fun _ => yes, fun z => absurd q3 z⟩⟩
      · have n3 := no (fun z => q3 z.2.2.2)
        exact ⟨n3.1, fun nv => bf_ (by decide) ⟨vk, fun z => absurd z q3, fun _ => n3.2 nv⟩⟩
    · rintro K2 _ ⟨v, rfl, hv⟩
      show wpX9_isFree_38 post _ M L x v (nI 8)
      unfold wpX9_isFree_38
      refine pk_le 8 8 (fun _ => ?_) (fun h => by omega)
      rcases hv with ⟨rfl, z⟩ | ⟨rfl, z⟩
      · exact ⟨Or.inl rfl, h0 z⟩
      · exact ⟨Or.inr rfl, h1 z⟩
theorem taken_trod {t u p : Nat} (hY : YD 14 (vM M) t u M) (hp : p < 16) : taken M t (nI p) ↔ trod M t p := by
  have hF := hY.2.2.2.2.2.1
  have hO := hY.2.2.2.2.2.2.1
  have n6 : ¬ nI p = -6 := nlt_m6 (n := 16) (by decide) ⟨p, hp, rfl⟩
  unfold taken trod
  constructor
  · rintro (⟨e, he, h1⟩ | ⟨k, hk, h1, h2, h3, h4⟩)
    · have o1 : M 48 e = M 20 e := (hO e he).1
      exact Or.inl ⟨e, he, by rw [← o1]; exact h1⟩
    · obtain ⟨⟨-, v2, v3, -, v5⟩, hg⟩ := (hF k hk).1 h1
      have v2 : M 44 k = M 16 k := v2
      have v3 : M 45 k = M 17 k := v3
      have v5 : M 47 k = M 19 k := v5
      have g5 : M 19 k = -6 ∨ zlt 6 (M 19 k) := hg.2.2.2.2.1
      rw [v2] at h4
      rw [v3] at h2
      rw [v5] at h3
      refine Or.inr ⟨k, hk, h1, by rw [h2]; decide, by rw [h4]; exact n6, ?_, h4⟩
      exact g5.resolve_right (fun z => h3 (nlt_0 (by decide) z))
  · rintro (⟨e, he, h1⟩ | ⟨k, hk, h1, h2, h3, h4, h5⟩)
    · have o1 : M 48 e = M 20 e := (hO e he).1
      exact Or.inl ⟨e, he, by rw [o1]; exact h1⟩
    · obtain ⟨⟨-, v2, v3, -, v5⟩, hg⟩ := (hF k hk).1 h1
      have v2 : M 44 k = M 16 k := v2
      have v3 : M 45 k = M 17 k := v3
      have v5 : M 47 k = M 19 k := v5
      have g3 : zlt 10 (M 17 k) := hg.2.2.1
      refine Or.inr ⟨k, hk, h1, ?_, by rw [v5, h4]; decide, by rw [v2]; exact h5⟩
      rw [v3]
      obtain ⟨a, ha, ea⟩ := g3
      rw [ea] at h2 ⊢
      cases a with
      | zero => rfl
      | succ a => exact absurd h2 (nI_nle (by omega) (by omega))
/-- first, widest, wide -/
def pfr (f : Nat → Bool) : Nat → Int32 × Int32 × Int32
  | 0 => (-6, 0, 0)
  | k + 1 => if (if f k then (pfr f k).2.2 + 1 else 0) ≤ (pfr f k).2.1 then ((pfr f k).1, (pfr f k).2.1, if f k then (pfr f k).2.2 + 1 else 0) else (nI k - (if f k then (pfr f k).2.2 + 1 else 0) + 1, (if f k then (pfr f k).2.2 + 1 else 0), (if f k then (pfr f k).2.2 + 1 else 0))
theorem pr_patch (hR : RI M) {x : Int32} (h : ∀ r M1 L1, agr (wpX9_patch x) r M1 L1 → post r M1 L1) : wpX8_patch x M L post := by
  obtain ⟨⟨t, u, hY⟩, -⟩ := id hR
  have ht := hY.1
  have e14 : M 14 0 = nI t := hY.2.2.1
  have e42 : M 42 0 = nI t := hY.2.2.2.1
  unfold wpX8_patch
  refine sX8_isBelow 2 (fun hx => b1 ?_) (fun hout => b0 (h _ _ _ (fun p2 hp => ?_)))
  rotate_left
  · unfold wpX9_patch
    exact sX9_in 0 1 (fun z => absurd ⟨z.1, by omega⟩ hout) (fun _ => b0 (hp _ _ hR))
  refine sX7_trodden ht e14 (fun e he => (hY.2.2.2.2.2.2.1 e he).2.1) (fun k hk hb => ((hY.2.2.2.2.2.1 k hk).1 hb).2.2.1.imp id (fun z => z.1)) (fun T hT hTb => ?_)
  obtain ⟨f, hf⟩ : ∃ f : Nat → Bool, f = fun p => !T.testBit p := ⟨_, rfl⟩
  obtain ⟨st, hst⟩ : ∃ st, st = pfr f := ⟨_, rfl⟩
  have s0 : st 0 = (-6, 0, 0) := by rw [hst]; rfl
  have ss : ∀ k, st (k + 1) = if (if f k then (st k).2.2 + 1 else 0) ≤ (st k).2.1 then ((st k).1, (st k).2.1, if f k then (st k).2.2 + 1 else 0) else (nI k - (if f k then (st k).2.2 + 1 else 0) + 1, (if f k then (st k).2.2 + 1 else 0), (if f k then (st k).2.2 + 1 else 0)) := fun k => by rw [hst]; rfl
  clear hst
  unfold wlX8_patch_31
  refine zlp_forI 16 (fun k s => s = (M, L, x, nI T, (st k).1, (st k).2.1, (st k).2.2, nI k)) (by rw [s0]; rfl) ?_ ?_
  · rintro k K _ hk rfl hK
    have hK := hK _ rfl
    show wpX8_patch_31 post _ M L x (nI T) (st k).1 (st k).2.1 (st k).2.2 (nI k)
    unfold wpX8_patch_31 wpX8_patch_56 wpX8_patch_77
    rw [ss] at hK
    have h2 : ∀ (w : Int32), w = (if f k then (st k).2.2 + 1 else 0) → (w ≤ (st k).2.1 → ∀ a_77 : Int32, a_77 = nI k + 1 → K (M, L, x, nI T, (st k).1, (st k).2.1, w, a_77)) ∧ (¬ (w ≤ (st k).2.1) → ∀ a_76 : Int32, a_76 = (nI k - w) + (1 : Int32) → ∀ a_77 : Int32, a_77 = nI k + 1 → K (M, L, x, nI T, a_76, w, w, a_77)) := by
      intro w hw
      rw [← hw] at hK
      refine ⟨fun q a ha => ?_, fun q b eb a ha => ?_⟩
      · rw [if_pos q] at hK
        rw [ha, nI_1]; exact hK
      · rw [if_neg q] at hK
        rw [ha, nI_1, eb]; exact hK
    refine pk_le 16 k (fun h => by omega) (fun _ => sX8_bit (by omega) (by omega) ?_)
    cases hb : T.testBit k with
    | true => exact nt_ rfl (h2 _ (by rw [hf]; simp [hb]))
    | false => exact nf_ (by decide) (h2 _ (by rw [hf]; simp [hb]))
  · rintro K _ rfl
    show wpX8_patch_31 post _ M L x (nI T) (st 16).1 (st 16).2.1 (st 16).2.2 (nI 16)
    unfold wpX8_patch_31 wpX8_patch_93
    have key : ∀ v, (∀ p2 : Int32 → Mm → Ml → Prop, p2 v M L → ((¬ x = 0 → p2 (st 16).1 M L) ∧ (x = 0 → p2 (st 16).2.1 M L))) → agr (wpX9_patch x) v M L := by
      intro v hv p2 hp
      unfold wpX9_patch
      refine sX9_in 0 1 (fun _ => b1 ?_) (fun z => absurd ⟨hx.1, by omega⟩ z)
      unfold wlX9_patch_24
      refine zlp_forI 16 (fun k s => s = (M, L, x, (st k).2.1, (st k).1, (st k).2.2, nI k)) (by rw [s0]; rfl) ?_ ?_
      · rintro k K _ hk rfl hK
        have hK := hK _ rfl
        show wpX9_patch_24 p2 _ M L x (st k).2.1 (st k).1 (st k).2.2 (nI k)
        unfold wpX9_patch_24 wpX9_patch_48 wpX9_patch_67 wpX9_patch_80
        rw [ss] at hK
        have h2 : ∀ (w : Int32), w = (if f k then (st k).2.2 + 1 else 0) → (w ≤ (st k).2.1 → (w ≤ (st k).2.1 → ∀ a_81 : Int32, a_81 = nI k + 1 → K (M, L, x, (st k).2.1, (st k).1, w, a_81)) ∧ (¬ (w ≤ (st k).2.1) → ∀ a_81 : Int32, a_81 = nI k + 1 → K (M, L, x, w, (st k).1, w, a_81))) ∧ (¬ (w ≤ (st k).2.1) → (w ≤ (st k).2.1 → ∀ a_81 : Int32, a_81 = nI k + 1 → K (M, L, x, (st k).2.1, (nI k - w) + 1, w, a_81)) ∧ (¬ (w ≤ (st k).2.1) → ∀ a_81 : Int32, a_81 = nI k + 1 → K (M, L, x, w, (nI k - w) + 1, w, a_81))) := by
          intro w hw
          rw [← hw] at hK
          refine ⟨fun q => bt_ q (fun a ha => ?_), fun q => bf_ q (fun a ha => ?_)⟩
          · rw [if_pos q] at hK
            rw [ha, nI_1]; exact hK
          · rw [if_neg q] at hK
            rw [ha, nI_1]; exact hK
        refine pk_le 16 k (fun h => by omega) (fun _ => sX9_isFree ht e42 (fun hn => c1 (h2 _ ?_)) (fun hn => c0 (h2 _ ?_)))
        · have : T.testBit k = false := by
            cases hb : T.testBit k with
            | false => rfl
            | true => exact absurd ((taken_trod hY hk).mpr ((hTb k hk).mp hb)) hn
          rw [hf]
          simp [this]
        · have := (hTb k hk).mpr ((taken_trod hY hk).mp hn)
          rw [hf]
          simp [this]
      · rintro K _ rfl
        show wpX9_patch_24 p2 _ M L x (st 16).2.1 (st 16).1 (st 16).2.2 (nI 16)
        unfold wpX9_patch_24 wpX9_patch_96
        exact pk_le 16 16 (fun _ => hv p2 (hp _ _ hR)) (fun h => by omega)
    refine pk_le 16 16 (fun _ => ⟨fun q => h _ _ _ (key _ (fun p2 hp => nf_ q hp)), fun q => h _ _ _ (key _ (fun p2 hp => nt_ q hp))⟩) (fun h => by omega)
end PATCH
