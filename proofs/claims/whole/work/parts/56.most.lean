/-! the most: the model, the pair -/
section MOSTC
variable {M : Mm} {L : Ml} {t u : Nat}
theorem subS_lt : ∀ s, s < 64 → ∀ i, s.testBit i = true → i < 6 := by
  intro s hs i hi
  by_cases h : i < 6
  · exact h
  · rw [Nat.testBit_lt_two_pow (Nat.lt_of_lt_of_le hs (Nat.pow_le_pow_right (n := 2) (by decide) (show 6 ≤ i by omega)))] at hi
    exact absurd hi (by decide)
theorem MBx_zero {g : Nat → Nat → Prop} {k v : Nat} (h : MBx (crd g k) 0 v) : MBx (crd g (k + 1)) 0 v := by
  have e : ∀ s, subS s 0 → s = 0 := fun s hs => by
    apply Nat.eq_of_testBit_eq
    intro i
    cases hq : s.testBit i with
    | false => simp
    | true => have := hs i hq; simp at this
  refine ⟨fun s h1 h2 h3 => ?_, ?_⟩
  · have := e s h2
    subst this
    refine h.1 0 h1 h2 ?_
    rcases h3 with z | ⟨e', z1, z2, z3, z4⟩
    · exact z
    · simp at z3
  · obtain ⟨s, a, b, c, d⟩ := h.2
    exact ⟨s, a, b, Or.inl c, d⟩
theorem sX9_addFlake {post : Mm → Ml → Prop} (hY : YD 14 (vM M) t u M) {k : Nat} (hk : k < 8) {N : Mm} (hN : ∀ a, a ≠ 59 → N a = M a) (h0 : ∀ S, S < 64 → ∃ v, N 59 S = nI v ∧ MBx (crd (cgt M) k) S v) (h : ∀ N', (∀ a, a ≠ 59 → N' a = M a) → (∀ S, S < 64 → ∃ v, N' 59 S = nI v ∧ MBx (crd (cgt M) (k + 1)) S v) → post N' L) : wpX9_addFlake (nI k) N L post := by
  unfold wpX9_addFlake wlX9_addFlake_3
  refine zlp_forI 63 (fun j s => ∃ N', s = (N', L, nI k, nI (63 - j)) ∧ (∀ a, a ≠ 59 → N' a = M a) ∧ (∀ S, S < 64 → S ≤ 63 - j → ∃ v, N' 59 S = nI v ∧ MBx (crd (cgt M) k) S v) ∧ (∀ S, S < 64 → 63 - j < S → ∃ v, N' 59 S = nI v ∧ MBx (crd (cgt M) (k + 1)) S v)) ⟨N, rfl, hN, fun S hS _ => h0 S hS, fun S hS hl => absurd hl (by omega)⟩ ?_ ?_
  · rintro j K _ hj ⟨N', rfl, h1, h2, h3⟩ hK
    obtain ⟨S, eS⟩ : ∃ S, S = 63 - j := ⟨_, rfl⟩
    rw [← eS] at h2 h3
    show wpX9_addFlake_3 post _ N' L (nI k) (nI (63 - j))
    rw [← eS]
    have hS : S < 64 := by omega
    have eS1 : 63 - (j + 1) = S - 1 := by omega
    unfold wpX9_addFlake_3
    rw [nI_clamp (n := S) (by omega)]
    have vS : vp_in (nI S) 64 := vp_in_nI hS (by decide)
    refine pk_le S 0 (fun h => by omega) (fun _ => ⟨vS, fun a ea => ?_⟩)
    obtain ⟨v0, ev0, hv0⟩ := h2 S hS (Nat.le_refl S)
    rw [ev0] at ea
    subst ea
    unfold wlX9_addFlake_17
    refine zlp_forI 6 (fun e s => ∃ b, s = (N', L, nI k, nI S, nI b, nI e) ∧ MBx (crx (cgt M) k e) S b) ⟨v0, rfl, MBx_iff (fun s => crx_0.symm) hv0⟩ ?_ ?_
    · rintro e K2 _ he ⟨b, rfl, hb⟩ hK2
      show wpX9_addFlake_17 post _ _ N' L (nI k) (nI S) (nI b) (nI e)
      unfold wpX9_addFlake_17 wpX9_addFlake_48 wpX9_addFlake_49 wpX9_addFlake_75 wpX9_addFlake_89
      have hb8 := MBx_le hb
      rw [z_bit (t := S) (by omega) (by omega), (z_rem6 S hS e he).1]
      obtain ⟨f1, f2, f3, f4, f5, f6⟩ := set_fx S hS e he
      rw [nI_clamp (n := S &&& (63 ^^^ 2 ^ e)) (by omega)]
      have stay : ¬ (S.testBit e = true ∧ cgt M e k) → ((0 : Int32) ≤ nI b → ∀ a_90 : Int32, a_90 = nI e + (1 : Int32) → K2 (N', L, nI k, nI S, nI b, a_90)) ∧ (¬ ((0 : Int32) ≤ nI b) → ∀ a_90 : Int32, a_90 = nI e + (1 : Int32) → K2 (N', L, nI k, nI S, 0, a_90)) := fun hn => bt_ (nI_pos' (by omega)) (fun w ew => hK2 _ ⟨b, by rw [ew, nI_1], MBx_same hb hn⟩)
      refine pk_le 6 e (fun h => by omega) (fun _ => ?_)
      cases hbe : S.testBit e with
      | false => exact nf_ (by decide) (c0 (stay (fun z => by rw [hbe] at z; exact absurd z.1 (by decide))))
      | true =>
        refine nt_ rfl (sX9_canGet hY he hk (fun a h1' h2' => h1 a (by omega)) (fun hg => c1 (c1 ⟨vp_in_nI f1 (by decide), ?_⟩)) (fun hg => c0 (c0 (stay (fun z => hg z.2)))))
        have f7 := f5 hbe
        obtain ⟨w, ew, hw⟩ := h2 _ f1 (by omega)
        have hw8 := MBx_le hw
        rw [ew, nI_1]
        have hm := MBx_more hS he hb hw hbe hg
        have q1 : nI (w + 1) ≤ nI b ↔ w + 1 ≤ b := nI_leI (by omega) (by omega)
        refine ⟨fun q z ez => hK2 _ ⟨b, by show (N', L, nI k, nI S, nI b, z) = _; rw [ez, nI_1], ?_⟩, fun q z ez => hK2 _ ⟨w + 1, by show (N', L, nI k, nI S, nI (w + 1), z) = _; rw [ez, nI_1], ?_⟩⟩
        · rw [if_pos (q1.mp q)] at hm; exact hm
        · rw [if_neg (fun y => q (q1.mpr y))] at hm; exact hm
    · rintro K2 _ ⟨b, rfl, hb⟩
      show wpX9_addFlake_17 post _ _ N' L (nI k) (nI S) (nI b) (nI 6)
      unfold wpX9_addFlake_17
      rw [nI_clamp (n := S) (by omega)]
      refine pk_le 6 6 (fun _ => ⟨vS, fun N2 e2 z ez => hK _ ⟨N2, ?_, fun a ha => by rw [e2, zs_ne ha]; exact h1 a ha, fun S' hS' hl => ?_, fun S' hS' hl => ?_⟩⟩) (fun h => by omega)
      · rw [ez, i32_m1, eS1]
        obtain ⟨m, hm⟩ : ∃ m, S = m + 1 := ⟨S - 1, by omega⟩
        rw [hm, nI_pred]
        rfl
      · rw [eS1] at hl
        rw [e2, zs_at, if_neg (by omega)]
        exact h2 S' hS' (by omega)
      · rw [eS1] at hl
        rw [e2, zs_at]
        by_cases q : S' = S
        · rw [if_pos q, q]
          exact ⟨b, rfl, MBx_iff (fun s => crx_6) hb⟩
        · rw [if_neg q]; exact h3 S' hS' (by omega)
  · rintro K _ ⟨N', rfl, h1, h2, h3⟩
    show wpX9_addFlake_3 post _ N' L (nI k) (nI (63 - 63))
    unfold wpX9_addFlake_3
    refine pk_le 0 0 (fun _ => h N' h1 (fun S hS => ?_)) (fun h => by omega)
    by_cases q : S = 0
    · obtain ⟨v, ev, hv⟩ := h2 S hS (by omega)
      subst q
      exact ⟨v, ev, MBx_zero hv⟩
    · exact h3 S hS (by omega)
theorem sX9_mostAll {post : Int32 → Mm → Ml → Prop} (hY : YD 14 (vM M) t u M) (h : ∀ N v, (∀ a, a ≠ 59 → N a = M a) → MBx (crd (cgt M) 8) 63 v → post (nI v) N L) : ∃ j9 : Nat, wlX9_most_53 post j9 (M, L, (0 : Int32)) := by
  unfold wlX9_most_53
  refine zlp_forI 64 (fun k s => ∃ N, s = (N, L, nI k) ∧ (∀ a, a ≠ 59 → N a = M a) ∧ ∀ S, S < k → N 59 S = 0) ⟨M, rfl, fun _ _ => rfl, fun S hS => absurd hS (by omega)⟩ ?_ ?_
  · rintro k K _ hk ⟨N, rfl, h1, h2⟩ hK
    show wpX9_most_53 post _ N L (nI k)
    unfold wpX9_most_53
    rw [nI_clamp (n := k) (by omega)]
    refine pk_le 64 k (fun h => by omega) (fun _ => ⟨vp_in_nI hk (by decide), fun N2 e2 w ew => hK _ ⟨N2, by show (N2, L, w) = _; rw [ew, nI_1], fun a ha => by rw [e2, zs_ne ha]; exact h1 a ha, fun S hS => ?_⟩⟩)
    rw [e2, zs_at]
    by_cases q : S = k
    · rw [if_pos q]
    · rw [if_neg q]; exact h2 S (by omega)
  · rintro K _ ⟨N, rfl, h1, h2⟩
    show wpX9_most_53 post _ N L (nI 64)
    unfold wpX9_most_53
    refine pk_le 64 64 (fun _ => ?_) (fun h => by omega)
    unfold wlX9_most_74
    refine zlp_forI 8 (fun k s => ∃ N, s = (N, L, nI k) ∧ (∀ a, a ≠ 59 → N a = M a) ∧ ∀ S, S < 64 → ∃ v, N 59 S = nI v ∧ MBx (crd (cgt M) k) S v) ⟨N, rfl, h1, fun S hS => ⟨0, h2 S hS, fun s a b c => by have c : s = 0 := c; rw [c]; decide, 0, by decide, fun i hi => by simp at hi, rfl, rfl⟩⟩ ?_ ?_
    · rintro k K2 _ hk ⟨N, rfl, h1, h2⟩ hK
      show wpX9_most_74 post _ N L (nI k)
      unfold wpX9_most_74 wpX9_most_93
      have e42 : N 42 0 = nI t := by rw [h1 42 (by decide)]; exact hY.2.2.2.1
      refine pk_le 8 k (fun h => by omega) (fun _ => sX9_isAbove e42 hY.1 hk (fun hz => c1 (sX9_addFlake hY hk h1 h2 (fun N' g1 g2 w ew => hK _ ⟨N', by show (N', L, w) = _; rw [ew, nI_1], g1, g2⟩))) (fun hz => c0 (fun w ew => hK _ ⟨N, by show (N, L, w) = _; rw [ew, nI_1], h1, fun S hS => ?_⟩)))
      obtain ⟨v, ev, hv⟩ := h2 S hS
      refine ⟨v, ev, MBx_iff (fun s => ⟨Or.inl, fun z => z.elim id (fun ⟨e, he, hg, _⟩ => ?_)⟩) hv⟩
      exfalso
      have hF := hY.2.2.2.2.2.1 k hk
      cases hb : t.testBit k with
      | false =>
        have e3 : M 17 k = 0 := hF.2 hb
        exact hg.1 (by rw [e3]; decide)
      | true =>
        have v3 : N 45 k = M 17 k := by rw [h1 45 (by decide)]; exact (hF.1 hb).1.2.2.1
        unfold zab at hz
        rw [hb, v3, decide_eq_true hg.1] at hz
        exact absurd hz (by decide)
    · rintro K2 _ ⟨N, rfl, h1, h2⟩
      show wpX9_most_74 post _ N L (nI 8)
      unfold wpX9_most_74
      have e63 : (63 : Int32).toNatClampNeg = 63 := rfl
      rw [e63]
      obtain ⟨v, ev, hv⟩ := h2 63 (by decide)
      rw [ev]
      exact pk_le 8 8 (fun _ => ⟨vp_in_nI (n := 63) (by decide) (by decide), h N v h1 hv⟩) (fun h => by omega)
theorem pr_most {post : Int32 → Mm → Ml → Prop} (hR : RI M) {x : Int32} (h : ∀ r M1 L1, agr (wpX9_most x) r M1 L1 → post r M1 L1) : wpX8_most x M L post := by
  obtain ⟨⟨t, u, hY⟩, -⟩ := id hR
  unfold wpX8_most wpX8_most_32
  refine sX8_isBelow 2 (fun hx => b1 ?_) (fun hout => b0 (h _ _ _ (fun p2 hp => ?_)))
  rotate_left
  · unfold wpX9_most
    exact sX9_in 0 1 (fun z => absurd ⟨z.1, by omega⟩ hout) (fun _ => b0 (hp _ _ hR))
  refine ⟨fun nx => sX1_byWhoever hY (fun m h1 h2 => h _ _ _ (fun p2 hp => ?_)), fun ex => sX1_byAddressees hY (fun T hT hb => h _ _ _ (fun p2 hp => ?_))⟩
  · unfold wpX9_most
    refine sX9_in 0 1 (fun _ => b1 (nf_ nx (sX9_mostAll hY (fun N v g1 g2 => ?_)))) (fun z => absurd ⟨hx.1, by omega⟩ z)
    have e : v = m := by
      obtain ⟨s, a, b, c, d⟩ := g2.2
      have l1 := h1 s a c
      rcases h2 with e | ⟨r, r1, r2, r3⟩
      · omega
      · have := g2.1 r r1 (fun i hi => by
          have := subS_lt r r1 i hi
          exact (by decide +kernel : ∀ i, i < 6 → (63 : Nat).testBit i = true) i this) r2
        omega
    rw [e]
    exact hp _ _ (RI_same hR (fun a ha => g1 a (by unfold kp at ha; omega)) (by rw [g1 2 (by decide)]) (by rw [g1 42 (by decide)]) (by rw [g1 42 (by decide)]) (by rw [g1 42 (by decide)]))
  · unfold wpX9_most
    exact sX9_in 0 1 (fun _ => b1 (nt_ ex (sX9_mostOwn hY hb (hp _ _ hR)))) (fun z => absurd ⟨hx.1, by omega⟩ z)
end MOSTC
