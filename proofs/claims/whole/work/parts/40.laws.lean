/-! sights and laws -/
theorem and_sub {w x : Nat} : w &&& x = x ↔ ∀ i, x.testBit i = true → w.testBit i = true := by
  constructor
  · intro h i hi
    rw [← h, Nat.testBit_and, Bool.and_eq_true] at hi
    exact hi.1
  · intro h
    apply Nat.eq_of_testBit_eq
    intro i
    rw [Nat.testBit_and]
    cases hx : x.testBit i with
    | false => simp
    | true => rw [h i hx]; rfl
theorem and_no {w x : Nat} : w &&& x = 0 ↔ ∀ i, x.testBit i = true → w.testBit i = false := by
  constructor
  · intro h i hi
    have h1 : (w &&& x).testBit i = false := by rw [h]; simp
    rw [Nat.testBit_and, hi, Bool.and_true] at h1
    exact h1
  · intro h
    apply Nat.eq_of_testBit_eq
    intro i
    rw [Nat.testBit_and, Nat.zero_testBit]
    cases hx : x.testBit i with
    | false => simp
    | true => rw [h i hx]; rfl
/-- the law's bit that a cell asks for -/
def qb (a c : Nat) : Nat := 2 * a / 2 ^ c % 8
theorem qb_lt (a c : Nat) : qb a c < 8 := Nat.mod_lt _ (by decide)
theorem zgro_is {a w b : Nat} (hb : b < 256) : zgro a w = b ↔ ∀ c, c < 8 → w.testBit (qb a c) = b.testBit c := by
  constructor
  · intro h c hc
    rw [← h]
    unfold zgro
    rw [zbs_tb, decide_eq_true hc, Bool.true_and]
    rfl
  · intro h
    have e : zgro a w = zbs b.testBit 8 := zbs_cong (fun c hc => h c hc)
    rw [e, zbs_of (n := 8) hb]
theorem or_lt8 {T a : Nat} (h : T < 256) (ha : a < 8) : (T ||| 2 ^ a) < 256 := by
  have : T ||| 2 ^ a < 2 ^ 8 := Nat.or_lt_two_pow h (Nat.pow_lt_pow_right (by decide) ha)
  exact this
section LAWS
variable {M : Mm} {L : Ml}
theorem sX7_addSight {a b n hs lk : Nat} {post : Mm → Ml → Prop} (ha : a < 256) (hb : b < 256) (hhs : hs < 256) (hlk : lk < 256) (e10 : M 14 10 = nI n) (e11 : M 14 11 = nI hs) (e12 : M 14 12 = nI lk) (h : ∀ M' H K, H < 256 → K < 256 → (∀ i, i ≠ 14 → M' i = M i) → (∀ j, j ≠ 10 → j ≠ 11 → j ≠ 12 → M' 14 j = M 14 j) → M' 14 10 = nI (n + 1) → M' 14 11 = nI H → M' 14 12 = nI K → (∀ i, H.testBit i = true ↔ hs.testBit i = true ∨ ∃ c, c < 8 ∧ b.testBit c = true ∧ i = qb a c) → (∀ i, K.testBit i = true ↔ lk.testBit i = true ∨ ∃ c, c < 8 ∧ b.testBit c = false ∧ i = qb a c) → post M' L) : wpX7_addSight 14 (nI a) (nI b) M L post := by
  unfold wpX7_addSight wlX7_addSight_2
  refine zlp_forI 8 (fun k s => ∃ M' H K, s = (M', L, nI a, nI b, nI k) ∧ H < 256 ∧ K < 256 ∧ (∀ i, i ≠ 14 → M' i = M i) ∧ (∀ j, j ≠ 11 → j ≠ 12 → M' 14 j = M 14 j) ∧ M' 14 11 = nI H ∧ M' 14 12 = nI K ∧ (∀ i, H.testBit i = true ↔ hs.testBit i = true ∨ ∃ c, c < k ∧ b.testBit c = true ∧ i = qb a c) ∧ (∀ i, K.testBit i = true ↔ lk.testBit i = true ∨ ∃ c, c < k ∧ b.testBit c = false ∧ i = qb a c)) ⟨M, hs, lk, rfl, hhs, hlk, fun _ _ => rfl, fun _ _ _ => rfl, e11, e12, fun i => ⟨Or.inl, fun z => z.elim id (fun ⟨c, hc, _⟩ => absurd hc (by omega))⟩, fun i => ⟨Or.inl, fun z => z.elim id (fun ⟨c, hc, _⟩ => absurd hc (by omega))⟩⟩ ?_ ?_
  · rintro k KK _ hk ⟨M', H, K, rfl, h1, h2, h3, h4, h5, h6, h7, h8⟩ hK
    show wpX7_addSight_2 14 post _ M' L (nI a) (nI b) (nI k)
    unfold wpX7_addSight_2 wpX7_addSight_51
    have hq : qb a k < 8 := qb_lt a k
    refine pk_le 8 k (fun h => by omega) (fun _ => sX3_around ha hk (fun v ev => ?_))
    have ev : v = nI (2 ^ qb a k) := by rw [ev]; exact z_shl (by omega)
    refine sX8_bit (by omega) (by omega) ?_
    cases hbk : b.testBit k with
    | true =>
      refine nt_ rfl (fun M2 e2 w ew => ?_)
      rw [h5, ev, fa_or] at e2
      refine hK _ ⟨M2, H ||| 2 ^ qb a k, K, by show (M2, L, nI a, nI b, w) = _; rw [ew, nI_1], or_lt8 h1 hq, h2, fun i hi => by rw [e2, zs_ne hi]; exact h3 i hi, fun j q1 q2 => by rw [e2, zs_nj q1]; exact h4 j q1 q2, by rw [e2, zs_eq], by rw [e2, zs_nj (by decide)]; exact h6, fun i => ?_, fun i => ?_⟩
      · rw [or_bit, h7]
        constructor
        · rintro ((z | ⟨c, z1, z2, z3⟩) | z)
          · exact Or.inl z
          · exact Or.inr ⟨c, by omega, z2, z3⟩
          · exact Or.inr ⟨k, by omega, hbk, z⟩
        · rintro (z | ⟨c, z1, z2, z3⟩)
          · exact Or.inl (Or.inl z)
          · by_cases q : c = k
            · subst q; exact Or.inr z3
            · exact Or.inl (Or.inr ⟨c, by omega, z2, z3⟩)
      · rw [h8]
        constructor
        · rintro (z | ⟨c, z1, z2, z3⟩)
          · exact Or.inl z
          · exact Or.inr ⟨c, by omega, z2, z3⟩
        · rintro (z | ⟨c, z1, z2, z3⟩)
          · exact Or.inl z
          · by_cases q : c = k
            · subst q; rw [hbk] at z2; exact absurd z2 (by decide)
            · exact Or.inr ⟨c, by omega, z2, z3⟩
    | false =>
      refine nf_ (by decide) (fun M2 e2 w ew => ?_)
      rw [h6, ev, fa_or] at e2
      refine hK _ ⟨M2, H, K ||| 2 ^ qb a k, by show (M2, L, nI a, nI b, w) = _; rw [ew, nI_1], h1, or_lt8 h2 hq, fun i hi => by rw [e2, zs_ne hi]; exact h3 i hi, fun j q1 q2 => by rw [e2, zs_nj q2]; exact h4 j q1 q2, by rw [e2, zs_nj (by decide)]; exact h5, by rw [e2, zs_eq], fun i => ?_, fun i => ?_⟩
      · rw [h7]
        constructor
        · rintro (z | ⟨c, z1, z2, z3⟩)
          · exact Or.inl z
          · exact Or.inr ⟨c, by omega, z2, z3⟩
        · rintro (z | ⟨c, z1, z2, z3⟩)
          · exact Or.inl z
          · by_cases q : c = k
            · subst q; rw [hbk] at z2; exact absurd z2 (by decide)
            · exact Or.inr ⟨c, by omega, z2, z3⟩
      · rw [or_bit, h8]
        constructor
        · rintro ((z | ⟨c, z1, z2, z3⟩) | z)
          · exact Or.inl z
          · exact Or.inr ⟨c, by omega, z2, z3⟩
          · exact Or.inr ⟨k, by omega, hbk, z⟩
        · rintro (z | ⟨c, z1, z2, z3⟩)
          · exact Or.inl (Or.inl z)
          · by_cases q : c = k
            · subst q; exact Or.inr z3
            · exact Or.inl (Or.inr ⟨c, by omega, z2, z3⟩)
  · rintro KK _ ⟨M', H, K, rfl, h1, h2, h3, h4, h5, h6, h7, h8⟩
    show wpX7_addSight_2 14 post _ M' L (nI a) (nI b) (nI 8)
    unfold wpX7_addSight_2
    refine pk_le 8 8 (fun _ M2 e2 => ?_) (fun h => by omega)
    rw [h4 10 (by decide) (by decide), e10, nI_1] at e2
    exact h M2 H K h1 h2 (fun i hi => by rw [e2, zs_ne hi]; exact h3 i hi) (fun j q0 q1 q2 => by rw [e2, zs_nj q0]; exact h4 j q1 q2) (by rw [e2, zs_eq]) (by rw [e2, zs_nj (by decide)]; exact h5) (by rw [e2, zs_nj (by decide)]; exact h6) h7 h8
/-- only the sights are new -/
theorem RI_sights {P : Mm} (h : RI M) (hc : ∀ a, a ≠ 14 → a ≠ 42 → a ≠ 51 → a ≠ 52 → P a = M a) (hj : ∀ j, j ≠ 10 → j ≠ 11 → j ≠ 12 → P 14 j = M 14 j) (hm : ∀ j, j ≠ 11 → P 42 j = M 42 j) (hS : YS 14 P (vM P)) : RI P := by
  obtain ⟨⟨t, u, ht, hu, h0, hv0, h7, hF, hO, hA, -⟩, -⟩ := id h
  refine RI_yard h ⟨t, u, ht, hu, by rw [hj 0 (by decide) (by decide) (by decide)]; exact h0, ?_, by rw [hj 7 (by decide) (by decide) (by decide)]; exact h7, ?_, ?_, ?_, hS⟩ (fun a ha => hc a (by omega) (by omega) (by omega) (by omega)) (hm 13 (by decide))
  · show P 42 0 = nI t
    rw [hm 0 (by decide)]; exact hv0
  · intro i hi
    have hf := hF i hi
    show (t.testBit i = true → (P 43 i = P 15 i ∧ P 44 i = P 16 i ∧ P 45 i = P 17 i ∧ P 46 i = P 18 i ∧ P 47 i = P 19 i) ∧ FRg (P 15 i) (P 16 i) (P 17 i) (P 18 i) (P 19 i)) ∧ (t.testBit i = false → P 17 i = 0)
    rw [hc 43 (by decide) (by decide) (by decide) (by decide), hc 44 (by decide) (by decide) (by decide) (by decide), hc 45 (by decide) (by decide) (by decide) (by decide), hc 46 (by decide) (by decide) (by decide) (by decide), hc 47 (by decide) (by decide) (by decide) (by decide), hc 15 (by decide) (by decide) (by decide) (by decide), hc 16 (by decide) (by decide) (by decide) (by decide), hc 17 (by decide) (by decide) (by decide) (by decide), hc 18 (by decide) (by decide) (by decide) (by decide), hc 19 (by decide) (by decide) (by decide) (by decide)]
    exact hf
  · intro e he
    have := hO e he
    show P 48 e = P 20 e ∧ zlt 16 (P 20 e) ∧ P 49 e = _
    rw [hc 48 (by decide) (by decide) (by decide) (by decide), hc 49 (by decide) (by decide) (by decide) (by decide), hc 20 (by decide) (by decide) (by decide) (by decide)]; exact this
  · show P 50 0 = P 14 8 ∧ P 50 1 = P 14 9 ∧ zlt 256 (P 14 8) ∧ zlt 256 (P 14 9)
    rw [hj 8 (by decide) (by decide) (by decide), hj 9 (by decide) (by decide) (by decide), hc 50 (by decide) (by decide) (by decide) (by decide)]; exact hA
theorem pr_seen {post : Int32 → Mm → Ml → Prop} (hR : RI M) {x y : Int32} (h : ∀ r M1 L1, agr (wpX9_seen x y) r M1 L1 → post r M1 L1) : wpX8_seen x y M L post := by
  obtain ⟨⟨t, u, -, -, -, -, -, -, -, -, n, hs, lk, s1, s2, s3, s4, s5, s6, s7, s8, s9⟩, -⟩ := id hR
  have s5 : M 42 11 = nI n := s5
  unfold wpX8_seen wpX8_seen_20
  refine sX8_isBelow 256 (fun hx => c1 ?_) (fun hout => c0 (h _ _ _ (fun p2 hp => ?_)))
  rotate_left
  · unfold wpX9_seen wpX9_seen_14
    exact sX9_isArm (fun z => absurd z hout) (fun _ => c0 (hp _ _ hR))
  refine sX8_isBelow 256 (fun hy => b1 ?_) (fun hout => b0 (h _ _ _ (fun p2 hp => ?_)))
  rotate_left
  · unfold wpX9_seen wpX9_seen_14
    exact sX9_isArm (fun _ => c1 (sX9_isArm (fun z => absurd z hout) (fun _ => b0 (hp _ _ hR)))) (fun z => absurd hx z)
  rw [s4]
  have q8 : (nI n < (8 : Int32)) ↔ n < 8 := nI_ltI (b := 8) (by omega) (by decide)
  refine ⟨fun hlt => ?_, fun hge => h _ _ _ (fun p2 hp => ?_)⟩
  · have hn : n < 8 := q8.mp hlt
    obtain ⟨a, ha, rfl⟩ := z_rng (n := 256) hx (by decide)
    obtain ⟨b, hb, rfl⟩ := z_rng (n := 256) hy (by decide)
    refine sX7_addSight ha hb s2 s3 s4 s6 s7 (fun A H K g1 g2 g3 g4 g5 g6 g7 g8 g9 => h _ _ _ (fun p2 hp => ?_))
    unfold wpX9_seen
    have en : (nI n).toNatClampNeg = n := nI_clamp (by omega)
    refine sX9_isArm (fun _ => c1 (sX9_isArm (fun _ => b1 ?_) (fun z => absurd hy z))) (fun z => absurd hx z)
    rw [g3 42 (by decide), s5, en]
    refine nf_ (fun z => absurd (nI_inj (a := n) (b := 8) (by omega) (by decide) z) (by omega)) ⟨vp_in_nI hn (by decide), fun B1 f1 => ?_⟩
    have b42 : B1 42 11 = nI n := by rw [f1, zs_ne (by decide), g3 42 (by decide)]; exact s5
    rw [b42, en]
    refine ⟨vp_in_nI hn (by decide), fun B2 f2 B3 f3 => ?_⟩
    have b42' : B2 42 = M 42 := by rw [f2, zs_ne (by decide), f1, zs_ne (by decide), g3 42 (by decide)]
    rw [b42', s5, nI_1] at f3
    have o11 : B3 42 11 = nI (n + 1) := by rw [f3, zs_eq]
    have oj : ∀ j, j ≠ 11 → B3 42 j = M 42 j := fun j hj => by rw [f3, zs_nj hj, b42']
    have o14 : B3 14 = A 14 := by rw [f3, zs_ne (by decide), f2, zs_ne (by decide), f1, zs_ne (by decide)]
    have o51 : ∀ j, B3 51 j = if j = n then nI a else M 51 j := fun j => by rw [f3, zs_ne (by decide), f2, zs_ne (by decide), f1, zs_at, g3 51 (by decide)]
    have o52 : ∀ j, B3 52 j = if j = n then nI b else M 52 j := fun j => by rw [f3, zs_ne (by decide), f2, zs_at, f1, zs_ne (by decide), g3 52 (by decide)]
    have er : B3 42 11 = A 14 10 := by rw [o11, g5]
    rw [er]
    refine hp _ _ (RI_sights hR (fun i h1 h2 h3 h4 => by rw [f3, zs_ne h2, f2, zs_ne h4, f1, zs_ne h3]; exact g3 i h1) (fun j h1 h2 h3 => by rw [o14]; exact g4 j h1 h2 h3) oj ⟨n + 1, H, K, by omega, g1, g2, by rw [o14]; exact g5, o11, by rw [o14]; exact g6, by rw [o14]; exact g7, fun e he => ?_, fun w hw => ?_⟩)
    · show zlt 256 (B3 51 e) ∧ zlt 256 (B3 52 e)
      rw [o51, o52]
      by_cases q : e = n
      · rw [if_pos q, if_pos q]; exact ⟨⟨a, ha, rfl⟩, ⟨b, hb, rfl⟩⟩
      · rw [if_neg q, if_neg q]; exact s8 e (by omega)
    · show (w &&& H = H ∧ w &&& K = 0) ↔ ∀ e, e < n + 1 → zg32 (B3 51 e) (nI w) = B3 52 e
      have hold := s9 w hw
      have hold : (w &&& hs = hs ∧ w &&& lk = 0) ↔ ∀ e, e < n → zg32 (M 51 e) (nI w) = M 52 e := hold
      have hnew : (∀ e, e < n + 1 → zg32 (B3 51 e) (nI w) = B3 52 e) ↔ (∀ e, e < n → zg32 (M 51 e) (nI w) = M 52 e) ∧ zgro a w = b := by
        constructor
        · intro z
          refine ⟨fun e he => ?_, ?_⟩
          · have := z e (by omega)
            rw [o51, o52, if_neg (by omega), if_neg (by omega)] at this
            exact this
          · have := z n (by omega)
            rw [o51, o52, if_pos rfl, if_pos rfl, zg32_nI ha hw] at this
            exact nI_inj (by have := zgro_lt a w; omega) (by omega) this
        · rintro ⟨z1, z2⟩ e he
          rw [o51, o52]
          by_cases q : e = n
          · rw [if_pos q, if_pos q, zg32_nI ha hw, z2]
          · rw [if_neg q, if_neg q]; exact z1 e (by omega)
      rw [hnew, ← hold, zgro_is hb, and_sub, and_no, and_sub, and_no]
      constructor
      · rintro ⟨z1, z2⟩
        refine ⟨⟨fun i hi => z1 i ((g8 i).mpr (Or.inl hi)), fun i hi => z2 i ((g9 i).mpr (Or.inl hi))⟩, fun c hc => ?_⟩
        cases hbc : b.testBit c with
        | true => exact z1 _ ((g8 _).mpr (Or.inr ⟨c, hc, hbc, rfl⟩))
        | false => exact z2 _ ((g9 _).mpr (Or.inr ⟨c, hc, hbc, rfl⟩))
      · rintro ⟨⟨z1, z2⟩, z3⟩
        refine ⟨fun i hi => ?_, fun i hi => ?_⟩
        · rcases (g8 i).mp hi with q | ⟨c, hc, hbc, rfl⟩
          · exact z1 i q
          · rw [z3 c hc, hbc]
        · rcases (g9 i).mp hi with q | ⟨c, hc, hbc, rfl⟩
          · exact z2 i q
          · rw [z3 c hc, hbc]
  · have hn : n = 8 := by
      have : ¬ n < 8 := fun z => hge (q8.mpr z)
      omega
    unfold wpX9_seen
    refine sX9_isArm (fun _ => c1 (sX9_isArm (fun _ => b1 ?_) (fun z => absurd hy z))) (fun z => absurd hx z)
    rw [s5, hn]
    exact nt_ rfl (hp _ _ hR)
theorem pr_forget {post : Int32 → Mm → Ml → Prop} (hR : RI M) (h : ∀ r M1 L1, agr wpX9_forget r M1 L1 → post r M1 L1) : wpX8_forget M L post := by
  obtain ⟨⟨t, u, -, -, -, -, -, -, -, -, n, hs, lk, s1, s2, s3, s4, s5, s6, s7, s8, s9⟩, -⟩ := id hR
  have s5 : M 42 11 = nI n := s5
  unfold wpX8_forget
  refine fun a ea A1 f1 A2 f2 A3 f3 => h _ _ _ (fun p2 hp => ?_)
  unfold wpX9_forget
  intro b eb B g
  have a14 : ∀ j, A3 14 j = if j = 12 then 0 else if j = 11 then 0 else if j = 10 then 0 else M 14 j := fun j => by rw [f3, zs_at, f2, zs_at, f1, zs_at]
  have an : ∀ i, i ≠ 14 → A3 i = M i := fun i hi => by rw [f3, zs_ne hi, f2, zs_ne hi, f1, zs_ne hi]
  have e : b = a := by rw [eb, ea, an 42 (by decide), s4, s5]
  rw [e]
  have bn : ∀ i, i ≠ 42 → B i = A3 i := fun i hi => by rw [g, zs_ne hi]
  refine hp _ _ (RI_sights hR (fun i h1 h2 h3 h4 => by rw [bn i h2, an i h1]) (fun j h1 h2 h3 => by rw [bn 14 (by decide), a14, if_neg h3, if_neg h2, if_neg h1]) (fun j hj => by rw [g, zs_nj hj, an 42 (by decide)]) ⟨0, 0, 0, by decide, by decide, by decide, by rw [bn 14 (by decide), a14]; rfl, ?_, by rw [bn 14 (by decide), a14]; rfl, by rw [bn 14 (by decide), a14]; rfl, fun e he => absurd he (by omega), fun w hw => ?_⟩)
  · show B 42 11 = nI 0
    rw [g, zs_eq]; rfl
  · exact ⟨fun _ e he => absurd he (by omega), fun _ => ⟨Nat.and_zero w, Nat.and_zero w⟩⟩
/-- a law that fits, as the model has it -/
def fitM (M : Mm) (n w : Nat) : Prop := ∀ e, e < n → zg32 (M 51 e) (nI w) = M 52 e
theorem sX9_fits {post : Int32 → Mm → Ml → Prop} {n w : Nat} (hn : n ≤ 8) (hw : w < 256) (e11 : M 42 11 = nI n) (hz : ∀ e, e < n → zlt 256 (M 51 e)) (h1 : fitM M n w → post 1 M L) (h0 : ¬ fitM M n w → post 0 M L) : wpX9_fits (nI w) M L post := by
  unfold wpX9_fits wlX9_fits_4
  refine zlp_forI n (fun k s => ∃ v : Int32, s = (M, L, nI w, v, nI k) ∧ ((v = 1 ∧ fitM M k w) ∨ (v = 0 ∧ ¬ fitM M k w))) ⟨1, rfl, Or.inl ⟨rfl, fun e he => absurd he (by omega)⟩⟩ ?_ ?_
  · rintro k K _ hk ⟨v, rfl, hv⟩ hK
    have ek : (nI k).toNatClampNeg = k := nI_clamp (by omega)
    show wpX9_fits_4 post _ M L (nI w) v (nI k)
    unfold wpX9_fits_4 wpX9_fits_39 wpX9_fits_40
    rw [e11, ek]
    refine pk_le n k (fun h => by omega) (fun _ => ?_)
    rcases hv with ⟨rfl, hf⟩ | ⟨rfl, hf⟩
    · refine bf_ (by decide) ⟨vp_in_nI (by omega) (by decide), sX9_grown32 (hz k hk) ⟨w, hw, rfl⟩ ⟨vp_in_nI (by omega) (by decide), fun q a ha => hK _ ⟨0, by show (M, L, nI w, (0 : Int32), a) = _; rw [ha, nI_1], Or.inr ⟨rfl, fun z => q (z k (by omega))⟩⟩, fun q a ha => hK _ ⟨1, by show (M, L, nI w, (1 : Int32), a) = _; rw [ha, nI_1], Or.inl ⟨rfl, fun e he => ?_⟩⟩⟩⟩
      by_cases e1 : e = k
      · subst e1; exact q
      · exact hf e (by omega)
    · exact bt_ rfl (fun a ha => hK _ ⟨0, by show (M, L, nI w, (0 : Int32), a) = _; rw [ha, nI_1], Or.inr ⟨rfl, fun z => hf (fun e he => z e (by omega))⟩⟩)
  · rintro K _ ⟨v, rfl, hv⟩
    show wpX9_fits_4 post _ M L (nI w) v (nI n)
    unfold wpX9_fits_4
    rw [e11]
    refine pk_le n n (fun _ => ?_) (fun h => by omega)
    rcases hv with ⟨rfl, hf⟩ | ⟨rfl, hf⟩
    · exact ⟨Or.inr rfl, h1 hf⟩
    · exact ⟨Or.inl rfl, h0 hf⟩
theorem sX7_fits {post : Int32 → Mm → Ml → Prop} {hs lk w : Nat} (hhs : hs < 256) (hlk : lk < 256) (hw : w < 256) (e11 : M 14 11 = nI hs) (e12 : M 14 12 = nI lk) (h1 : (w &&& hs = hs ∧ w &&& lk = 0) → post 1 M L) (h0 : ¬ (w &&& hs = hs ∧ w &&& lk = 0) → post 0 M L) : wpX7_fits 14 (nI w) M L post := by
  unfold wpX7_fits wpX7_fits_26 wpX7_fits_27
  rw [e11, e12, fa_and, fa_and]
  have l1 : w &&& hs < 256 := Nat.lt_of_le_of_lt Nat.and_le_left hw
  have l2 : w &&& lk < 256 := Nat.lt_of_le_of_lt Nat.and_le_left hw
  refine ⟨fun q => ⟨Or.inl rfl, h0 (fun z => q (by rw [z.1]))⟩, fun q => ⟨fun q2 => ⟨Or.inl rfl, h0 (fun z => q2 (by rw [z.2]; rfl))⟩, fun q2 => ⟨Or.inr rfl, h1 ⟨nI_inj (by omega) (by omega) q, nI_inj (b := 0) (by omega) (by decide) q2⟩⟩⟩⟩
end LAWS
