/-! the arm to look at: both -/
theorem cab_all {hs lk a b : Nat} : zct (cab hs lk a b) 256 = 0 ∨ zct (cab hs lk a b) 256 = 2 ^ (8 - zpop (tq (hs ||| lk) a 8) 8) := by
  by_cases h : ∃ w, w < 256 ∧ cab hs lk a b w = true
  · obtain ⟨w, hw, h1⟩ := h
    exact Or.inr (cab_one hw h1)
  · refine Or.inl (zct_none (fun k hk => ?_))
    cases hq : cab hs lk a b k with
    | false => rfl
    | true => exact absurd ⟨k, hk, hq⟩ h
section LOOK
variable {M : Mm} {L : Ml} {post : Int32 → Mm → Ml → Prop}
theorem sX7_lawsLeftBy {hs lk a : Nat} (ha : a < 256) (hhs : hs < 256) (hlk : lk < 256) (e11 : M 14 11 = nI hs) (e12 : M 14 12 = nI lk) (h : post (nI (2 ^ (8 - zpop (tq (hs ||| lk) a 8) 8))) M L) : wpX7_lawsLeftBy 14 (nI a) M L post := by
  unfold wpX7_lawsLeftBy
  have ho : hs ||| lk < 256 := Nat.or_lt_two_pow (n := 8) hhs hlk
  rw [e11, e12, fa_or]
  intro v ev
  subst ev
  unfold wlX7_lawsLeftBy_12
  refine zlp_forI 8 (fun k s => s = (M, L, nI a, nI (tq (hs ||| lk) a k), nI k)) rfl ?_ ?_
  · rintro k K _ hk rfl hK
    show wpX7_lawsLeftBy_12 14 post _ M L (nI a) (nI (tq (hs ||| lk) a k)) (nI k)
    unfold wpX7_lawsLeftBy_12
    refine pk_le 8 k (fun h => by omega) (fun _ => sX3_around ha hk (fun w ew c ec => hK _ ?_))
    show (M, L, nI a, w, c) = _
    rw [ew, ec, nI_1]
    have e : (1 : Int32) <<< (nI (2 * a / 2 ^ k % 8) &&& 31) = nI (2 ^ qb a k) := z_shl (by have := qb_lt a k; unfold qb at this; omega)
    rw [e, fa_or]
    rfl
  · rintro K _ rfl
    show wpX7_lawsLeftBy_12 14 post _ M L (nI a) (nI (tq (hs ||| lk) a 8)) (nI 8)
    unfold wpX7_lawsLeftBy_12
    have hp : zpop (tq (hs ||| lk) a 8) 8 ≤ 8 := by rw [zpop_ct]; exact zct_le _ 8
    refine pk_le 8 8 (fun _ => sJ6_bitCount (tq_lt ho 8) ?_) (fun h => by omega)
    show post ((1 : Int32) <<< (((8 : Int32) - nI (zpop (tq (hs ||| lk) a 8) 8)) &&& 31)) M L
    rw [show (8 : Int32) - nI (zpop (tq (hs ||| lk) a 8) 8) = nI (8 - zpop (tq (hs ||| lk) a 8) 8) from pk_sub (a := 8) hp, z_shl (by omega)]
    exact h
theorem sX9_mostLeft {hs lk a : Nat} (ha : a < 256) (h61 : ∀ w, w < 256 → M 61 w = if (w &&& hs = hs ∧ w &&& lk = 0) then 1 else 0) (h : ∀ M' m, (∀ i, i ≠ 60 → M' i = M i) → (∀ b, b < 256 → zct (cab hs lk a b) 256 ≤ m) → (m = 0 ∨ ∃ b, b < 256 ∧ m = zct (cab hs lk a b) 256) → post (nI m) M' L) : wpX9_mostLeft (nI a) M L post := by
  unfold wpX9_mostLeft wlX9_mostLeft_4
  refine zlp_forI 256 (fun k s => ∃ M', s = (M', L, nI a, (0 : Int32), nI k) ∧ (∀ i, i ≠ 60 → M' i = M i) ∧ ∀ j, j < k → M' 60 j = 0) ⟨M, rfl, fun _ _ => rfl, fun j hj => absurd hj (by omega)⟩ ?_ ?_
  · rintro k K _ hk ⟨M', rfl, h1, h2⟩ hK
    have ek : (nI k).toNatClampNeg = k := nI_clamp (by omega)
    show wpX9_mostLeft_4 post _ M' L (nI a) (0 : Int32) (nI k)
    unfold wpX9_mostLeft_4
    rw [ek]
    refine pk_le 256 k (fun h => by omega) (fun _ => ⟨vp_in_nI hk (by decide), fun M2 e2 w ew => hK _ ⟨M2, by show (M2, L, nI a, (0 : Int32), w) = _; rw [ew, nI_1], fun i hi => by rw [e2, zs_ne hi]; exact h1 i hi, fun j hj => ?_⟩⟩)
    rw [e2, zs_at]
    by_cases q : j = k
    · rw [if_pos q]
    · rw [if_neg q]; exact h2 j (by omega)
  · rintro K _ ⟨M', rfl, h1, h2⟩
    show wpX9_mostLeft_4 post _ M' L (nI a) (0 : Int32) (nI 256)
    unfold wpX9_mostLeft_4
    refine pk_le 256 256 (fun _ => ?_) (fun h => by omega)
    unfold wlX9_mostLeft_26
    refine zlp_forI 256 (fun k s => ∃ M' m, s = (M', L, nI a, nI m, nI k) ∧ (∀ i, i ≠ 60 → M' i = M i) ∧ m ≤ 256 ∧ (∀ b, b < 256 → M' 60 b = nI (zct (cab hs lk a b) k) ∧ zct (cab hs lk a b) k ≤ m) ∧ (m = 0 ∨ ∃ b, b < 256 ∧ m = zct (cab hs lk a b) k)) ⟨M', 0, rfl, h1, by decide, fun b hb => ⟨h2 b hb, Nat.le_refl 0⟩, Or.inl rfl⟩ ?_ ?_
    · rintro k K2 _ hk ⟨M', m, rfl, h1, h3, h4, h5⟩ hK
      have ek : (nI k).toNatClampNeg = k := nI_clamp (by omega)
      show wpX9_mostLeft_26 post _ M' L (nI a) (nI m) (nI k)
      unfold wpX9_mostLeft_26 wpX9_mostLeft_82 wpX9_mostLeft_83
      rw [ek, h1 61 (by decide), h61 k hk]
      refine pk_le 256 k (fun h => by omega) (fun _ => ⟨vp_in_nI hk (by decide), ?_⟩)
      by_cases hf : (k &&& hs = hs ∧ k &&& lk = 0)
      · rw [if_pos hf]
        refine bf_ (by decide) (sX9_grown ha hk ?_)
        obtain ⟨b, hb⟩ : ∃ b, b = zgro a k := ⟨_, rfl⟩
        have hbl : b < 256 := by rw [hb]; exact zgro_lt _ _
        rw [← hb]
        have eb : (nI b).toNatClampNeg = b := nI_clamp (by omega)
        have vb : vp_in (nI b) 256 := vp_in_nI hbl (by decide)
        rw [eb, (h4 b hbl).1]
        have hcb : zct (cab hs lk a b) (k + 1) = zct (cab hs lk a b) k + 1 := by
          rw [zct_s, if_pos (by unfold cab; rw [decide_eq_true hf, decide_eq_true hb.symm]; rfl)]
        have hco : ∀ c, c ≠ b → zct (cab hs lk a c) (k + 1) = zct (cab hs lk a c) k := fun c hc => by
          rw [zct_s, if_neg (by unfold cab; rw [decide_eq_false (p := zgro a k = c) (fun z => hc (by rw [hb, z])), Bool.and_false]; decide)]
        have hle : zct (cab hs lk a b) k ≤ k := zct_le _ k
        have hmk : m ≤ k := by
          rcases h5 with e | ⟨c, -, e⟩
          · omega
          · rw [e]; exact zct_le _ k
        refine ⟨vb, vb, fun M2 e2 => ⟨vb, ?_⟩⟩
        have r60 : ∀ c, M2 60 c = if c = b then nI (zct (cab hs lk a b) k) + 1 else M' 60 c := fun c => by rw [e2, zs_at]
        have rn : ∀ i, i ≠ 60 → M2 i = M i := fun i hi => by rw [e2, zs_ne hi]; exact h1 i hi
        rw [r60, if_pos rfl, nI_1, ← hcb]
        have all : ∀ m', (∀ c, c < 256 → zct (cab hs lk a c) (k + 1) ≤ m') → ∀ c, c < 256 → M2 60 c = nI (zct (cab hs lk a c) (k + 1)) ∧ zct (cab hs lk a c) (k + 1) ≤ m' := by
          intro m' hm c hc
          refine ⟨?_, hm c hc⟩
          rw [r60]
          by_cases q : c = b
          · subst q; rw [if_pos rfl, nI_1, hcb]
          · rw [if_neg q, (h4 c hc).1, hco c q]
        have q1 : (nI (zct (cab hs lk a b) (k + 1)) ≤ nI m) ↔ zct (cab hs lk a b) (k + 1) ≤ m := nI_leI (by omega) (by omega)
        refine ⟨fun hz w ew => ?_, fun hz => ⟨vb, fun w ew => ?_⟩⟩
        · have hz := q1.mp hz
          refine hK _ ⟨M2, m, by show (M2, L, nI a, nI m, w) = _; rw [ew, nI_1], rn, h3, all m (fun c hc => ?_), ?_⟩
          · by_cases q : c = b
            · subst q; exact hz
            · rw [hco c q]; exact (h4 c hc).2
          · rcases h5 with e | ⟨c, hc, e⟩
            · exact Or.inl e
            · by_cases q : c = b
              · subst q; omega
              · exact Or.inr ⟨c, hc, by rw [hco c q]; exact e⟩
        · have hz : ¬ zct (cab hs lk a b) (k + 1) ≤ m := fun z => hz (q1.mpr z)
          refine hK _ ⟨M2, zct (cab hs lk a b) (k + 1), by show (M2, L, nI a, nI (zct (cab hs lk a b) (k + 1)), w) = _; rw [ew, nI_1], rn, by omega, all _ (fun c hc => ?_), Or.inr ⟨b, hbl, rfl⟩⟩
          by_cases q : c = b
          · subst q; exact Nat.le_refl _
          · rw [hco c q]
            have := (h4 c hc).2
            omega
      · rw [if_neg hf]
        have hco : ∀ c, zct (cab hs lk a c) (k + 1) = zct (cab hs lk a c) k := fun c => by
          rw [zct_s, if_neg (by unfold cab; rw [decide_eq_false hf, Bool.false_and]; decide)]
        refine bt_ rfl (fun w ew => hK _ ⟨M', m, by show (M', L, nI a, nI m, w) = _; rw [ew, nI_1], h1, h3, fun c hc => by rw [hco c]; exact h4 c hc, ?_⟩)
        rcases h5 with e | ⟨c, hc, e⟩
        · exact Or.inl e
        · exact Or.inr ⟨c, hc, by rw [hco c]; exact e⟩
    · rintro K2 _ ⟨M', m, rfl, h1, h3, h4, h5⟩
      show wpX9_mostLeft_26 post _ M' L (nI a) (nI m) (nI 256)
      unfold wpX9_mostLeft_26
      exact pk_le 256 256 (fun _ => h M' m h1 (fun b hb => (h4 b hb).2) h5) (fun h => by omega)
/-- best, fewest, behind k arms -/
def lkb (g : Nat → Int32) : Nat → Int32 × Int32
  | 0 => (0, g 0)
  | k + 1 => if (lkb g k).2 ≤ g (k + 1) then lkb g k else (nI (k + 1), g (k + 1))
theorem pr_look (hR : RI M) {x : Int32} (h : ∀ r M1 L1, agr (wpX9_look x) r M1 L1 → post r M1 L1) : wpX8_look x M L post := by
  obtain ⟨⟨t, u, -, -, -, -, -, -, -, -, n, hs, lk, s1, s2, s3, s4, s5, s6, s7, s8, s9⟩, -⟩ := id hR
  have s5 : M 42 11 = nI n := s5
  have s8 : ∀ e, e < n → zlt 256 (M 51 e) ∧ zlt 256 (M 52 e) := s8
  have s9 : ∀ w, w < 256 → ((w &&& hs = hs ∧ w &&& lk = 0) ↔ fitM M n w) := s9
  unfold wpX8_look
  refine sX8_isBelow 2 (fun hx => b1 ?_) (fun hout => b0 (h _ _ _ (fun p2 hp => ?_)))
  rotate_left
  · unfold wpX9_look
    exact sX9_in 0 1 (fun z => absurd ⟨z.1, by omega⟩ hout) (fun _ => b0 (hp _ _ hR))
  rw [s6, s7, fa_and]
  -- the model's table of laws
  have key : ∀ v, (∀ (p2 : Int32 → Mm → Ml → Prop), (∀ M2, RI M2 → p2 v M2 L) → ∀ M', (∀ i, i ≠ 60 → i ≠ 61 → M' i = M i) → (∀ w, w < 256 → M' 61 w = if (w &&& hs = hs ∧ w &&& lk = 0) then 1 else 0) → wpX9_mostLeft (0 : Int32) M' L (fun r_43 M_43 L_43 => ∃ j9 : Nat, wlX9_look_50 p2 j9 (M_43, L_43, x, (0 : Int32), r_43, (1 : Int32)))) → agr (wpX9_look x) v M L := by
    intro v hv p2 hp
    unfold wpX9_look
    refine sX9_in 0 1 (fun _ => b1 ?_) (fun z => absurd ⟨hx.1, by omega⟩ z)
    unfold wlX9_look_15
    refine zlp_forI 256 (fun k s => ∃ M', s = (M', L, x, nI k) ∧ (∀ i, i ≠ 60 → i ≠ 61 → M' i = M i) ∧ ∀ w, w < k → M' 61 w = if (w &&& hs = hs ∧ w &&& lk = 0) then 1 else 0) ⟨M, rfl, fun _ _ _ => rfl, fun w hw => absurd hw (by omega)⟩ ?_ ?_
    · rintro k K _ hk ⟨M', rfl, h1, h2⟩ hK
      have ek : (nI k).toNatClampNeg = k := nI_clamp (by omega)
      show wpX9_look_15 p2 _ M' L x (nI k)
      unfold wpX9_look_15
      have fm : fitM M' n k ↔ fitM M n k := by unfold fitM; rw [h1 51 (by decide) (by decide), h1 52 (by decide) (by decide)]
      have go : ∀ b : Int32, b = (if (k &&& hs = hs ∧ k &&& lk = 0) then 1 else 0) → vp_in (nI k) 256 ∧ (∀ M_32 : Mm, M_32 = zs M' 61 (nI k).toNatClampNeg (vp_nar .boolean b) → (∀ a_33 : Int32, a_33 = nI k + (1 : Int32) → K (M_32, L, x, a_33))) := by
        intro b hb
        rw [ek]
        refine ⟨vp_in_nI hk (by decide), fun M2 e2 w ew => hK _ ⟨M2, by show (M2, L, x, w) = _; rw [ew, nI_1], fun i q1 q2 => by rw [e2, zs_ne q2]; exact h1 i q1 q2, fun j hj => ?_⟩⟩
        rw [e2, zs_at]
        by_cases q : j = k
        · rw [if_pos q, q, hb]
          split <;> rfl
        · rw [if_neg q]; exact h2 j (by omega)
      refine pk_le 256 k (fun h => by omega) (fun _ => sX9_fits s1 hk (by rw [h1 42 (by decide) (by decide)]; exact s5) (fun e he => by rw [h1 51 (by decide) (by decide)]; exact (s8 e he).1) (fun hf => go 1 ?_) (fun hf => go 0 ?_))
      · rw [if_pos ((s9 k hk).mpr (fm.mp hf))]
      · rw [if_neg (fun z => hf (fm.mpr ((s9 k hk).mp z)))]
    · rintro K _ ⟨M', rfl, h1, h2⟩
      show wpX9_look_15 p2 _ M' L x (nI 256)
      unfold wpX9_look_15
      exact pk_le 256 256 (fun _ => hv p2 (fun M2 hR2 => hp M2 L hR2) M' h1 h2) (fun h => by omega)
  have ri : ∀ M2 : Mm, (∀ i, i ≠ 60 → i ≠ 61 → M2 i = M i) → RI M2 := fun M2 h2 => RI_same hR (fun a ha => h2 a (by unfold kp at ha; omega) (by unfold kp at ha; omega)) (by rw [h2 2 (by decide) (by decide)]) (by rw [h2 42 (by decide) (by decide)]) (by rw [h2 42 (by decide) (by decide)]) (by rw [h2 42 (by decide) (by decide)])
  -- the model's round over the arms
  have round : ∀ (g : Nat → Int32) (v : Int32) (p2 : Int32 → Mm → Ml → Prop) (M' : Mm), (∀ i, i ≠ 60 → i ≠ 61 → M' i = M i) → (∀ w, w < 256 → M' 61 w = if (w &&& hs = hs ∧ w &&& lk = 0) then 1 else 0) → (∀ a, a < 256 → ∀ M2 : Mm, (∀ i, i ≠ 60 → M2 i = M' i) → ∀ p3 : Int32 → Mm → Ml → Prop, (∀ M3 : Mm, (∀ i, i ≠ 60 → M3 i = M' i) → p3 (g a) M3 L) → wpX9_mostLeft (nI a) M2 L p3) → (∀ M2, (∀ i, i ≠ 60 → M2 i = M' i) → ∀ st : Int32 × Int32, st = lkb g 255 → (¬ st.2 = 0 → (¬ x = 0 → p2 st.2 M2 L) ∧ (x = 0 → p2 st.1 M2 L)) ∧ (st.2 = 0 → p2 (-6) M2 L)) → wpX9_mostLeft (0 : Int32) M' L (fun r_43 M_43 L_43 => ∃ j9 : Nat, wlX9_look_50 p2 j9 (M_43, L_43, x, (0 : Int32), r_43, (1 : Int32))) := by
    intro g v p2 M' h1 h2 hm hend
    refine hm 0 (by decide) M' (fun _ _ => rfl) _ (fun M3 h3 => ?_)
    obtain ⟨st, hst⟩ : ∃ st, st = lkb g := ⟨_, rfl⟩
    have s0 : st 0 = (0, g 0) := by rw [hst]; rfl
    have ss : ∀ k, st (k + 1) = if (st k).2 ≤ g (k + 1) then st k else (nI (k + 1), g (k + 1)) := fun k => by rw [hst]; rfl
    rw [← hst] at hend
    clear hst
    unfold wlX9_look_50
    refine zlp_forI 255 (fun k s => ∃ M2, s = (M2, L, x, (st k).1, (st k).2, nI (k + 1)) ∧ ∀ i, i ≠ 60 → M2 i = M' i) ⟨M3, by rw [s0]; rfl, h3⟩ ?_ ?_
    · rintro k K _ hk ⟨M2, rfl, h4⟩ hK
      show wpX9_look_50 p2 _ M2 L x (st k).1 (st k).2 (nI (k + 1))
      unfold wpX9_look_50 wpX9_look_78 wpX9_look_91
      refine pk_le 256 (k + 1) (fun h => by omega) (fun _ => hm (k + 1) (by omega) M2 h4 _ (fun M4 h5 => ?_))
      have ss := ss k
      refine ⟨fun q => bt_ q (fun w ew => hK _ ⟨M4, ?_, h5⟩), fun q => bf_ q (fun w ew => hK _ ⟨M4, ?_, h5⟩)⟩
      · rw [if_pos q] at ss
        rw [ss, ew, nI_1]
      · rw [if_neg q] at ss
        rw [ss, ew, nI_1]
    · rintro K _ ⟨M2, rfl, h4⟩
      show wpX9_look_50 p2 _ M2 L x (st 255).1 (st 255).2 (nI 256)
      unfold wpX9_look_50 wpX9_look_116
      exact pk_le 256 256 (fun _ => hend M2 h4 _ rfl) (fun h => by omega)
  refine ⟨fun hz => ?_, fun hz => ?_⟩
  · -- some law fits
    have hz : hs &&& lk = 0 := nI_inj (b := 0) (Nat.lt_of_le_of_lt Nat.and_le_left (by omega)) (by decide) hz
    obtain ⟨g, hg⟩ : ∃ g : Nat → Int32, g = fun a => nI (2 ^ (8 - zpop (tq (hs ||| lk) a 8) 8)) := ⟨_, rfl⟩
    have hfit : hs &&& hs = hs ∧ hs &&& lk = 0 := ⟨Nat.and_self hs, hz⟩
    have gb : ∀ a, ∃ m, 1 ≤ m ∧ m ≤ 256 ∧ g a = nI m := fun a => ⟨_, Nat.one_le_two_pow, Nat.pow_le_pow_right (n := 2) (by decide) (show 8 - zpop (tq (hs ||| lk) a 8) 8 ≤ 8 by omega), by rw [hg]⟩
    have hm : ∀ M' : Mm, (∀ w, w < 256 → M' 61 w = if (w &&& hs = hs ∧ w &&& lk = 0) then 1 else 0) → ∀ a, a < 256 → ∀ M2 : Mm, (∀ i, i ≠ 60 → M2 i = M' i) → ∀ p3 : Int32 → Mm → Ml → Prop, (∀ M3 : Mm, (∀ i, i ≠ 60 → M3 i = M' i) → p3 (g a) M3 L) → wpX9_mostLeft (nI a) M2 L p3 := by
      intro M' h2 a ha M2 h3 p3 hp3
      refine sX9_mostLeft ha (fun w hw => by rw [h3 61 (by decide)]; exact h2 w hw) (fun M4 m h4 h5 h6 => ?_)
      have hone : zct (cab hs lk a (zgro a hs)) 256 = 2 ^ (8 - zpop (tq (hs ||| lk) a 8) 8) := cab_one s2 (by unfold cab; rw [decide_eq_true hfit, decide_eq_true rfl]; rfl)
      have hp1 : 1 ≤ 2 ^ (8 - zpop (tq (hs ||| lk) a 8) 8) := Nat.one_le_two_pow
      have h7 := h5 _ (zgro_lt a hs)
      rw [hone] at h7
      have em : m = 2 ^ (8 - zpop (tq (hs ||| lk) a 8) 8) := by
        rcases h6 with e | ⟨b, hb, e⟩
        · omega
        · rcases cab_all (hs := hs) (lk := lk) (a := a) (b := b) with q | q
          · omega
          · rw [e, q]
      rw [em]
      have := hp3 M4 (fun i hi => by rw [h4 i hi]; exact h3 i hi)
      rw [hg] at this
      exact this
    have lkpos : ∀ k, ¬ (lkb g k).2 = 0 := by
      intro k
      induction k with
      | zero =>
        obtain ⟨m, m1, m2, e⟩ := gb 0
        show ¬ g 0 = 0
        rw [e]; exact nI_ne0 m1 (by omega)
      | succ k ih =>
        unfold lkb
        split
        · exact ih
        · obtain ⟨m, m1, m2, e⟩ := gb (k + 1)
          show ¬ g (k + 1) = 0
          rw [e]; exact nI_ne0 m1 (by omega)
    have lkpos := lkpos 255
    obtain ⟨fin, hfin⟩ : ∃ fin, fin = lkb g 255 := ⟨_, rfl⟩
    rw [← hfin] at lkpos
    have kk : ∀ v, (∀ (p2 : Int32 → Mm → Ml → Prop), (∀ M2, RI M2 → p2 v M2 L) → ∀ M2, RI M2 → (¬ x = 0 → p2 fin.2 M2 L) ∧ (x = 0 → p2 fin.1 M2 L)) → agr (wpX9_look x) v M L := by
      intro v hv
      refine key v (fun p2 hp M' h1 h2 => round g v p2 M' h1 h2 (hm M' h2) (fun M2 h3 st est => ?_))
      rw [← hfin] at est
      rw [est]
      exact nf_ lkpos (hv p2 hp M2 (ri M2 (fun i q1 q2 => by rw [h3 i q1]; exact h1 i q1 q2)))
    obtain ⟨st, hst⟩ : ∃ st, st = lkb g := ⟨_, rfl⟩
    have s0 : st 0 = (0, g 0) := by rw [hst]; rfl
    have ss : ∀ k, st (k + 1) = if (st k).2 ≤ g (k + 1) then st k else (nI (k + 1), g (k + 1)) := fun k => by rw [hst]; rfl
    rw [← hst] at hfin
    clear hst
    unfold wlX8_look_41
    refine zlp_forI 256 (fun k s => (k = 0 ∧ s = (M, L, x, (0 : Int32), (257 : Int32), (0 : Int32))) ∨ ∃ j, k = j + 1 ∧ s = (M, L, x, (st j).1, (st j).2, nI k)) (Or.inl ⟨rfl, rfl⟩) ?_ ?_
    · rintro k K _ hk (⟨rfl, rfl⟩ | ⟨j, rfl, rfl⟩) hK
      · show wpX8_look_41 post _ M L x (0 : Int32) (257 : Int32) (nI 0)
        unfold wpX8_look_41 wpX8_look_72
        refine pk_le 256 0 (fun h => by omega) (fun _ => sX7_lawsLeftBy (a := 0) (by decide) s2 s3 s6 s7 ?_)
        have eg : g 0 = nI (2 ^ (8 - zpop (tq (hs ||| lk) 0 8) 8)) := by rw [hg]
        rw [← eg]
        obtain ⟨m, m1, m2, e⟩ := gb 0
        refine bf_ (by rw [e]; exact fun z => absurd ((nI_leI (a := 257) (b := m) (by decide) (by omega)).mp z) (by omega)) (fun w ew => hK _ (Or.inr ⟨0, rfl, ?_⟩))
        rw [s0, ew]
        rfl
      · show wpX8_look_41 post _ M L x (st j).1 (st j).2 (nI (j + 1))
        unfold wpX8_look_41 wpX8_look_72
        refine pk_le 256 (j + 1) (fun h => by omega) (fun _ => sX7_lawsLeftBy (a := j + 1) hk s2 s3 s6 s7 ?_)
        have eg : g (j + 1) = nI (2 ^ (8 - zpop (tq (hs ||| lk) (j + 1) 8) 8)) := by rw [hg]
        rw [← eg]
        have ss := ss j
        refine ⟨fun q w ew => hK _ (Or.inr ⟨j + 1, rfl, ?_⟩), fun q w ew => hK _ (Or.inr ⟨j + 1, rfl, ?_⟩)⟩
        · rw [if_pos q] at ss
          rw [ss, ew, nI_1]
        · rw [if_neg q] at ss
          rw [ss, ew, nI_1]
    · rintro K _ (⟨e, -⟩ | ⟨j, e, rfl⟩)
      · omega
      · have ej : j = 255 := by omega
        subst ej
        show wpX8_look_41 post _ M L x (st 255).1 (st 255).2 (nI 256)
        unfold wpX8_look_41 wpX8_look_87
        rw [← hfin]
        exact pk_le 256 256 (fun _ => ⟨fun q => h _ _ _ (kk _ (fun p2 hp M2 hR2 => nf_ q (hp M2 hR2))), fun q => h _ _ _ (kk _ (fun p2 hp M2 hR2 => nt_ q (hp M2 hR2)))⟩) (fun h => by omega)
  · -- none
    have hz : ¬ hs &&& lk = 0 := fun z => hz (by rw [z]; rfl)
    refine h _ _ _ (key _ (fun p2 hp M' h1 h2 => round (fun _ => 0) (-6) p2 M' h1 h2 (fun a ha M2 h3 p3 hp3 => ?_) (fun M2 h3 st est => ?_)))
    · refine sX9_mostLeft ha (fun w hw => by rw [h3 61 (by decide)]; exact h2 w hw) (fun M4 m h4 h5 h6 => ?_)
      have em : m = 0 := by
        rcases h6 with e | ⟨b, hb, e⟩
        · exact e
        · rw [e]
          refine zct_none (fun w hw => ?_)
          unfold cab
          have : ¬ (w &&& hs = hs ∧ w &&& lk = 0) := by
            rintro ⟨z1, z2⟩
            refine hz ?_
            rw [and_sub] at z1
            rw [and_no] at z2
            rw [and_no]
            intro i hi
            cases hq : hs.testBit i with
            | false => rfl
            | true => exact absurd (z1 i hq) (by rw [z2 i hi]; decide)
          rw [decide_eq_false this, Bool.false_and]
      rw [em]
      exact hp3 M4 (fun i hi => by rw [h4 i hi]; exact h3 i hi)
    · have e0 : ∀ k, (lkb (fun _ => 0) k).2 = 0 := by
        intro k
        induction k with
        | zero => rfl
        | succ k ih =>
          unfold lkb
          rw [ih]
          rw [if_pos (by decide)]
          exact ih
      rw [est]
      exact nt_ (e0 255) (hp M2 (ri M2 (fun i q1 q2 => by rw [h3 i q1]; exact h1 i q1 q2)))
end LOOK
