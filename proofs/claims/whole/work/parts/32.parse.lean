/-! the signs and the acts that they are -/
def pOne (c : Int32) : Int32 := if c < 65 then -6 else if 71 ≤ c then -6 else c - 65
def pWea (c : Int32) : Int32 := if c = 46 then 4 else if c = 60 then 2 else if c = 62 then 3 else if c = 99 then 0 else if c = 100 then 1 else -6
def pDeed (c : Int32) : Int32 := if c = 60 then 5 else if c = 62 then 6 else if c = 117 then 7 else -6
/-- from the sign i on, d signs to come: THE FAULT, the acts -/
def prun (s : Nat → Int32) : Nat → Nat → Int32 → List (Int32 × Int32) → Int32 × List (Int32 × Int32)
  | 0, i, o, A => (if o = -6 then -6 else nI i, A)
  | d + 1, i, o, A => if o = -6 ∧ ¬ pOne (s i) = -6 then prun s d (i + 1) (pOne (s i)) A else if (if o = -6 then pWea (s i) else pDeed (s i)) = -6 then (nI i, A) else prun s d (i + 1) (-6) (A ++ [((if o = -6 then pWea (s i) else pDeed (s i)), o)])
theorem pOne_in {c : Int32} (hc : zlt 127 c) : (pOne c = -6 ∧ (c.toInt < 65 ∨ 71 ≤ c.toInt)) ∨ ∃ a : Nat, a < 6 ∧ c = nI (65 + a) ∧ pOne c = nI a := by
  obtain ⟨v, hv, rfl⟩ := hc
  unfold pOne
  have q1 : (nI v < (65 : Int32)) ↔ v < 65 := nI_ltI (b := 65) (by omega) (by decide)
  have q2 : ((71 : Int32) ≤ nI v) ↔ 71 ≤ v := nI_leI (a := 71) (by decide) (by omega)
  rw [nI_ti (by omega)]
  by_cases h1 : v < 65
  · rw [if_pos (q1.mpr h1)]; exact Or.inl ⟨rfl, by omega⟩
  · rw [if_neg (fun z => h1 (q1.mp z))]
    by_cases h2 : 71 ≤ v
    · rw [if_pos (q2.mpr h2)]; exact Or.inl ⟨rfl, by omega⟩
    · rw [if_neg (fun z => h2 (q2.mp z))]
      exact Or.inr ⟨v - 65, by omega, by congr 1; omega, pk_sub (b := 65) (by omega)⟩
theorem pOne_wea {c : Int32} (h : ¬ pOne c = -6) : pWea c = -6 := by
  unfold pWea
  split
  · subst c; exact absurd (by decide) h
  split
  · subst c; exact absurd (by decide) h
  split
  · subst c; exact absurd (by decide) h
  split
  · subst c; exact absurd (by decide) h
  split
  · subst c; exact absurd (by decide) h
  · rfl
theorem pWea_in (c : Int32) : pWea c = -6 ∨ ∃ j : Nat, j < 5 ∧ pWea c = nI j := by
  unfold pWea
  split
  · exact Or.inr ⟨4, by decide, rfl⟩
  split
  · exact Or.inr ⟨2, by decide, rfl⟩
  split
  · exact Or.inr ⟨3, by decide, rfl⟩
  split
  · exact Or.inr ⟨0, by decide, rfl⟩
  split
  · exact Or.inr ⟨1, by decide, rfl⟩
  · exact Or.inl rfl
theorem pDeed_in (c : Int32) : pDeed c = -6 ∨ ∃ j : Nat, 5 ≤ j ∧ j < 8 ∧ pDeed c = nI j := by
  unfold pDeed
  split
  · exact Or.inr ⟨5, by decide, by decide, rfl⟩
  split
  · exact Or.inr ⟨6, by decide, by decide, rfl⟩
  split
  · exact Or.inr ⟨7, by decide, by decide, rfl⟩
  · exact Or.inl rfl
section PARSE
variable {M : Mm} {L : Ml} {post : Int32 → Mm → Ml → Prop}
theorem sX5_oneOf {x : Int32} (h : post (pOne x) M L) : wpX5_oneOf x M L post := by
  unfold wpX5_oneOf wpX5_oneOf_19 wpX5_oneOf_21
  unfold pOne at h
  refine ⟨fun h1 => ?_, fun h1 => ⟨fun h2 => ?_, fun h2 => ?_⟩⟩
  · rw [if_pos h1] at h; exact h
  · rw [if_neg h1, if_pos h2] at h; exact h
  · rw [if_neg h1, if_neg h2] at h; exact h
theorem sX5_weatherOf {x : Int32} (h : post (pWea x) M L) : wpX5_weatherOf x M L post := by
  unfold wpX5_weatherOf
  unfold pWea at h
  refine ⟨fun e => ?_, fun n1 => ⟨fun e => ?_, fun n2 => ⟨fun e => ?_, fun n3 => ⟨fun e => ?_, fun n4 => ⟨fun e => ?_, fun n5 => ?_⟩⟩⟩⟩⟩
  · rw [if_pos e] at h; exact h
  · rw [if_neg n1, if_pos e] at h; exact h
  · rw [if_neg n1, if_neg n2, if_pos e] at h; exact h
  · rw [if_neg n1, if_neg n2, if_neg n3, if_pos e] at h; exact h
  · rw [if_neg n1, if_neg n2, if_neg n3, if_neg n4, if_pos e] at h; exact h
  · rw [if_neg n1, if_neg n2, if_neg n3, if_neg n4, if_neg n5] at h; exact h
theorem sX5_deedOf {x : Int32} (h : post (pDeed x) M L) : wpX5_deedOf x M L post := by
  unfold wpX5_deedOf
  unfold pDeed at h
  refine ⟨fun e => ?_, fun n1 => ⟨fun e => ?_, fun n2 => ⟨fun e => ?_, fun n3 => ?_⟩⟩⟩
  · rw [if_pos e] at h; exact h
  · rw [if_neg n1, if_pos e] at h; exact h
  · rw [if_neg n1, if_neg n2, if_pos e] at h; exact h
  · rw [if_neg n1, if_neg n2, if_neg n3] at h; exact h
/-- an act as it is told -/
def aOk (p : Int32 × Int32) : Prop := ∃ j : Nat, j < 8 ∧ p.1 = nI j ∧ (5 ≤ j → zlt 6 p.2)
theorem pk_in2 {n N : Nat} (h : n < N) (hN : N < 2 ^ 31) : vp_in (nI n) N := vp_in_nI h hN
theorem app_at {α : Type} {A : List α} {p q : α} {i : Nat} (h : (A ++ [p])[i]? = some q) : (i < A.length ∧ A[i]? = some q) ∨ (i = A.length ∧ q = p) := by
  by_cases hi : i < A.length
  · rw [List.getElem?_append_left hi] at h
    exact Or.inl ⟨hi, h⟩
  · rw [List.getElem?_append_right (by omega)] at h
    have hz : i - A.length < 1 := (List.getElem?_eq_some_iff.mp h).1
    have e : i = A.length := by omega
    subst e
    rw [Nat.sub_self] at h
    exact Or.inr ⟨rfl, (Option.some.inj h).symm⟩
/-- the class's acts of the pad -/
def cActs (M M' : Mm) (A : List (Int32 × Int32)) : Prop := (∀ a, a ≠ 2 → a ≠ 4 → a ≠ 5 → M' a = M a) ∧ (∀ j, j ≠ 4 → M' 2 j = M 2 j) ∧ M' 2 4 = nI A.length ∧ (∀ i p, A[i]? = some p → M' 4 i = p.1 ∧ M' 5 i = p.2)
theorem sX5_readActs {c : Nat} (hc : c ≤ 60) (e1 : M 2 1 = nI c) (hs : ∀ i, i < c → zlt 127 (M 3 i)) (h : ∀ M', cActs M M' (prun (M 3) c 0 (-6) []).2 → (∀ p, p ∈ (prun (M 3) c 0 (-6) []).2 → aOk p) → (prun (M 3) c 0 (-6) []).2.length ≤ c → post (prun (M 3) c 0 (-6) []).1 M' L) : wpX5_readActs M L post := by
  unfold wpX5_readActs
  intro M0 e0
  unfold wlX5_readActs_10
  refine zlp_forI c (fun k s => ∃ Mk o A, s = (Mk, L, o, nI k) ∧ cActs M Mk A ∧ A.length ≤ k ∧ (∀ p, p ∈ A → aOk p) ∧ (o = -6 ∨ zlt 6 o) ∧ prun (M 3) (c - k) k o A = prun (M 3) c 0 (-6) []) ⟨M0, -6, [], rfl, ⟨fun a h1 _ _ => by rw [e0, zs_ne h1], fun j hj => by rw [e0, zs_nj hj], by rw [e0, zs_eq]; rfl, fun i p hp => by cases hp⟩, Nat.le_refl 0, fun p hp => (by cases hp), Or.inl rfl, rfl⟩ ?_ ?_
  · rintro k K _ hk ⟨Mk, o, A, rfl, ⟨a1, a2, a3, a4⟩, hlen, hok, ho, hr⟩ hK
    show wpX5_readActs_10 post _ Mk L o (nI k)
    have ek : (nI k).toNatClampNeg = k := nI_clamp (by omega)
    have r3 : Mk 3 = M 3 := a1 3 (by decide) (by decide) (by decide)
    have hx := hs k hk
    rw [show c - k = (c - (k + 1)) + 1 by omega, prun] at hr
    have el : (nI A.length).toNatClampNeg = A.length := nI_clamp (by omega)
    -- one act more, or a fault
    have hact : (o = -6 → pOne (M 3 k) = -6) → wpX5_readActs_51 post (fun M L v1 v2 => K (M, L, v1, v2)) Mk L o (nI k) := by
      intro hno
      rw [if_neg (fun z => z.2 (hno z.1))] at hr
      have h78 : ∀ kd, kd = (if o = -6 then pWea (M 3 k) else pDeed (M 3 k)) → wpX5_readActs_78 post (fun M L v1 v2 => K (M, L, v1, v2)) Mk L o (nI k) kd := by
        intro kd hkd
        rw [← hkd] at hr
        unfold wpX5_readActs_78 wpX5_readActs_120
        rw [a3, el]
        refine ⟨fun hn => ⟨vp_in_nI (by omega) (by decide), fun M1 q1 => ?_⟩, fun hy => ?_⟩
        · have m1 : M1 2 4 = nI A.length := by rw [q1, zs_ne (by decide)]; exact a3
          rw [m1, el]
          refine ⟨vp_in_nI (by omega) (by decide), fun M2 q2 M3 q3 a ha => ?_⟩
          have m2 : M2 2 4 = nI A.length := by rw [q2, zs_ne (by decide)]; exact m1
          rw [m2, nI_1] at q3
          rw [if_neg hn] at hr
          refine hK _ ⟨M3, -6, A ++ [(kd, o)], by show (M3, L, (-6 : Int32), a) = _; rw [ha, nI_1], ⟨fun b h1 h2 h3 => ?_, fun j hj => ?_, ?_, fun i p hp => ?_⟩, ?_, ?_, Or.inl rfl, hr⟩
          · rw [q3, zs_ne h1, q2, zs_ne h3, q1, zs_ne h2]; exact a1 b h1 h2 h3
          · rw [q3, zs_nj hj, q2, zs_ne (by decide), q1, zs_ne (by decide)]; exact a2 j hj
          · rw [q3, zs_eq, List.length_append]; rfl
          · have r4 : M3 4 i = if i = A.length then kd else Mk 4 i := by rw [q3, zs_ne (by decide), q2, zs_ne (by decide), q1, zs_at]
            have r5 : M3 5 i = if i = A.length then o else Mk 5 i := by rw [q3, zs_ne (by decide), q2, zs_at, q1, zs_ne (by decide)]
            rw [r4, r5]
            rcases app_at hp with ⟨hi, hq⟩ | ⟨hi, hq⟩
            · rw [if_neg (by omega), if_neg (by omega)]; exact a4 i p hq
            · rw [if_pos hi, if_pos hi, hq]; exact ⟨rfl, rfl⟩
          · rw [List.length_append]; show A.length + 1 ≤ k + 1; omega
          · intro p hp
            rcases List.mem_append.mp hp with hp | hp
            · exact hok p hp
            · have hp := List.mem_singleton.mp hp
              subst hp
              by_cases ho6 : o = -6
              · rw [if_pos ho6] at hkd
                rcases pWea_in (M 3 k) with e | ⟨j, hj, e⟩
                · exact absurd (hkd.trans e) hn
                · exact ⟨j, by omega, hkd.trans e, fun z => by omega⟩
              · rw [if_neg ho6] at hkd
                rcases pDeed_in (M 3 k) with e | ⟨j, hj, hj2, e⟩
                · exact absurd (hkd.trans e) hn
                · exact ⟨j, hj2, hkd.trans e, fun _ => ho.resolve_left ho6⟩
        · rw [if_pos hy] at hr
          rw [← hr] at h
          exact h Mk ⟨a1, a2, a3, a4⟩ hok (by show A.length ≤ c; omega)
      unfold wpX5_readActs_51
      rw [ek, r3]
      refine ⟨fun hn => ⟨vp_in_nI (by omega) (by decide), sX5_deedOf (h78 _ (by rw [if_neg hn]))⟩, fun hy => ⟨vp_in_nI (by omega) (by decide), sX5_weatherOf (h78 _ (by rw [if_pos hy]))⟩⟩
    unfold wpX5_readActs_10
    rw [a2 1 (by decide), e1]
    refine pk_le c k (fun h => by omega) (fun _ => ?_)
    rw [ek, r3]
    refine ⟨fun hn => hact (fun z => absurd z hn), fun hy => ⟨vp_in_nI (by omega) (by decide), sX5_oneOf ⟨fun h6 => hact (fun _ => h6), fun h6 => ⟨vp_in_nI (by omega) (by decide), ?_⟩⟩⟩⟩
    rw [r3]
    refine sX5_oneOf ?_
    unfold wpX5_readActs_120
    intro a ha
    rw [if_pos ⟨hy, h6⟩] at hr
    refine hK _ ⟨Mk, pOne (M 3 k), A, by show (Mk, L, pOne (M 3 k), a) = _; rw [ha, nI_1], ⟨a1, a2, a3, a4⟩, by omega, hok, ?_, hr⟩
    rcases pOne_in hx with ⟨e, -⟩ | ⟨a, ha, -, e⟩
    · exact absurd e h6
    · exact Or.inr ⟨a, ha, e⟩
  · rintro K _ ⟨Mk, o, A, rfl, ⟨a1, a2, a3, a4⟩, hlen, hok, ho, hr⟩
    show wpX5_readActs_10 post _ Mk L o (nI c)
    unfold wpX5_readActs_10 wpX5_readActs_141
    rw [a2 1 (by decide), e1]
    refine pk_le c c (fun _ => ?_) (fun h => by omega)
    rw [Nat.sub_self, prun] at hr
    rw [← hr] at h
    have := h Mk ⟨a1, a2, a3, a4⟩ hok hlen
    refine ⟨fun hn => ?_, fun hy => ?_⟩
    · rw [if_neg hn] at this; exact this
    · rw [if_pos hy] at this; exact this
/-- the model's acts of the pad -/
def mActs (M M' : Mm) (A : List (Int32 × Int32)) : Prop := (∀ a, a ≠ 42 → a ≠ 54 → a ≠ 55 → M' a = M a) ∧ (∀ j, j ≠ 16 → M' 42 j = M 42 j) ∧ M' 42 16 = nI A.length ∧ (∀ i p, A[i]? = some p → M' 54 i = p.1 ∧ (¬ p.2 = -6 → M' 55 i = p.2))
theorem sX9_close {x : Int32} {a : Nat} (ha : a < 60) (e : M 42 16 = nI a) (h : ∀ M', (M' = zs (zs M 54 a x) 42 16 (nI (a + 1))) → post 0 M' L) : wpX9_close x M L post := by
  unfold wpX9_close
  rw [e, nI_clamp (by omega)]
  refine ⟨vp_in_nI ha (by decide), fun M1 q1 M2 q2 => h M2 ?_⟩
  rw [q2, q1, zs_ne (by decide), e, nI_1]
theorem sX9_fault {c : Nat} (hc : c ≤ 60) (e1 : M 42 13 = nI c) (hs : ∀ i, i < c → zlt 127 (M 53 i)) (h : ∀ M', mActs M M' (prun (M 53) c 0 (-6) []).2 → post (prun (M 53) c 0 (-6) []).1 M' L) : wpX9_fault M L post := by
  unfold wpX9_fault
  intro M0 e0
  unfold wlX9_fault_9
  refine zlp_forI c (fun k s => ∃ Mk o A, s = (Mk, L, (if o = -6 then (0 : Int32) else 1), nI k) ∧ mActs M Mk A ∧ A.length ≤ k ∧ (¬ o = -6 → Mk 55 A.length = o) ∧ prun (M 53) (c - k) k o A = prun (M 53) c 0 (-6) []) ⟨M0, -6, [], rfl, ⟨fun a h1 _ _ => by rw [e0, zs_ne h1], fun j hj => by rw [e0, zs_nj hj], by rw [e0, zs_eq]; rfl, fun i p hp => by cases hp⟩, Nat.le_refl 0, fun z => absurd rfl z, rfl⟩ ?_ ?_
  · rintro k K _ hk ⟨Mk, o, A, rfl, ⟨a1, a2, a3, a4⟩, hlen, ho, hr⟩ hK
    show wpX9_fault_9 post _ Mk L (if o = -6 then (0 : Int32) else 1) (nI k)
    have ek : (nI k).toNatClampNeg = k := nI_clamp (by omega)
    have r3 : Mk 53 = M 53 := a1 53 (by decide) (by decide) (by decide)
    have hx := hs k hk
    rw [show c - k = (c - (k + 1)) + 1 by omega, prun] at hr
    have el : (nI A.length).toNatClampNeg = A.length := nI_clamp (by omega)
    obtain ⟨x, ex⟩ : ∃ x, x = M 53 k := ⟨_, rfl⟩
    rw [← ex] at hr hx
    -- an act is closed
    have hclose : ∀ (kd : Int32) (Mj : Mm), (∀ a, a ≠ 55 → Mj a = Mk a) → (∀ i, i < A.length → Mj 55 i = Mk 55 i) → (¬ o = -6 → Mj 55 A.length = o) → ¬ kd = -6 → (o = -6 → pOne x = -6) → kd = (if o = -6 then pWea x else pDeed x) → wpX9_close kd Mj L (fun r_25 M_25 L_25 => (0 ≤ r_25 → ∀ a_35 : Int32, a_35 = nI k + (1 : Int32) → K (M_25, L_25, r_25, a_35)) ∧ (¬ (0 ≤ r_25) → post (nI k) M_25 L_25)) := by
      intro kd Mj m1 m2 m3 hkd hno ekd
      refine sX9_close (a := A.length) (by omega) (by rw [m1 42 (by decide)]; exact a3) (fun M' q => bt_ (by decide) (fun a ha => ?_))
      rw [if_neg (fun z => z.2 (hno z.1)), ← ekd, if_neg hkd] at hr
      refine hK _ ⟨M', -6, A ++ [(kd, o)], by show (M', L, (0 : Int32), a) = _; rw [ha, nI_1]; rfl, ⟨fun b h1 h2 h3 => ?_, fun j hj => ?_, ?_, fun i p hp => ?_⟩, ?_, fun z => absurd rfl z, hr⟩
      · rw [q, zs_ne h1, zs_ne h2, m1 b h3]; exact a1 b h1 h2 h3
      · rw [q, zs_nj hj, zs_ne (by decide), m1 42 (by decide)]; exact a2 j hj
      · rw [q, zs_eq, List.length_append]; rfl
      · have r4 : M' 54 i = if i = A.length then kd else Mk 54 i := by rw [q, zs_ne (by decide), zs_at, m1 54 (by decide)]
        have r5 : M' 55 i = Mj 55 i := by rw [q, zs_ne (by decide), zs_ne (by decide)]
        rw [r4, r5]
        rcases app_at hp with ⟨hi, hq⟩ | ⟨hi, hq⟩
        · rw [if_neg (by omega), m2 i hi]; exact a4 i p hq
        · rw [if_pos hi, hq, hi]; exact ⟨rfl, m3⟩
      · rw [List.length_append]; show A.length + 1 ≤ k + 1; omega
    have hfail : ∀ (Mj : Mm), (∀ a, a ≠ 55 → Mj a = Mk a) → (∀ i, i < A.length → Mj 55 i = Mk 55 i) → (o = -6 → pOne x = -6) → (if o = -6 then pWea x else pDeed x) = -6 → post (nI k) Mj L := by
      intro Mj m1 m2 hno ekd
      rw [if_neg (fun z => z.2 (hno z.1)), if_pos ekd] at hr
      rw [← hr] at h
      refine h Mj ⟨fun b h1 h2 h3 => ?_, fun j hj => ?_, ?_, fun i p hp => ?_⟩
      · rw [m1 b h3]; exact a1 b h1 h2 h3
      · rw [m1 42 (by decide)]; exact a2 j hj
      · rw [m1 42 (by decide)]; exact a3
      · rw [m1 54 (by decide), m2 i (List.getElem?_eq_some_iff.mp hp).1]; exact a4 i p hp
    unfold wpX9_fault_9
    rw [a2 13 (by decide), e1]
    refine pk_le c k (fun h => by omega) (fun _ => ⟨vp_in_nI (by omega) (by decide), ?_⟩)
    rw [ek, r3, ← ex]
    unfold wpX9_readOn wpX9_readOn_51 wpX9_readOn_84 wpX9_readOn_176
    by_cases ho6 : o = -6
    · rw [if_pos ho6]
      refine nf_ (by decide) ?_
      have hw : pWea x = (if o = -6 then pWea x else pDeed x) := by rw [if_pos ho6]
      -- what stands in who, whatever it is
      have h84 : ∀ (w r : Int32), (r = 0 → pOne x = -6) → (¬ r = 0 → ¬ pOne x = -6 ∧ w = pOne x) → vp_in (Mk 42 16) 60 ∧ (∀ M_84 : Mm, M_84 = zs Mk 55 (Mk 42 16).toNatClampNeg w → (((x = (46 : Int32) → wpX9_close (4 : Int32) M_84 L (fun r_162 M_162 L_162 => (0 ≤ r_162 → ∀ a_35 : Int32, a_35 = nI k + (1 : Int32) → K (M_162, L_162, r_162, a_35)) ∧ (¬ (0 ≤ r_162) → post (nI k) M_162 L_162))) ∧ (¬ (x = (46 : Int32)) → (x = (60 : Int32) → wpX9_close (2 : Int32) M_84 L (fun r_162 M_162 L_162 => (0 ≤ r_162 → ∀ a_35 : Int32, a_35 = nI k + (1 : Int32) → K (M_162, L_162, r_162, a_35)) ∧ (¬ (0 ≤ r_162) → post (nI k) M_162 L_162))) ∧ (¬ (x = (60 : Int32)) → (x = (62 : Int32) → wpX9_close (3 : Int32) M_84 L (fun r_162 M_162 L_162 => (0 ≤ r_162 → ∀ a_35 : Int32, a_35 = nI k + (1 : Int32) → K (M_162, L_162, r_162, a_35)) ∧ (¬ (0 ≤ r_162) → post (nI k) M_162 L_162))) ∧ (¬ (x = (62 : Int32)) → (x = (99 : Int32) → wpX9_close (0 : Int32) M_84 L (fun r_162 M_162 L_162 => (0 ≤ r_162 → ∀ a_35 : Int32, a_35 = nI k + (1 : Int32) → K (M_162, L_162, r_162, a_35)) ∧ (¬ (0 ≤ r_162) → post (nI k) M_162 L_162))) ∧ (¬ (x = (99 : Int32)) → (x = (100 : Int32) → wpX9_close (1 : Int32) M_84 L (fun r_162 M_162 L_162 => (0 ≤ r_162 → ∀ a_35 : Int32, a_35 = nI k + (1 : Int32) → K (M_162, L_162, r_162, a_35)) ∧ (¬ (0 ≤ r_162) → post (nI k) M_162 L_162))) ∧ (¬ (x = (100 : Int32)) → (r = 0 → ((0 : Int32) ≤ -6 → ∀ a_35 : Int32, a_35 = nI k + (1 : Int32) → K (M_84, L, -6, a_35)) ∧ (¬ ((0 : Int32) ≤ -6) → post (nI k) M_84 L)) ∧ (¬ (r = 0) → ((0 : Int32) ≤ 1 → ∀ a_35 : Int32, a_35 = nI k + (1 : Int32) → K (M_84, L, 1, a_35)) ∧ (¬ ((0 : Int32) ≤ 1) → post (nI k) M_84 L)))))))))) := by
        intro w r hr0 hr1
        rw [a3, el]
        refine ⟨vp_in_nI (by omega) (by decide), fun Mj q => ?_⟩
        have m1 : ∀ a, a ≠ 55 → Mj a = Mk a := fun a ha => by rw [q, zs_ne ha]
        have m2 : ∀ i, i < A.length → Mj 55 i = Mk 55 i := fun i hi => by rw [q, zs_nj (by omega)]
        have go : ∀ (s kd : Int32), x = s → pWea s = kd → ¬ kd = -6 → pOne s = -6 → wpX9_close kd Mj L (fun r_25 M_25 L_25 => (0 ≤ r_25 → ∀ a_35 : Int32, a_35 = nI k + (1 : Int32) → K (M_25, L_25, r_25, a_35)) ∧ (¬ (0 ≤ r_25) → post (nI k) M_25 L_25)) := by
          intro s kd hx1 hk1 hk2 hp1
          subst hx1
          exact hclose kd Mj m1 m2 (fun z => absurd ho6 z) hk2 (fun _ => hp1) (by rw [← hw, hk1])
        refine ⟨fun e => go 46 4 e (by decide) (by decide) (by decide), fun n1 => ⟨fun e => go 60 2 e (by decide) (by decide) (by decide), fun n2 => ⟨fun e => go 62 3 e (by decide) (by decide) (by decide), fun n3 => ⟨fun e => go 99 0 e (by decide) (by decide) (by decide), fun n4 => ⟨fun e => go 100 1 e (by decide) (by decide) (by decide), fun n5 => ⟨fun h0 => bf_ (by decide) ?_, fun h1 => bt_ (by decide) (fun a ha => ?_)⟩⟩⟩⟩⟩⟩
        · refine hfail Mj m1 m2 (fun _ => hr0 h0) ?_
          rw [← hw]; unfold pWea
          rw [if_neg n1, if_neg n2, if_neg n3, if_neg n4, if_neg n5]
        · obtain ⟨z1, z2⟩ := hr1 h1
          rw [if_pos ⟨ho6, z1⟩] at hr
          refine hK _ ⟨Mj, pOne x, A, by show (Mj, L, (1 : Int32), a) = _; rw [ha, nI_1, if_neg z1], ⟨fun b h1 h2 h3 => by rw [m1 b h3]; exact a1 b h1 h2 h3, fun j hj => by rw [m1 42 (by decide)]; exact a2 j hj, by rw [m1 42 (by decide)]; exact a3, fun i p hp => by rw [m1 54 (by decide), m2 i (List.getElem?_eq_some_iff.mp hp).1]; exact a4 i p hp⟩, by omega, fun _ => by rw [q, zs_eq, z2], hr⟩
      refine sX9_in 65 70 (fun hin => c1 (h84 _ 1 (fun z => absurd z (by decide)) (fun _ => ?_))) (fun hout => c0 (h84 _ 0 (fun _ => ?_) (fun z => absurd rfl z)))
      · rcases pOne_in hx with ⟨-, e⟩ | ⟨a, ha, e1, e2⟩
        · omega
        · rw [e2]
          refine ⟨nlt_m6 (n := 6) (by decide) ⟨a, ha, rfl⟩, ?_⟩
          rw [e1, show (65 : Int32) = nI 65 from rfl, pk_sub (by omega)]
          congr 1
          omega
      · rcases pOne_in hx with ⟨e, -⟩ | ⟨a, ha, e1, e2⟩
        · exact e
        · rw [e1, nI_ti (by omega)] at hout
          omega
    · rw [if_neg ho6]
      refine nt_ rfl ?_
      have hw : pDeed x = (if o = -6 then pWea x else pDeed x) := by rw [if_neg ho6]
      have hno : o = -6 → pOne x = -6 := fun z => absurd z ho6
      have go : ∀ (s kd : Int32), x = s → pDeed s = kd → ¬ kd = -6 → wpX9_close kd Mk L (fun r_25 M_25 L_25 => (0 ≤ r_25 → ∀ a_35 : Int32, a_35 = nI k + (1 : Int32) → K (M_25, L_25, r_25, a_35)) ∧ (¬ (0 ≤ r_25) → post (nI k) M_25 L_25)) := by
        intro s kd hx1 hk1 hk2
        subst hx1
        exact hclose kd Mk (fun _ _ => rfl) (fun _ _ => rfl) ho hk2 hno (by rw [← hw, hk1])
      refine ⟨fun n1 => ⟨fun n2 => ⟨fun n3 => bf_ (by decide) ?_, fun e => go 117 7 e (by decide) (by decide)⟩, fun e => go 62 6 e (by decide) (by decide)⟩, fun e => go 60 5 e (by decide) (by decide)⟩
      refine hfail Mk (fun _ _ => rfl) (fun _ _ => rfl) hno ?_
      rw [← hw]; unfold pDeed
      rw [if_neg n1, if_neg n2, if_neg n3]
  · rintro K _ ⟨Mk, o, A, rfl, ⟨a1, a2, a3, a4⟩, hlen, ho, hr⟩
    show wpX9_fault_9 post _ Mk L (if o = -6 then (0 : Int32) else 1) (nI c)
    unfold wpX9_fault_9 wpX9_fault_54
    rw [a2 13 (by decide), e1]
    refine pk_le c c (fun _ => ?_) (fun h => by omega)
    rw [Nat.sub_self, prun] at hr
    rw [← hr] at h
    have := h Mk ⟨a1, a2, a3, a4⟩
    by_cases ho6 : o = -6
    · rw [if_pos ho6] at this ⊢
      exact nt_ rfl this
    · rw [if_neg ho6] at this ⊢
      exact nf_ (by decide) this
end PARSE
