/-! the refusal of both -/
theorem prun_cong {s s' : Nat → Int32} : ∀ d i o A, (∀ j, j < i + d → s j = s' j) → prun s d i o A = prun s' d i o A
  | 0, _, _, _, _ => rfl
  | d + 1, i, o, A, h => by
    unfold prun
    rw [h i (by omega), prun_cong d (i + 1) _ _ (fun j hj => h j (by omega)), prun_cong d (i + 1) _ _ (fun j hj => h j (by omega))]
theorem prun_pos {s : Nat → Int32} : ∀ d i o A, i + d ≤ 60 → (prun s d i o A).1 = -6 ∨ zlt 61 (prun s d i o A).1
  | 0, i, o, A, h => by
    unfold prun
    split
    · exact Or.inl rfl
    · exact Or.inr ⟨i, by omega, rfl⟩
  | d + 1, i, o, A, h => by
    unfold prun
    split
    · exact prun_pos d (i + 1) _ _ (by omega)
    generalize (if o = -6 then pWea (s i) else pDeed (s i)) = kd
    split
    · exact Or.inr ⟨i, by omega, rfl⟩
    · exact prun_pos d (i + 1) _ _ (by omega)
def aP (M : Mm) (c : Nat) : Int32 × List (Int32 × Int32) := prun (M 3) c 0 (-6) []
/-- behind the class's refusal -/
def RC (t u c : Nat) (M Mc : Mm) (r : Int32) : Prop := (∀ p, p ∈ (aP M c).2 → aOk p) ∧ (aP M c).2.length ≤ c ∧ ((¬ (aP M c).1 = -6 ∧ r = -5 ∧ cActs M Mc (aP M c).2) ∨ ((aP M c).1 = -6 ∧ ∃ M0 M1, cActs M M0 (aP M c).2 ∧ YD 35 (vM M) t u M1 ∧ BEG t M0 M1 ∧ Mc = cz M1 (aP M c).2.length ∧ r = if Mc 6 1 = -6 then 0 else -3))
section REF
variable {M : Mm} {L : Ml} {t u c : Nat}
theorem BEG_acts {A : List (Int32 × Int32)} {M0 M1 : Mm} (hA : cActs M M0 A) (hB : BEG t M0 M1) : (∀ i p, A[i]? = some p → M1 4 i = p.1 ∧ M1 5 i = p.2) ∧ M1 2 4 = nI A.length := by
  obtain ⟨-, -, a3, a4⟩ := hA
  rw [hB.1 4 (by decide) (Or.inl (by decide)), hB.1 5 (by decide) (Or.inl (by decide)), hB.1 2 (by decide) (Or.inl (by decide))]
  exact ⟨a4, a3⟩
theorem JJ_of {A : List (Int32 × Int32)} {M0 M1 : Mm} (hok : ∀ p, p ∈ A → aOk p) (hlen : A.length ≤ 60) (hA : cActs M M0 A) (hY1 : YD 35 (vM M) t u M1) (hB : BEG t M0 M1) : ∃ d0, ∀ k, k ≤ A.length → ∃ B', JJ t d0 A.length (mix (cz M1 k) B') := by
  obtain ⟨b1, b2⟩ := BEG_acts hA hB
  obtain ⟨B, hBd⟩ : ∃ B, B = zr (zr (zr M 54 (M1 4)) 55 (M1 5)) 42 (fun j => if j = 17 then 0 else if j = 18 then -6 else if j = 21 then -6 else if j = 22 then -6 else M 42 j) := ⟨_, rfl⟩
  have bn : ∀ a, a ≠ 42 → a ≠ 54 → a ≠ 55 → B a = M a := fun a h1 h2 h3 => by rw [hBd, zr_ne h1, zr_ne h3, zr_ne h2]
  have b42 : B 42 = (fun j => if j = 17 then 0 else if j = 18 then -6 else if j = 21 then -6 else if j = 22 then -6 else M 42 j) := by rw [hBd, zr_eq]
  have b54 : B 54 = M1 4 := by rw [hBd, zr_ne (by decide), zr_ne (by decide), zr_eq]
  have b55 : B 55 = M1 5 := by rw [hBd, zr_ne (by decide), zr_eq]
  obtain ⟨d0, hJ⟩ := JJ_start (N := M) (B := B) hok hY1 hB.2 b1 ⟨fun a h1 h2 => bn a (by omega) (by omega) (by omega), by rw [b42]; rfl, by rw [b42]; rfl, by rw [b42]; rfl, by rw [b42]; rfl, by rw [b42]; rfl, by rw [b42]; rfl, fun i p hp => by rw [b54, b55]; exact ⟨(b1 i p hp).1, fun _ => (b1 i p hp).2⟩⟩
  refine ⟨d0, fun k hk => ⟨mz t B k, ?_⟩⟩
  have h1 := (JJ_zst hJ hlen k hk).1
  rw [zst_mix hJ hlen k hk] at h1
  exact h1
theorem cok_of {A : List (Int32 × Int32)} {M0 M1 : Mm} (hok : ∀ p, p ∈ A → aOk p) (hlen : A.length ≤ 60) (hA : cActs M M0 A) (hY1 : YD 35 (vM M) t u M1) (hB : BEG t M0 M1) : ∀ k, k < A.length → cok (cz M1 k) := by
  intro k hk
  obtain ⟨d0, hJ⟩ := JJ_of hok hlen hA hY1 hB
  obtain ⟨B', ⟨u', hY⟩, -⟩ := hJ k (by omega)
  have := YD_cok hY
  exact this
theorem RC_JJ {Mc : Mm} {r : Int32} (h : RC t u c M Mc r) (hc : c ≤ 60) (hr : ¬ r = -5) : ∃ d0 B', JJ t d0 (aP M c).2.length (mix Mc B') := by
  obtain ⟨hok, hlen, ⟨-, e, -⟩ | ⟨-, M0, M1, hA, hY1, hB, rfl, -⟩⟩ := h
  · exact absurd e hr
  · obtain ⟨d0, hJ⟩ := JJ_of hok (Nat.le_trans hlen hc) hA hY1 hB
    obtain ⟨B', hJ⟩ := hJ _ (Nat.le_refl _)
    exact ⟨d0, B', hJ⟩
theorem sX8_refusalOfDays {post : Int32 → Mm → Ml → Prop} (hY : YD 14 (vM M) t u M) (hP : PD c M) (h : ∀ r Mc, RC t u c M Mc r → post r Mc L) : wpX8_refusalOfDays M L post := by
  obtain ⟨p1, p2, p3, p4⟩ := hP
  unfold wpX8_refusalOfDays wpX8_refusalOfDays_48
  refine sX5_readActs (c := c) p1 p2 (fun i hi => (p4 i hi).2) (fun M0 hA hok hlen => ⟨fun h6 => ?_, fun h6 => h _ _ ⟨hok, hlen, Or.inl ⟨h6, rfl, hA⟩⟩⟩)
  unfold wpX2_live
  have hY0 : YD 14 (vM M) t u M0 := YD_same hY (fun i hi => hA.1 _ (by omega) (by omega) (by omega))
  refine sX2_begin hY0 (fun M1 hY1 hB => ?_)
  obtain ⟨b1, b2⟩ := BEG_acts hA hB
  refine sX2_live_loop (n := (aP M c).2.length) (by exact Nat.le_trans hlen p1) b2 (fun i hi => ?_) (cok_of hok (Nat.le_trans hlen p1) hA hY1 hB) ?_
  · obtain ⟨p, hq⟩ : ∃ p, (aP M c).2[i]? = some p := ⟨_, List.getElem?_eq_getElem hi⟩
    obtain ⟨q1, q2⟩ := b1 i p hq
    obtain ⟨j, hj, e1, e2⟩ := hok p (List.mem_of_getElem? hq)
    exact ⟨j, hj, q1.trans e1, fun h5 => by rw [q2]; exact e2 h5⟩
  · refine ⟨fun hb => h _ _ ⟨hok, hlen, Or.inr ⟨h6, M0, M1, hA, hY1, hB, rfl, ?_⟩⟩, fun hb => h _ _ ⟨hok, hlen, Or.inr ⟨h6, M0, M1, hA, hY1, hB, rfl, ?_⟩⟩⟩
    · rw [if_neg hb]
    · rw [if_pos hb]
/-- what the class's refusal leaves -/
theorem RC_fr {Mc : Mm} {r : Int32} (h : RC t u c M Mc r) : (∀ a, a ≠ 2 → a ≠ 4 → a ≠ 5 → a ≠ 6 → (a < 35 ∨ 41 < a) → Mc a = M a) ∧ Mc 2 1 = M 2 1 := by
  obtain ⟨-, -, ⟨-, -, hA⟩ | ⟨-, M0, M1, hA, -, hB, rfl, -⟩⟩ := h
  · exact ⟨fun a h1 h2 h3 _ _ => hA.1 a h1 h2 h3, hA.2.1 1 (by decide)⟩
  · refine ⟨fun a h1 h2 h3 h4 h5 => ?_, ?_⟩
    · rw [cz_ne h4 h5, hB.1 a h4 h5, hA.1 a h1 h2 h3]
    · rw [cz_ne (by decide) (Or.inl (by decide)), hB.1 2 (by decide) (Or.inl (by decide)), hA.2.1 1 (by decide)]
/-- behind both refusals -/
def RB (t c : Nat) (M Mc Z : Mm) (r r2 : Int32) : Prop := (∀ a, a < 42 → Z a = Mc a) ∧ (∀ a, a ≠ 2 → a ≠ 4 → a ≠ 5 → a ≠ 6 → a < 35 → Z a = M a) ∧ Z 2 1 = M 2 1 ∧ (∀ a, 50 ≤ a → a ≠ 54 → a ≠ 55 → a ≠ 56 → Z a = M a) ∧ Z 46 = M 46 ∧ (Z 42 0 = M 42 0 ∧ Z 42 11 = M 42 11 ∧ Z 42 13 = M 42 13) ∧ HAD M (Z 56) ∧ ((r = -5 ∧ r2 = -5) ∨ ∃ d0 n, n ≤ 60 ∧ JJ t d0 n Z ∧ Z 2 4 = nI n ∧ Z 42 16 = nI n ∧ ((r = 0 ∧ r2 = -6 ∧ Z 6 1 = -6) ∨ (r = -3 ∧ r2 = -3 ∧ ¬ Z 6 1 = -6)))
theorem HAD_cong {M M' : Mm} {H : Nat → Int32} (h : HAD M H) (hc : ∀ a, 43 ≤ a → a ≤ 49 → M' a = M a) : HAD M' H := by
  unfold HAD at h ⊢
  rw [hc 43 (by decide) (by decide), hc 44 (by decide) (by decide), hc 45 (by decide) (by decide), hc 47 (by decide) (by decide), hc 48 (by decide) (by decide), hc 49 (by decide) (by decide)]
  exact h
theorem sX9_refusal_x {Mc Mx : Mm} {r : Int32} {post : Int32 → Mm → Ml → Prop} (hY : YD 14 (vM M) t u M) (hP : PD c M) (hC : RC t u c M Mc r) (hi : ∀ a, 42 ≤ a → Mx a = M a) (h : ∀ r2 Z, (∀ a, a < 42 → Z a = Mx a) → RB t c M Mc (mix Mc Z) r r2 → post r2 Z L) : wpX9_refusal Mx L post := by
  obtain ⟨p1, p2, p3, p4⟩ := hP
  obtain ⟨f1, f2⟩ := RC_fr hC
  obtain ⟨hok, hlen, hC⟩ := hC
  have ht := hY.1
  unfold wpX9_refusal wpX9_refusal_32
  refine sX9_keepNow (fun H hH => ?_)
  have hH : HAD M H := HAD_cong hH (fun a h1 h2 => (hi a (by omega)).symm)
  have n53 : zr Mx 56 H 53 = M 53 := by rw [zr_ne (by decide), hi 53 (by decide)]
  have n42 : zr Mx 56 H 42 = M 42 := by rw [zr_ne (by decide), hi 42 (by decide)]
  have epr : prun (zr Mx 56 H 53) c 0 (-6) [] = aP M c := by
    rw [n53]
    exact prun_cong c 0 (-6) [] (fun j hj => ((p4 j (by omega)).1).symm)
  refine sX9_fault (c := c) p1 (by rw [n42]; exact p3) (fun i hi => by rw [n53, ← (p4 i hi).1]; exact (p4 i hi).2) (fun M2 hM => ?_)
  rw [epr] at hM ⊢
  obtain ⟨m1, m2, m3, m4⟩ := hM
  have k1 : ∀ a, a ≠ 42 → a ≠ 54 → a ≠ 55 → a ≠ 56 → M2 a = Mx a := fun a h1 h2 h3 h4 => by rw [m1 a h1 h2 h3, zr_ne h4]
  have k56 : M2 56 = H := by rw [m1 56 (by decide) (by decide) (by decide), zr_eq]
  have k42 : ∀ j, j ≠ 16 → M2 42 j = M 42 j := fun j hj => by rw [m2 j hj, n42]
  have hlo : ∀ Z a, a ≠ 2 → a ≠ 4 → a ≠ 5 → a ≠ 6 → a < 35 → mix Mc Z a = M a := fun Z a h1 h2 h3 h4 h5 => by rw [mix_lt (by omega)]; exact f1 a h1 h2 h3 h4 (Or.inl h5)
  rcases hC with ⟨h6, rfl, hA⟩ | ⟨h6, M0, M1, hA, hY1, hB, eMc, er⟩
  · refine bf_ ?_ (h _ _ (fun a ha => k1 a (by omega) (by omega) (by omega) (by omega)) ⟨fun a ha => mix_lt ha, hlo _, f2, fun a h1 h2 h3 h4 => by rw [mix_ge (by omega), k1 a (by omega) h2 h3 h4]; exact hi a (by omega), by rw [mix_ge (by decide), k1 46 (by decide) (by decide) (by decide) (by decide)]; exact hi 46 (by decide), ⟨k42 0 (by decide), k42 11 (by decide), k42 13 (by decide)⟩, by rw [mix_ge (by decide), k56]; exact hH, Or.inl ⟨rfl, rfl⟩⟩)
    rcases prun_pos (s := M 3) c 0 (-6) [] (by omega) with e | ⟨i, hi, e⟩
    · exact absurd e h6
    · show ¬ (prun (M 3) c 0 (-6) []).1 < 0
      rw [e]
      exact nI_nlt (b := 0) (by omega) (by omega)
  · refine bt_ (by rw [h6]; decide) ?_
    unfold wpX9_goDays
    intro B1 e1 B2 e2 B3 e3 B e4
    obtain ⟨b1, b2⟩ := BEG_acts hA hB
    have bn : ∀ a, a ≠ 42 → B a = M2 a := fun a ha => by rw [e4, zs_ne ha, e3, zs_ne ha, e2, zs_ne ha, e1, zs_ne ha]
    have b42 : ∀ j, B 42 j = if j = 22 then -6 else if j = 21 then -6 else if j = 18 then -6 else if j = 17 then 0 else M2 42 j := fun j => by rw [e4, zs_at, e3, zs_at, e2, zs_at, e1, zs_at]
    have bhi : ∀ a, a ≠ 42 → a ≠ 54 → a ≠ 55 → a ≠ 56 → 42 ≤ a → B a = M a := fun a h1 h2 h3 h4 h5 => by rw [bn a h1, k1 a h1 h2 h3 h4, hi a h5]
    have b42' : ∀ j, j ≠ 16 → j ≠ 17 → j ≠ 18 → j ≠ 21 → j ≠ 22 → B 42 j = M 42 j := fun j h1 h2 h3 h4 h5 => by rw [b42, if_neg h5, if_neg h4, if_neg h3, if_neg h2, k42 j h1]
    have b16 : B 42 16 = nI (aP M c).2.length := by rw [b42, if_neg (by decide), if_neg (by decide), if_neg (by decide), if_neg (by decide)]; exact m3
    have b54 : ∀ i p, (aP M c).2[i]? = some p → B 54 i = p.1 ∧ (¬ p.2 = -6 → B 55 i = p.2) := fun i p hp => by rw [bn 54 (by decide), bn 55 (by decide)]; exact m4 i p hp
    have hl : (aP M c).2.length ≤ 60 := Nat.le_trans hlen p1
    obtain ⟨d0, hJ⟩ := JJ_start (N := M) (B := B) hok hY1 hB.2 b1 ⟨fun a h1 h2 => bhi a (by omega) (by omega) (by omega) (by omega) (by omega), b42' 0 (by decide) (by decide) (by decide) (by decide) (by decide), b42' 11 (by decide) (by decide) (by decide) (by decide) (by decide), by rw [b42]; rfl, by rw [b42]; rfl, by rw [b42]; rfl, by rw [b42]; rfl, b54⟩
    obtain ⟨n, hn⟩ : ∃ n, n = (aP M c).2.length := ⟨_, rfl⟩
    rw [← hn] at hJ hl b16 eMc
    have hz := fun k hk => zst_mix hJ hl k hk
    have hj := fun k hk => JJ_zst hJ hl k hk
    refine sX9_goDays_loop (t := t) hl b16 (fun i hi => ?_) (fun k hk => ?_) ?_
    · obtain ⟨p, hq⟩ : ∃ p, (aP M c).2[i]? = some p := ⟨_, List.getElem?_eq_getElem (by omega)⟩
      obtain ⟨q1, q2⟩ := b54 i p hq
      obtain ⟨j, hj, e1, e2⟩ := hok p (List.mem_of_getElem? hq)
      exact ⟨j, hj, q1.trans e1, fun h5 => by rw [q2 (nlt_m6 (by decide) (e2 h5))]; exact e2 h5⟩
    · have h1 := (hj k (by omega)).1
      rw [hz k (by omega)] at h1
      obtain ⟨⟨u', hY⟩, -⟩ := h1
      have := YD_mok hY
      exact this
    · obtain ⟨J1, J2⟩ := hj n (Nat.le_refl n)
      rw [hz n (Nat.le_refl n), ← eMc] at J1 J2
      obtain ⟨Z, eZ⟩ : ∃ Z, Z = mz t B n := ⟨_, rfl⟩
      rw [← eZ] at J1 J2 ⊢
      have zlo : ∀ a, a < 42 → Z a = Mx a := fun a ha => by rw [eZ, mz_lt ha, bn a (by omega), k1 a (by omega) (by omega) (by omega) (by omega)]
      have z42 : ∀ j, j ≠ 16 → j ≠ 17 → j ≠ 18 → j ≠ 19 → j ≠ 21 → j ≠ 22 → Z 42 j = M 42 j := fun j h0 h1 h2 h3 h4 h5 => by rw [eZ, mz_42i h1 h2 h3 h4 h5, b42' j h0 h1 h2 h4 h5]
      have z24 : mix Mc Z 2 4 = nI n := by rw [mix_lt (by decide), eMc, cz_ne (by decide) (Or.inl (by decide)), b2, hn]
      have z16 : Z 42 16 = nI n := by rw [eZ, mz_42i (by decide) (by decide) (by decide) (by decide) (by decide), b16]
      have main : ∀ r2, ((r = 0 ∧ r2 = -6 ∧ mix Mc Z 6 1 = -6) ∨ (r = -3 ∧ r2 = -3 ∧ ¬ mix Mc Z 6 1 = -6)) → RB t c M Mc (mix Mc Z) r r2 := by
        intro r2 hr
        refine ⟨fun a ha => mix_lt ha, hlo Z, f2, fun a h1 h2 h3 h4 => ?_, ?_, ⟨z42 0 (by decide) (by decide) (by decide) (by decide) (by decide) (by decide), z42 11 (by decide) (by decide) (by decide) (by decide) (by decide) (by decide), z42 13 (by decide) (by decide) (by decide) (by decide) (by decide) (by decide)⟩, ?_, Or.inr ⟨d0, n, hl, J1, z24, z16, hr⟩⟩
        · rw [mix_ge (by omega), eZ, mz_hi h1]; exact bhi a (by omega) h2 h3 h4 (by omega)
        · rw [J2.1 46 (by decide) (Or.inr (Or.inr rfl)), mix_ge (by decide)]; exact bhi 46 (by decide) (by decide) (by decide) (by decide) (by decide)
        · rw [mix_ge (by decide), eZ, mz_hi (by decide), bn 56 (by decide), k56]; exact hH
      obtain ⟨-, -, ⟨g1, g2, g3, g4⟩, -⟩ := J1
      have e61 : Mc 6 1 = mix Mc Z 6 1 := rfl
      have e42 : mix Mc Z 42 = Z 42 := mix_ge (by decide)
      rw [e42] at g1
      rw [e61] at er
      refine ⟨fun hlt => h _ _ zlo (main _ (Or.inl ?_)), fun hlt => h _ _ zlo (main _ (Or.inr ?_))⟩
      · have hb : mix Mc Z 6 1 = -6 := by
          rcases g3 with e | e
          · exact e
          · rw [← g1] at hlt
            exact absurd (nlt_0 (by decide) e) (fa_of_lt hlt).2.1
        exact ⟨by rw [er, if_pos hb], rfl, hb⟩
      · have hb : ¬ mix Mc Z 6 1 = -6 := fun e => hlt (by rw [← g1, e]; decide)
        exact ⟨by rw [er, if_neg hb], rfl, hb⟩
theorem sX9_refusal {Mc : Mm} {r : Int32} {post : Int32 → Mm → Ml → Prop} (hY : YD 14 (vM M) t u M) (hP : PD c M) (hC : RC t u c M Mc r) (h : ∀ r2 Z, RB t c M Mc Z r r2 → post r2 Z L) : wpX9_refusal Mc L post := by
  obtain ⟨f1, f2⟩ := RC_fr hC
  refine sX9_refusal_x hY hP hC (fun a ha => f1 a (by omega) (by omega) (by omega) (by omega) (by omega)) (fun r2 Z hz hB => h r2 Z ?_)
  have e : mix Mc Z = Z := by
    funext a
    by_cases ha : a < 42
    · rw [mix_lt ha, hz a ha]
    · rw [mix_ge ha]
  rw [e] at hB
  exact hB
theorem RI_back {Mc Z Z' : Mm} {r r2 : Int32} (hR : RI M) (h : RB t c M Mc Z r r2) (hb : BK Z Z') : RI Z' := by
  obtain ⟨a1, a2, a3, a4, a5, a6, ⟨a7, a8⟩, -⟩ := h
  obtain ⟨b1, b2, b3⟩ := hb
  refine RI_cong hR (fun a ha => ?_) ?_ ?_ ?_ ?_ (fun i h1 h2 k hk => ?_) (fun i h1 h2 k hk => ?_)
  · unfold kp at ha
    rw [b1 a (by omega) (by omega) (by omega) (by omega) (by omega) (by omega)]
    by_cases hl : a < 42
    · exact a2 a (by omega) (by omega) (by omega) (by omega) (by omega)
    · exact a4 a (by omega) (by omega) (by omega) (by omega)
  · rw [b1 2 (by decide) (by decide) (by decide) (by decide) (by decide) (by decide)]; exact a3
  · rw [b1 42 (by decide) (by decide) (by decide) (by decide) (by decide) (by decide)]; exact a6.1
  · rw [b1 42 (by decide) (by decide) (by decide) (by decide) (by decide) (by decide)]; exact a6.2.1
  · rw [b1 42 (by decide) (by decide) (by decide) (by decide) (by decide) (by decide)]; exact a6.2.2
  · obtain ⟨c1, c2, c3, c4⟩ := a7 k hk
    obtain ⟨d1, d2, d3, d4⟩ := b2 k hk
    rcases (show i = 43 ∨ i = 44 ∨ i = 45 ∨ i = 46 ∨ i = 47 by omega) with rfl | rfl | rfl | rfl | rfl
    · rw [← d1, c1]
    · rw [← d2, c2]
    · rw [← d3, c3]
    · rw [b1 46 (by decide) (by decide) (by decide) (by decide) (by decide) (by decide), a5]
    · rw [← d4, c4]
  · obtain ⟨c1, c2⟩ := a8 k hk
    obtain ⟨d1, d2⟩ := b3 k hk
    rcases (show i = 48 ∨ i = 49 by omega) with rfl | rfl
    · rw [← d1, c1]
    · rw [← d2, c2]
end REF
