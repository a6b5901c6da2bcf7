/-! gusts: the lowest numbers -/
theorem cop2 {u : Nat} (h : ¬ 2 ∣ u) : Nat.Coprime u 2 := by
  have h1 : Nat.gcd u 2 ∣ 2 := Nat.gcd_dvd_right u 2
  have h2 : Nat.gcd u 2 ∣ u := Nat.gcd_dvd_left u 2
  have h3 : Nat.gcd u 2 ≤ 2 := Nat.le_of_dvd (by decide) h1
  show Nat.gcd u 2 = 1
  generalize Nat.gcd u 2 = g at h1 h2 h3
  rcases (show g = 0 ∨ g = 1 ∨ g = 2 by omega) with rfl | rfl | rfl
  · exact absurd h1 (by decide)
  · rfl
  · exact absurd h2 h
theorem cop5 {u : Nat} (h : ¬ 5 ∣ u) : Nat.Coprime u 5 := by
  have h1 : Nat.gcd u 5 ∣ 5 := Nat.gcd_dvd_right u 5
  have h2 : Nat.gcd u 5 ∣ u := Nat.gcd_dvd_left u 5
  have h3 : Nat.gcd u 5 ≤ 5 := Nat.le_of_dvd (by decide) h1
  show Nat.gcd u 5 = 1
  generalize Nat.gcd u 5 = g at h1 h2 h3
  rcases (show g = 0 ∨ g = 1 ∨ g = 2 ∨ g = 3 ∨ g = 4 ∨ g = 5 by omega) with rfl | rfl | rfl | rfl | rfl | rfl
  · exact absurd h1 (by decide)
  · rfl
  · exact absurd h1 (by decide)
  · exact absurd h1 (by decide)
  · exact absurd h1 (by decide)
  · exact absurd h2 h
/-- behind i rounds of lowering -/
def LOW (U T h i u l : Nat) : Prop := ∃ d x y, U = u * d ∧ T = l * d ∧ l = 2 ^ x * 5 ^ y ∧ (¬ (2 ∣ u ∧ 2 ∣ l) ∨ x + i ≤ h) ∧ (¬ (5 ∣ u ∧ 5 ∣ l) ∨ y + i ≤ h)
theorem LOW_end {U T h u l : Nat} (hT : 0 < T) (hl : LOW U T h h u l) : u = U / Nat.gcd U T ∧ l = T / Nat.gcd U T := by
  obtain ⟨d, x, y, h1, h2, h3, h4, h5⟩ := hl
  have c2 : Nat.Coprime u (2 ^ x) := by
    cases x with
    | zero => exact Nat.coprime_one_right u
    | succ x =>
      have hd : 2 ∣ l := by rw [h3, Nat.pow_succ]; exact ⟨2 ^ x * 5 ^ y, by rw [Nat.mul_comm (2 ^ x) 2, Nat.mul_assoc]⟩
      have : ¬ 2 ∣ u := fun z => by
        rcases h4 with q | q
        · exact q ⟨z, hd⟩
        · omega
      exact Nat.Coprime.pow_right _ (cop2 this)
  have c5 : Nat.Coprime u (5 ^ y) := by
    cases y with
    | zero => exact Nat.coprime_one_right u
    | succ y =>
      have hd : 5 ∣ l := by rw [h3, Nat.pow_succ]; exact ⟨2 ^ x * 5 ^ y, by rw [← Nat.mul_assoc, Nat.mul_comm]⟩
      have : ¬ 5 ∣ u := fun z => by
        rcases h5 with q | q
        · exact q ⟨z, hd⟩
        · omega
      exact Nat.Coprime.pow_right _ (cop5 this)
  have hg : Nat.gcd u l = 1 := by
    rw [h3]
    exact Nat.Coprime.mul_right c2 c5
  have hd0 : 0 < d := by
    rcases Nat.eq_zero_or_pos d with q | q
    · rw [q, Nat.mul_zero] at h2; omega
    · exact q
  have e : Nat.gcd U T = d := by rw [h1, h2, Nat.gcd_mul_right, hg, Nat.one_mul]
  rw [e, h1, h2, Nat.mul_div_cancel _ hd0, Nat.mul_div_cancel _ hd0]
  exact ⟨rfl, rfl⟩
/-- one round: by two, by five -/
theorem LOW_two {U T h i u l : Nat} (hl : LOW U T h i u l) (hu : 2 ∣ u) (hv : 2 ∣ l) : ∃ d x y, U = u / 2 * d ∧ T = l / 2 * d ∧ l / 2 = 2 ^ x * 5 ^ y ∧ x + (i + 1) ≤ h ∧ (¬ (5 ∣ u / 2 ∧ 5 ∣ l / 2) ∨ y + i ≤ h) := by
  obtain ⟨d, x, y, h1, h2, h3, h4, h5⟩ := hl
  have hx : x + i ≤ h := h4.resolve_left (fun z => z ⟨hu, hv⟩)
  cases x with
  | zero =>
    exfalso
    rw [h3, Nat.pow_zero, Nat.one_mul] at hv
    have : Nat.Coprime 2 (5 ^ y) := Nat.Coprime.pow_right y (by decide)
    have := this.eq_one_of_dvd hv
    omega
  | succ x =>
    have el : l / 2 = 2 ^ x * 5 ^ y := by
      rw [h3, Nat.pow_succ, Nat.mul_comm (2 ^ x) 2, Nat.mul_assoc]
      exact Nat.mul_div_cancel_left _ (by decide)
    have e2 : ∀ v, 2 ∣ v → v = v / 2 * 2 := fun v hv => (Nat.div_mul_cancel hv).symm
    refine ⟨2 * d, x, y, ?_, ?_, el, by omega, ?_⟩
    · rw [← Nat.mul_assoc, ← e2 u hu]; exact h1
    · rw [← Nat.mul_assoc, ← e2 l hv]; exact h2
    · rcases h5 with q | q
      · refine Or.inl (fun z => q ⟨?_, ?_⟩)
        · rw [e2 u hu]; exact Nat.dvd_mul_right_of_dvd z.1 2
        · rw [e2 l hv]; exact Nat.dvd_mul_right_of_dvd z.2 2
      · exact Or.inr q
theorem LOW_five {U T h i u l : Nat} (hl : ∃ d x y, U = u * d ∧ T = l * d ∧ l = 2 ^ x * 5 ^ y ∧ (¬ (2 ∣ u ∧ 2 ∣ l) ∨ x + (i + 1) ≤ h) ∧ (¬ (5 ∣ u ∧ 5 ∣ l) ∨ y + i ≤ h)) (hu : 5 ∣ u) (hv : 5 ∣ l) : LOW U T h (i + 1) (u / 5) (l / 5) := by
  obtain ⟨d, x, y, h1, h2, h3, h4, h5⟩ := hl
  have hx : y + i ≤ h := h5.resolve_left (fun z => z ⟨hu, hv⟩)
  cases y with
  | zero =>
    exfalso
    rw [h3, Nat.pow_zero, Nat.mul_one] at hv
    have : Nat.Coprime 5 (2 ^ x) := Nat.Coprime.pow_right x (by decide)
    have := this.eq_one_of_dvd hv
    omega
  | succ y =>
    have el : l / 5 = 2 ^ x * 5 ^ y := by
      rw [h3, Nat.pow_succ, ← Nat.mul_assoc]
      exact Nat.mul_div_cancel _ (by decide)
    have e2 : ∀ v, 5 ∣ v → v = v / 5 * 5 := fun v hv => (Nat.div_mul_cancel hv).symm
    refine ⟨5 * d, x, y, ?_, ?_, el, ?_, Or.inr (by omega)⟩
    · rw [← Nat.mul_assoc, ← e2 u hu]; exact h1
    · rw [← Nat.mul_assoc, ← e2 l hv]; exact h2
    · rcases h4 with q | q
      · refine Or.inl (fun z => q ⟨?_, ?_⟩)
        · rw [e2 u hu]; exact Nat.dvd_mul_right_of_dvd z.1 5
        · rw [e2 l hv]; exact Nat.dvd_mul_right_of_dvd z.2 5
      · exact Or.inr q
section LOWS
variable {M : Mm} {L : Ml}
theorem z_mod0 {u n : Nat} (hu : u < 2147483648) (hn : 0 < n) (hn2 : n < 2147483648) : nI u - nI u / nI n * nI n = 0 ↔ n ∣ u := by
  have h := pk_rem (a := u) (d := n) hu hn hn2
  rw [h]
  have hlt := Nat.mod_lt u hn
  constructor
  · intro z
    exact Nat.dvd_of_mod_eq_zero (nI_inj (b := 0) (by omega) (by decide) z)
  · intro z
    rw [Nat.mod_eq_zero_of_dvd z]
    rfl
theorem sX4_chance46 {U T h : Nat} {part : Int32} {post : Int64 → Mm → Ml → Prop} (hh : h ≤ 6) (hT : T = 10 ^ h) (hU : U ≤ T) (hp : post (if part = 0 then lN (U / Nat.gcd U T) else lN (T / Nat.gcd U T)) M L) : wpX4_chance_46 post M L (nI h) part (nI T) (nI U) := by
  have hT6 : T ≤ 1000000 := by rw [hT]; exact Nat.pow_le_pow_right (n := 10) (by decide) hh
  have hT0 : 0 < T := by rw [hT]; exact Nat.pow_pos (by decide)
  unfold wpX4_chance_46 wlX4_chance_51
  refine zlp_forI h (fun i s => ∃ u l, s = (M, L, nI h, part, nI l, nI u, nI i) ∧ u ≤ U ∧ l ≤ T ∧ LOW U T h i u l) ⟨U, T, rfl, Nat.le_refl U, Nat.le_refl T, 1, h, h, (Nat.mul_one U).symm, (Nat.mul_one T).symm, by rw [hT, show 10 = 2 * 5 from rfl, Nat.mul_pow], Or.inr (by omega), Or.inr (by omega)⟩ ?_ ?_
  · rintro i K _ hi ⟨u, l, rfl, hu, hl, hL⟩ hK
    show wpX4_chance_51 post _ M L (nI h) part (nI l) (nI u) (nI i)
    unfold wpX4_chance_51
    have five : ∀ u l, u ≤ U → l ≤ T → (∃ d x y, U = u * d ∧ T = l * d ∧ l = 2 ^ x * 5 ^ y ∧ (¬ (2 ∣ u ∧ 2 ∣ l) ∨ x + (i + 1) ≤ h) ∧ (¬ (5 ∣ u ∧ 5 ∣ l) ∨ y + i ≤ h)) → wpX4_chance_83 post (fun M L v2 v3 v4 v5 v6 => K (M, L, v2, v3, v4, v5, v6)) M L (nI h) part (nI l) (nI u) (nI i) := by
      intro u l hu hl hE
      unfold wpX4_chance_83 wpX4_chance_109
      have mu := z_mod0 (u := u) (n := 5) (by omega) (by decide) (by decide)
      have ml := z_mod0 (u := l) (n := 5) (by omega) (by decide) (by decide)
      have stay : ¬ (5 ∣ u ∧ 5 ∣ l) → ∀ w : Int32, w = nI i + 1 → K (M, L, nI h, part, nI l, nI u, w) := fun hn w ew => hK _ ⟨u, l, by rw [ew, nI_1], hu, hl, by
        obtain ⟨d, x, y, h1, h2, h3, h4, -⟩ := hE
        exact ⟨d, x, y, h1, h2, h3, h4, Or.inl hn⟩⟩
      refine ⟨fun q => stay (fun z => q (mu.mpr z.1)), fun q => ⟨fun q2 => stay (fun z => q2 (ml.mpr z.2)), fun q2 a ea b eb w ew => ?_⟩⟩
      have ea : a = nI (u / 5) := ea.trans (pk_div (d := 5) (by omega) (by decide) (by decide))
      have eb : b = nI (l / 5) := eb.trans (pk_div (d := 5) (by omega) (by decide) (by decide))
      exact hK _ ⟨u / 5, l / 5, by show (M, L, nI h, part, b, a, w) = _; rw [ea, eb, ew, nI_1], Nat.le_trans (Nat.div_le_self _ _) hu, Nat.le_trans (Nat.div_le_self _ _) hl, LOW_five hE (mu.mp q) (ml.mp q2)⟩
    have mu := z_mod0 (u := u) (n := 2) (by omega) (by decide) (by decide)
    have ml := z_mod0 (u := l) (n := 2) (by omega) (by decide) (by decide)
    have stay : ¬ (2 ∣ u ∧ 2 ∣ l) → wpX4_chance_83 post (fun M L v2 v3 v4 v5 v6 => K (M, L, v2, v3, v4, v5, v6)) M L (nI h) part (nI l) (nI u) (nI i) := fun hn => five u l hu hl (by
      obtain ⟨d, x, y, h1, h2, h3, h4, h5⟩ := hL
      exact ⟨d, x, y, h1, h2, h3, Or.inl hn, h5⟩)
    refine pk_le h i (fun h => by omega) (fun _ => ⟨fun q => stay (fun z => q (mu.mpr z.1)), fun q => ⟨fun q2 => stay (fun z => q2 (ml.mpr z.2)), fun q2 a ea b eb => ?_⟩⟩)
    have ea : a = nI (u / 2) := ea.trans (pk_div (d := 2) (by omega) (by decide) (by decide))
    have eb : b = nI (l / 2) := eb.trans (pk_div (d := 2) (by omega) (by decide) (by decide))
    rw [ea, eb]
    refine five _ _ (Nat.le_trans (Nat.div_le_self _ _) hu) (Nat.le_trans (Nat.div_le_self _ _) hl) ?_
    obtain ⟨d, x, y, h1, h2, h3, h4, h5⟩ := LOW_two hL (mu.mp q) (ml.mp q2)
    exact ⟨d, x, y, h1, h2, h3, Or.inr h4, h5⟩
  · rintro K _ ⟨u, l, rfl, hu, hl, hL⟩
    show wpX4_chance_51 post _ M L (nI h) part (nI l) (nI u) (nI h)
    unfold wpX4_chance_51 wpX4_chance_128
    obtain ⟨e1, e2⟩ := LOW_end hT0 hL
    rw [← e1, ← e2] at hp
    refine pk_le h h (fun _ => ⟨fun q => ?_, fun q => ?_⟩) (fun h => by omega)
    · rw [if_neg q] at hp
      rw [nI_l (by omega)]; exact hp
    · rw [if_pos q] at hp
      rw [nI_l (by omega)]; exact hp
theorem sX9_lowest {U T : Nat} {part : Int32} {post : Int64 → Mm → Ml → Prop} (hT : 0 < T) (hT2 : T < 2147483648) (hU : U < 2147483648) (hp : post (if part = 0 then lN (U / Nat.gcd U T) else lN (T / Nat.gcd U T)) M L) : wpX9_lowest (lN U) (lN T) part M L post := by
  unfold wpX9_lowest wlX9_lowest_6
  refine zlp_ok (fun s => ∃ x y, s = (M, L, lN U, lN T, part, lN x, lN y) ∧ x < 2147483648 ∧ y < 2147483648 ∧ Nat.gcd x y = Nat.gcd U T) (fun (s : Mm × Ml × Int64 × Int64 × Int32 × Int64 × Int64) => s.2.2.2.2.2.2.toInt.toNat) ?_ ⟨T, U, rfl, hT2, hU, Nat.gcd_comm T U⟩
  rintro K _ ⟨x, y, rfl, hx, hy, hg⟩ hK
  show wpX9_lowest_6 post _ M L (lN U) (lN T) part (lN x) (lN y)
  unfold wpX9_lowest_6 wpX9_lowest_47
  have hg0 : 0 < Nat.gcd U T := Nat.gcd_pos_of_pos_right U hT
  rw [zcmp_eq, show (0 : Int64) = lN 0 from rfl]
  have ey : lN y = lN 0 ↔ y = 0 := pk_lEQ (by omega) (by decide)
  have ex : lN x = lN 0 ↔ x = 0 := pk_lEQ (by omega) (by decide)
  refine ⟨fun q => ?_, fun q => ⟨q, fun a ea => ?_⟩⟩
  · have y0 := ey.mp q
    rw [y0, Nat.gcd_zero_right] at hg
    have x0 : 0 < x := by omega
    rw [← hg] at hp
    refine ⟨fun q2 => ⟨fun z => by have := ex.mp z; omega, ?_⟩, fun q2 => ⟨fun z => by have := ex.mp z; omega, ?_⟩⟩
    · rw [if_neg q2] at hp
      rw [pk_lDiv (by omega) x0 (by omega)]; exact hp
    · rw [if_pos q2] at hp
      rw [pk_lDiv (by omega) x0 (by omega)]; exact hp
  · have y0 : 0 < y := by
      rcases Nat.eq_zero_or_pos y with z | z
      · exact absurd (ey.mpr z) q
      · exact z
    rw [pk_lRem (by omega) y0 (by omega)] at ea
    have hm := Nat.mod_lt x y0
    refine hK _ ⟨y, x % y, by rw [ea], hy, by omega, ?_⟩ ?_
    · rw [← hg, Nat.gcd_comm x y, Nat.gcd_rec y x, Nat.gcd_comm]
    · show a.toInt.toNat < (lN y).toInt.toNat
      rw [ea, lN_toInt (by omega), lN_toInt (by omega)]
      omega
end LOWS
