/-! a year -/
def yx (X : Nat) : Nat → Nat
  | 0 => X
  | k + 1 => (75 * yx X k + 74) % 65537
theorem yx_lt {X : Nat} (h : X < 65537) : ∀ k, yx X k < 65537
  | 0 => h
  | _ + 1 => Nat.mod_lt _ (by decide)
def cyS (X : Nat) (Z : Mm) : Mm := if zwy 35 Z (X % 8) (nI (X / 8 % 6)) = 0 then cAct 35 (X % 8) (nI (X / 8 % 6)) Z else Z
def myS (t X : Nat) (Z : Mm) : Mm := if zwm t Z (X % 8) (nI (X / 8 % 6)) = 0 then mAct t (X % 8) (nI (X / 8 % 6)) Z else Z
def cyZ (X : Nat) (Z : Mm) : Nat → Mm
  | 0 => Z
  | k + 1 => cyS (yx X (k + 1)) (cyZ X Z k)
def myZ (t X : Nat) (Z : Mm) : Nat → Mm
  | 0 => Z
  | k + 1 => myS t (yx X (k + 1)) (myZ t X Z k)
theorem yk (X : Nat) : (75 : Int32) * nI X + 74 = nI (75 * X + 74) := by rw [show (75 : Int32) = nI 75 from rfl, show (74 : Int32) = nI 74 from rfl, pk_mul, nI_add]
theorem y_draw {X : Nat} (h : X < 65537) : ((75 : Int32) * nI X + 74) - ((75 : Int32) * nI X + 74) / 65537 * 65537 = nI ((75 * X + 74) % 65537) := by
  rw [yk]
  exact pk_rem (d := 65537) (by omega) (by decide) (by decide)
theorem y_drawL {X : Nat} (h : X < 65537) : (((75 : Int64) * (nI X).toInt64 + 74) - ((75 : Int64) * (nI X).toInt64 + 74) / 65537 * 65537).toInt32 = nI ((75 * X + 74) % 65537) := by
  rw [nI_l (by omega), show (75 : Int64) = lN 75 from rfl, show (74 : Int64) = lN 74 from rfl, lN_mul, lN_add, show (65537 : Int64) = lN 65537 from rfl, pk_lRem (by omega) (by decide) (by decide), lN_i]
theorem y_kind {X : Nat} (h : X < 65537) : nI X - nI X / 8 * 8 = nI (X % 8) := pk_rem (d := 8) (by omega) (by decide) (by decide)
theorem y_one {X : Nat} (h : X < 65537) : nI X / 8 - nI X / 8 / 6 * 6 = nI (X / 8 % 6) := by
  rw [show nI X / 8 = nI (X / 8) from pk_div (d := 8) (by omega) (by decide) (by decide)]
  exact pk_rem (d := 6) (by omega) (by decide) (by decide)
theorem cyS_mix (X : Nat) (A B : Mm) : cyS X (mix A B) = mix (cyS X A) B := by
  unfold cyS
  rw [zwy_mix, cAct_mix]
  split <;> rfl
theorem myS_mix (t X : Nat) (A B : Mm) : myS t X (mix A B) = mix A (myS t X B) := by
  unfold myS
  rw [zwm_mix, mAct_mix]
  split <;> rfl
theorem y6 (X : Nat) : zlt 6 (nI (X / 8 % 6)) := ⟨_, Nat.mod_lt _ (by decide), rfl⟩
section YEAR
variable {t u : Nat} {Z : Mm}
theorem YD_year (h : YD 35 (vM Z) t u Z) (X : Nat) : ∃ u', YD 35 (vM (myS t X (cyS X Z))) t u' (myS t X (cyS X Z)) := by
  have hxy : 5 ≤ X % 8 → nI (X / 8 % 6) = nI (X / 8 % 6) ∧ zlt 6 (nI (X / 8 % 6)) := fun _ => ⟨rfl, y6 X⟩
  have hj : X % 8 < 8 := Nat.mod_lt _ (by decide)
  have hwm := zwy_zwm h hxy
  unfold cyS
  by_cases hw : zwy 35 Z (X % 8) (nI (X / 8 % 6)) = 0
  · rw [if_pos hw]
    unfold myS
    have hc : ∀ a, ¬ a < 42 → cAct 35 (X % 8) (nI (X / 8 % 6)) Z a = Z a := fun a ha => cAct_ne (Or.inr (by omega))
    have hm : cAct 35 (X % 8) (nI (X / 8 % 6)) Z = mix (cAct 35 (X % 8) (nI (X / 8 % 6)) Z) Z := by
      funext a
      by_cases ha : a < 42
      · rw [mix_lt ha]
      · rw [mix_ge ha]; exact hc a ha
    have hw2 : zwm t (cAct 35 (X % 8) (nI (X / 8 % 6)) Z) (X % 8) (nI (X / 8 % 6)) = 0 := by rw [hm, zwm_mix, hwm]; exact hw
    rw [if_pos hw2]
    exact YD_act h hj hxy hw
  · rw [if_neg hw]
    unfold myS
    rw [if_neg (by rw [hwm]; exact hw)]
    exact ⟨u, h⟩
theorem YD_years {X : Nat} {A B : Mm} (h : YD 35 (vM (mix A B)) t u (mix A B)) : ∀ k, ∃ u', YD 35 (vM (mix (cyZ X A k) (myZ t X B k))) t u' (mix (cyZ X A k) (myZ t X B k)) := by
  intro k
  induction k with
  | zero => exact ⟨u, h⟩
  | succ k ih =>
    obtain ⟨u', ih⟩ := ih
    have := YD_year ih (yx X (k + 1))
    rw [cyS_mix, myS_mix] at this
    exact this
theorem myS_42 {X : Nat} {i : Nat} (h1 : i ≠ 17) (h2 : i ≠ 18) : myS t X Z 42 i = Z 42 i := by
  unfold myS
  split
  · exact mAct_42i h1 h2
  · rfl
theorem myS_ne {X a : Nat} (h : a < 42 ∨ 50 ≤ a ∨ a = 46) : myS t X Z a = Z a := by
  unfold myS
  split
  · rcases h with h | h | h
    · exact mAct_lt h
    · exact mAct_hi h
    · subst h; exact mAct_46
  · rfl
theorem cyS_ne {X a : Nat} (h : a < 35 ∨ 41 < a) : cyS X Z a = Z a := by
  unfold cyS
  split
  · exact cAct_ne h
  · rfl
theorem cyZ_ne {X a : Nat} (h : a < 35 ∨ 41 < a) : ∀ k, cyZ X Z k a = Z a
  | 0 => rfl
  | k + 1 => by
    show cyS _ (cyZ X Z k) a = _
    rw [cyS_ne h, cyZ_ne h k]
theorem myZ_ne {X a : Nat} (h : a < 42 ∨ 50 ≤ a ∨ a = 46) : ∀ k, myZ t X Z k a = Z a
  | 0 => rfl
  | k + 1 => by
    show myS t _ (myZ t X Z k) a = _
    rw [myS_ne h, myZ_ne h k]
theorem myZ_42 {X i : Nat} (h1 : i ≠ 17) (h2 : i ≠ 18) : ∀ k, myZ t X Z k 42 i = Z 42 i
  | 0 => rfl
  | k + 1 => by
    show myS t _ (myZ t X Z k) 42 i = _
    rw [myS_42 h1 h2, myZ_42 h1 h2 k]
variable {M : Mm} {L : Ml}
theorem sX2_dreamYear {X m : Nat} {post : Mm → Ml → Prop} (hX : X < 65537) (hm : m < 100) {M5 : Mm} (hok : ∀ k, k < m → cok (cyZ X M5 k)) (h : post (cyZ X M5 m) L) : ∃ j9 : Nat, wlX2_dreamYear_14 14 post j9 (M5, L, nI m, nI X, (0 : Int32)) := by
  unfold wlX2_dreamYear_14
  refine zlp_forI m (fun k s => s = (cyZ X M5 k, L, nI m, nI (yx X k), nI k)) rfl ?_ ?_
  · rintro k K _ hk rfl hK
    show wpX2_dreamYear_14 14 post _ (cyZ X M5 k) L (nI m) (nI (yx X k)) (nI k)
    unfold wpX2_dreamYear_14 wpX2_dreamYear_75
    have hx := yx_lt hX k
    have hx1 := yx_lt hX (k + 1)
    refine pk_le m k (fun h => by omega) (fun _ x1 e1 x2 e2 x3 e3 => ?_)
    rw [y_draw hx] at e1
    have e1 : x1 = nI (yx X (k + 1)) := e1
    rw [e1, y_kind hx1] at e2
    rw [e1, y_one hx1] at e3
    have hK := hK _ rfl
    have hs : cyZ X M5 (k + 1) = cyS (yx X (k + 1)) (cyZ X M5 k) := rfl
    rw [hs] at hK
    unfold cyS at hK
    rw [e1, e2, e3]
    have hj : yx X (k + 1) % 8 < 8 := Nat.mod_lt _ (by decide)
    obtain ⟨o1, o2, o3⟩ := hok k hk
    refine sX7_whyNot hj (fun _ => y6 _) ⟨fun hw a ea => ?_, fun hw => sX7_carryOut hj (fun _ => y6 _) o1 o2 o3 (fun a ea => ?_)⟩
    · rw [if_neg hw] at hK
      rw [ea, nI_1]; exact hK
    · rw [if_pos hw] at hK
      rw [ea, nI_1]; exact hK
  · rintro K _ rfl
    show wpX2_dreamYear_14 14 post _ (cyZ X M5 m) L (nI m) (nI (yx X m)) (nI m)
    unfold wpX2_dreamYear_14
    exact pk_le m m (fun _ => h) (fun h => by omega)
theorem sX9_yearLoop {X m : Nat} {y : Int32} {post : Int32 → Mm → Ml → Prop} (hX : X < 65537) (hm : m < 100) {B : Mm} (hok : ∀ k, k < m → mok t (myZ t X B k)) (h : (¬ y = 0 → (¬ y = (1 : Int32) → wpX9_aboveMany (myZ t X B m) L (fun r_144 M_144 L_144 => wpX9_year_147 post M_144 L_144 r_144)) ∧ (y = (1 : Int32) → wpX9_riverNow (myZ t X B m) L (fun r_134 M_134 L_134 => wpX9_bitsOf r_134 M_134 L_134 (fun r_137 M_137 L_137 => wpX9_year_147 post M_137 L_137 r_137)))) ∧ (y = 0 → wpX9_postedNow (myZ t X B m) L (fun r_119 M_119 L_119 => wpX9_bitsOf r_119 M_119 L_119 (fun r_122 M_122 L_122 => wpX9_year_147 post M_122 L_122 r_122)))) : ∃ j9 : Nat, wlX9_year_49 post j9 (B, L, nI m, y, nI X, (0 : Int32)) := by
  unfold wlX9_year_49
  refine zlp_forI m (fun k s => s = (myZ t X B k, L, nI m, y, nI (yx X k), nI k)) rfl ?_ ?_
  · rintro k K _ hk rfl hK
    show wpX9_year_49 post _ (myZ t X B k) L (nI m) y (nI (yx X k)) (nI k)
    unfold wpX9_year_49 wpX9_year_108
    have hx := yx_lt hX k
    have hx1 := yx_lt hX (k + 1)
    refine pk_le m k (fun h => by omega) (fun _ x1 e1 x3 e3 => ?_)
    rw [y_drawL hx] at e1
    have e1 : x1 = nI (yx X (k + 1)) := e1
    rw [e1, y_one hx1] at e3
    have hK := hK _ rfl
    have hs : myZ t X B (k + 1) = myS t (yx X (k + 1)) (myZ t X B k) := rfl
    rw [hs] at hK
    unfold myS at hK
    rw [e1, e3, y_kind hx1]
    have hj : yx X (k + 1) % 8 < 8 := Nat.mod_lt _ (by decide)
    obtain ⟨o0, ot, o1, o2, o3⟩ := hok k hk
    refine sX9_whyNot (t := t) o0 ot hj (fun _ => y6 _) ⟨fun hw a ea => ?_, fun hw => sX9_happen (t := t) o0 ot hj (fun _ => y6 _) o1 o2 o3 (fun a ea => ?_)⟩
    · rw [if_neg hw] at hK
      rw [ea, nI_1]; exact hK
    · rw [if_pos hw] at hK
      rw [ea, nI_1]; exact hK
  · rintro K _ rfl
    show wpX9_year_49 post _ (myZ t X B m) L (nI m) y (nI (yx X m)) (nI m)
    unfold wpX9_year_49
    exact pk_le m m (fun _ => h) (fun h => by omega)
theorem RI_back2 {Z Z' : Mm} (hR : RI M) (a2 : ∀ a, kp a → Z a = M a) (a3 : Z 2 1 = M 2 1) (a5 : Z 46 = M 46) (a6 : Z 42 0 = M 42 0 ∧ Z 42 11 = M 42 11 ∧ Z 42 13 = M 42 13) (h7 : HAD M (Z 56)) (hb : BK Z Z') : RI Z' := by
  obtain ⟨a7, a8⟩ := h7
  obtain ⟨b1, b2, b3⟩ := hb
  refine RI_cong hR (fun a ha => ?_) ?_ ?_ ?_ ?_ (fun i h1 h2 k hk => ?_) (fun i h1 h2 k hk => ?_)
  · have hk := ha
    unfold kp at hk
    rw [b1 a (by omega) (by omega) (by omega) (by omega) (by omega) (by omega)]
    exact a2 a ha
  · rw [b1 2 (by decide) (by decide) (by decide) (by decide) (by decide) (by decide)]; exact a3
  · rw [b1 42 (by decide) (by decide) (by decide) (by decide) (by decide) (by decide)]; exact a6.1
  · rw [b1 42 (by decide) (by decide) (by decide) (by decide) (by decide) (by decide)]; exact a6.2.1
  · rw [b1 42 (by decide) (by decide) (by decide) (by decide) (by decide) (by decide)]; exact a6.2.2
  · obtain ⟨c1, c2, c3, c4⟩ := a7 k hk
    obtain ⟨d1, d2, d3, d4⟩ := b2 k hk
    rcases (show i = 43 ∨ i = 44 ∨ i = 45 ∨ i = 46 ∨ i = 47 by omega) with rfl | rfl | rfl | rfl | rfl
    · rw [← d1, c1]
    · rw [← d2, c2]
    · rw [← d3, c3]
    · rw [b1 46 (by decide) (by decide) (by decide) (by decide) (by decide) (by decide), a5]
    · rw [← d4, c4]
  · obtain ⟨c1, c2⟩ := a8 k hk
    obtain ⟨d1, d2⟩ := b3 k hk
    rcases (show i = 48 ∨ i = 49 by omega) with rfl | rfl
    · rw [← d1, c1]
    · rw [← d2, c2]
end YEAR
