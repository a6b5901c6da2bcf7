/-! the most, by addressees -/
section MOSTA
variable {M : Mm} {L : Ml} {post : Int32 → Mm → Ml → Prop} {t u : Nat}
/-- e has one of his own that he can get, of the first n -/
def own (M : Mm) (n e : Nat) : Prop := ∃ k, k < n ∧ M 18 k = nI e ∧ cgt M e k
theorem sX1_byAddressees (hY : YD 14 (vM M) t u M) (h : ∀ T, T < 64 → (∀ e, e < 6 → (T.testBit e = true ↔ own M 8 e)) → post (nI (zct T.testBit 6)) M L) : wpX1_byAddressees 14 M L post := by
  unfold wpX1_byAddressees wlX1_byAddressees_4
  refine zlp_forI 8 (fun k s => ∃ T, s = (M, L, nI T, nI k) ∧ T < 64 ∧ ∀ e, e < 6 → (T.testBit e = true ↔ own M k e)) ⟨0, rfl, by decide, fun e he => ⟨fun z => by simp at z, fun ⟨k, hk, _⟩ => absurd hk (by omega)⟩⟩ ?_ ?_
  · rintro k K _ hk ⟨T, rfl, hT, hb⟩ hK
    show wpX1_byAddressees_4 14 post _ M L (nI T) (nI k)
    unfold wpX1_byAddressees_4 wpX1_byAddressees_32
    rw [nI_clamp (n := k) (by omega)]
    refine pk_le 8 k (fun h => by omega) (fun _ => ⟨vp_in_nI hk (by decide), fun a ea => ?_⟩)
    have ea : a = M 18 k := ea
    subst ea
    have same : (∀ e, e < 6 → ¬ (M 18 k = nI e ∧ cgt M e k)) → ∀ w : Int32, w = nI k + 1 → K (M, L, nI T, w) := fun hn w ew => hK _ ⟨T, by rw [ew, nI_1], hT, fun e he => by
      rw [hb e he]
      constructor
      · rintro ⟨i, hi, z⟩
        exact ⟨i, by omega, z⟩
      · rintro ⟨i, hi, z⟩
        by_cases q : i = k
        · subst q; exact absurd z (hn e he)
        · exact ⟨i, by omega, z⟩⟩
    by_cases hz : M 17 k ≤ 0
    · exact sX1_canGet0 hk hz (c0 (same (fun e _ z => z.2.1 hz)))
    · have hbk : t.testBit k = true := by
        cases hq : t.testBit k with
        | true => rfl
        | false =>
          have e3 : M 17 k = 0 := (hY.2.2.2.2.2.1 k hk).2 hq
          exact absurd (by rw [e3]; decide) hz
      obtain ⟨o, ho, eo⟩ : zlt 6 (M 18 k) := ((hY.2.2.2.2.2.1 k hk).1 hbk).2.2.2.2.1
      rw [eo] at same ⊢
      refine sX1_canGet hY ho hk (fun hc => c1 (fun v ev w ew => ?_)) (fun hc => c0 (same (fun e he z => ?_)))
      · rw [z_shl (by omega), fa_or] at ev
        refine hK _ ⟨T ||| 2 ^ o, by show (M, L, v, w) = _; rw [ev, ew, nI_1], (set_fx T hT o ho).2.1, fun e he => ?_⟩
        rw [or_bit, hb e he]
        constructor
        · rintro (⟨i, hi, z⟩ | rfl)
          · exact ⟨i, by omega, z⟩
          · exact ⟨k, by omega, eo, hc⟩
        · rintro ⟨i, hi, z⟩
          by_cases q : i = k
          · subst q
            rw [eo] at z
            exact Or.inr (nI_inj (by omega) (by omega) z.1.symm)
          · exact Or.inl ⟨i, by omega, z⟩
      · have := nI_inj (a := o) (b := e) (by omega) (by omega) z.1
        subst this
        exact hc z.2
  · rintro K _ ⟨T, rfl, hT, hb⟩
    show wpX1_byAddressees_4 14 post _ M L (nI T) (nI 8)
    unfold wpX1_byAddressees_4
    refine pk_le 8 8 (fun _ => sJ6_bitCount (by omega) ?_) (fun h => by omega)
    have e : zpop T 8 = zct T.testBit 6 := by
      rw [zpop_ct]
      have b6 : T.testBit 6 = false := Nat.testBit_lt_two_pow (show T < 2 ^ 6 from hT)
      have b7 : T.testBit 7 = false := Nat.testBit_lt_two_pow (Nat.lt_of_lt_of_le (show T < 2 ^ 6 from hT) (by decide))
      rw [zct_s, zct_s, b6, b7]
      rfl
    rw [e]
    exact h T hT hb
theorem sX9_canGetOwn (hY : YD 14 (vM M) t u M) {e : Nat} (he : e < 6) (h1 : own M 8 e → post 1 M L) (h0 : ¬ own M 8 e → post 0 M L) : wpX9_canGetOwn (nI e) M L post := by
  unfold wpX9_canGetOwn wlX9_canGetOwn_4
  refine zlp_forI 8 (fun k s => ∃ v : Int32, s = (M, L, nI e, v, nI k) ∧ ((v = 1 ∧ own M k e) ∨ (v = 0 ∧ ¬ own M k e))) ⟨0, rfl, Or.inr ⟨rfl, fun ⟨k, hk, _⟩ => absurd hk (by omega)⟩⟩ ?_ ?_
  · rintro k K _ hk ⟨v, rfl, hv⟩ hK
    show wpX9_canGetOwn_4 post _ M L (nI e) v (nI k)
    unfold wpX9_canGetOwn_4 wpX9_canGetOwn_41 wpX9_canGetOwn_45 wpX9_canGetOwn_46
    rw [nI_clamp (n := k) (by omega)]
    have vk : vp_in (nI k) 8 := vp_in_nI hk (by decide)
    have hF := hY.2.2.2.2.2.1 k hk
    refine pk_le 8 k (fun h => by omega) (fun _ => ?_)
    rcases hv with ⟨rfl, hv⟩ | ⟨rfl, hv⟩
    · obtain ⟨i, hi, z⟩ := hv
      exact nf_ (by decide) (fun w ew => hK _ ⟨1, by show (M, L, nI e, (1 : Int32), w) = _; rw [ew, nI_1], Or.inl ⟨rfl, i, by omega, z⟩⟩)
    · have no : ¬ (M 18 k = nI e ∧ cgt M e k) → ∀ w : Int32, w = nI k + 1 → K (M, L, nI e, 0, w) := fun hn w ew => hK _ ⟨0, by rw [ew, nI_1], Or.inr ⟨rfl, fun ⟨i, hi, z⟩ => by
        by_cases q : i = k
        · subst q; exact hn z
        · exact hv ⟨i, by omega, z⟩⟩⟩
      refine nt_ rfl (sX9_isAbove hY.2.2.2.1 hY.1 hk (fun hz => c1 ⟨vk, fun q => no ?_, fun q => ?_⟩) (fun hz => c0 (no ?_)))
      · have hb : t.testBit k = true := by
          unfold zab at hz
          rw [Bool.and_eq_true] at hz
          exact hz.1
        have v4 : M 46 k = M 18 k := (hF.1 hb).1.2.2.2.1
        rw [v4] at q
        exact fun z => q z.1
      · have hb : t.testBit k = true := by
          unfold zab at hz
          rw [Bool.and_eq_true] at hz
          exact hz.1
        have v4 : M 46 k = M 18 k := (hF.1 hb).1.2.2.2.1
        rw [v4] at q
        exact sX9_canGet hY he hk (fun _ _ _ => rfl) (fun hc => c1 (fun w ew => hK _ ⟨1, by show (M, L, nI e, (1 : Int32), w) = _; rw [ew, nI_1], Or.inl ⟨rfl, k, by omega, q, hc⟩⟩)) (fun hc => c0 (no (fun z => hc z.2)))
      · intro z
        have hnz := z.2.1
        cases hb : t.testBit k with
        | false =>
          have e3 : M 17 k = 0 := hF.2 hb
          exact hnz (by rw [e3]; decide)
        | true =>
          have v3 : M 45 k = M 17 k := (hF.1 hb).1.2.2.1
          unfold zab at hz
          rw [hb, v3, decide_eq_true hnz] at hz
          exact absurd hz (by decide)
  · rintro K _ ⟨v, rfl, hv⟩
    show wpX9_canGetOwn_4 post _ M L (nI e) v (nI 8)
    unfold wpX9_canGetOwn_4
    refine pk_le 8 8 (fun _ => ?_) (fun h => by omega)
    rcases hv with ⟨rfl, z⟩ | ⟨rfl, z⟩
    · exact ⟨Or.inr rfl, h1 z⟩
    · exact ⟨Or.inl rfl, h0 z⟩
theorem sX9_mostOwn (hY : YD 14 (vM M) t u M) {T : Nat} (hb : ∀ e, e < 6 → (T.testBit e = true ↔ own M 8 e)) (h : post (nI (zct T.testBit 6)) M L) : ∃ j9 : Nat, wlX9_most_21 post j9 (M, L, (0 : Int32), (0 : Int32)) := by
  unfold wlX9_most_21
  refine zlp_forI 6 (fun k s => s = (M, L, nI (zct T.testBit k), nI k)) rfl ?_ ?_
  · rintro k K _ hk rfl hK
    have hK := hK _ rfl
    show wpX9_most_21 post _ M L (nI (zct T.testBit k)) (nI k)
    unfold wpX9_most_21 wpX9_most_41
    have hs := zct_s T.testBit k
    refine pk_le 6 k (fun h => by omega) (fun _ => sX9_canGetOwn hY hk (fun ho => c1 (fun v ev w ew => ?_)) (fun ho => c0 (fun v ev w ew => ?_)))
    · rw [if_pos ((hb k hk).mpr ho)] at hs
      rw [hs] at hK
      rw [ev, ew, nI_1, nI_1]; exact hK
    · rw [if_neg (fun z => ho ((hb k hk).mp z))] at hs
      rw [hs] at hK
      have e0 : nI (zct T.testBit k) + (0 : Int32) = nI (zct T.testBit k) := nI_add _ 0
      rw [ev, ew, nI_1, e0]; exact hK
  · rintro K _ rfl
    show wpX9_most_21 post _ M L (nI (zct T.testBit 6)) (nI 6)
    unfold wpX9_most_21
    exact pk_le 6 6 (fun _ => h) (fun h => by omega)
end MOSTA
