/-! the most, by whoever -/
def subS (s S : Nat) : Prop := ∀ i, s.testBit i = true → S.testBit i = true
def MBx (P : Nat → Prop) (S v : Nat) : Prop := (∀ s, s < 64 → subS s S → P s → zpop s 8 ≤ v) ∧ ∃ s, s < 64 ∧ subS s S ∧ P s ∧ zpop s 8 = v
def crx (g : Nat → Nat → Prop) (k n s : Nat) : Prop := crd g k s ∨ ∃ e, e < n ∧ e < 6 ∧ g e k ∧ s.testBit e = true ∧ crd g k (s &&& (63 ^^^ 2 ^ e))
theorem crx_0 {g : Nat → Nat → Prop} {k s : Nat} : crx g k 0 s ↔ crd g k s := ⟨fun z => z.elim id (fun ⟨e, he, _⟩ => absurd he (by omega)), Or.inl⟩
theorem crx_6 {g : Nat → Nat → Prop} {k s : Nat} : crx g k 6 s ↔ crd g (k + 1) s := ⟨fun z => z.imp id (fun ⟨e, _, h⟩ => ⟨e, h⟩), fun z => z.imp id (fun ⟨e, he, h⟩ => ⟨e, he, he, h⟩)⟩
theorem MBx_iff {P Q : Nat → Prop} {S v : Nat} (h : ∀ s, P s ↔ Q s) (hm : MBx P S v) : MBx Q S v := ⟨fun s a b c => hm.1 s a b ((h s).mpr c), by obtain ⟨s, a, b, c, d⟩ := hm.2; exact ⟨s, a, b, (h s).mp c, d⟩⟩
theorem MBx_le {P : Nat → Prop} {S v : Nat} (h : MBx P S v) : v ≤ 8 := by
  obtain ⟨s, -, -, -, e⟩ := h.2
  rw [← e, zpop_ct]
  exact zct_le _ 8
theorem MBx_same {g : Nat → Nat → Prop} {k e S v : Nat} (h : MBx (crx g k e) S v) (hn : ¬ (S.testBit e = true ∧ g e k)) : MBx (crx g k (e + 1)) S v := by
  refine ⟨fun s h1 h2 h3 => ?_, ?_⟩
  · refine h.1 s h1 h2 ?_
    rcases h3 with z | ⟨e', he', z1, z2, z3, z4⟩
    · exact Or.inl z
    · by_cases q : e' = e
      · subst q; exact absurd ⟨h2 e' z3, z2⟩ hn
      · exact Or.inr ⟨e', by omega, z1, z2, z3, z4⟩
  · obtain ⟨s, a, b, c, d⟩ := h.2
    exact ⟨s, a, b, c.imp id (fun ⟨e', he', z⟩ => ⟨e', by omega, z⟩), d⟩
theorem MBx_more {g : Nat → Nat → Prop} {k e S v w : Nat} (hS : S < 64) (he : e < 6) (h : MBx (crx g k e) S v) (hw : MBx (crd g k) (S &&& (63 ^^^ 2 ^ e)) w) (hb : S.testBit e = true) (hg : g e k) : MBx (crx g k (e + 1)) S (if w + 1 ≤ v then v else w + 1) := by
  have up : ∀ s, crx g k e s → crx g k (e + 1) s := fun s c => c.imp id (fun ⟨e', he', z⟩ => ⟨e', by omega, z⟩)
  refine ⟨fun s h1 h2 h3 => ?_, ?_⟩
  · have : zpop s 8 ≤ v ∨ zpop s 8 ≤ w + 1 := by
      rcases h3 with z | ⟨e', he', z1, z2, z3, z4⟩
      · exact Or.inl (h.1 s h1 h2 (Or.inl z))
      · by_cases q : e' = e
        · subst q
          right
          obtain ⟨f1, f2, f3, f4, f5, f6⟩ := set_fx s h1 e' z1
          obtain ⟨f7, f8, f9⟩ := f5 z3
          have := hw.1 _ f1 (fun i hi => by
            rw [set_bit h1 z1] at hi
            rw [set_bit hS z1]
            exact ⟨h2 i hi.1, hi.2⟩) z4
          omega
        · exact Or.inl (h.1 s h1 h2 (Or.inr ⟨e', by omega, z1, z2, z3, z4⟩))
    split <;> omega
  · by_cases q : w + 1 ≤ v
    · rw [if_pos q]
      obtain ⟨s, a, b, c, d⟩ := h.2
      exact ⟨s, a, b, up s c, d⟩
    · rw [if_neg q]
      obtain ⟨s, a, b, c, d⟩ := hw.2
      obtain ⟨f1, f2, f3, f4, f5, f6⟩ := set_fx s a e he
      have hbe : s.testBit e = false := by
        cases hq : s.testBit e with
        | false => rfl
        | true =>
          have := b e hq
          rw [set_bit hS he] at this
          exact absurd rfl this.2
      have f6 := f6 hbe
      obtain ⟨g1, g2, g3, g4, g5, g6⟩ := set_fx (s ||| 2 ^ e) f2 e he
      have g5 := (g5 f4).2.1
      rw [f6] at g5
      refine ⟨s ||| 2 ^ e, f2, fun i hi => ?_, Or.inr ⟨e, by omega, he, hg, f4, by rw [f6]; exact c⟩, by omega⟩
      rcases set_bitO.mp hi with z | z
      · have := b i z
        rw [set_bit hS he] at this
        exact this.1
      · rw [z]; exact hb
section MOSTB
variable {M : Mm} {L : Ml} {t u : Nat}
theorem sX1_joinedBy {e : Nat} {C : Int64} {post : Int64 → Mm → Ml → Prop} (he : e < 6) (h : ∀ J : Int64, (∀ S, S < 64 → (bL J S = true ↔ S.testBit e = true ∧ bL C (S &&& (63 ^^^ 2 ^ e)) = true)) → post J M L) : wpX1_joinedBy (nI e) C M L post := by
  unfold wpX1_joinedBy wlX1_joinedBy_5
  refine zlp_forI 64 (fun k s => ∃ J : Int64, s = (M, L, nI e, C, J, nI k) ∧ ∀ S, S < 64 → (bL J S = true ↔ ∃ r, r < k ∧ bL C r = true ∧ r.testBit e = false ∧ S = r ||| 2 ^ e)) ⟨0, rfl, fun S hS => ⟨fun z => by rw [bL_0 S hS] at z; exact absurd z (by decide), fun ⟨r, hr, _⟩ => absurd hr (by omega)⟩⟩ ?_ ?_
  · rintro k K _ hk ⟨J, rfl, hJ⟩ hK
    show wpX1_joinedBy_5 post _ M L (nI e) C J (nI k)
    unfold wpX1_joinedBy_5 wpX1_joinedBy_43
    have no : ¬ (bL C k = true ∧ k.testBit e = false) → ∀ w : Int32, w = nI k + 1 → K (M, L, nI e, C, J, w) := fun hn w ew => hK _ ⟨J, by rw [ew, nI_1], fun S hS => by
      rw [hJ S hS]
      constructor
      · rintro ⟨r, hr, z⟩
        exact ⟨r, by omega, z⟩
      · rintro ⟨r, hr, z1, z2, z3⟩
        by_cases q : r = k
        · subst q; exact absurd ⟨z1, z2⟩ hn
        · exact ⟨r, by omega, z1, z2, z3⟩⟩
    refine pk_le 64 k (fun h => by omega) (fun _ => ⟨fun q => no (fun z => q ((bL_is hk).mpr z.1)), fun q => ?_⟩)
    have hCk := (bL_is hk).mp q
    refine sX8_bit (by omega) (by omega) ?_
    cases hbk : k.testBit e with
    | true => exact nf_ (by decide) (no (fun z => by rw [hbk] at z; exact absurd z.2 (by decide)))
    | false =>
      refine nt_ rfl (fun v ev w ew => hK _ ⟨v, by show (M, L, nI e, C, v, w) = _; rw [ew, nI_1], fun S hS => ?_⟩)
      obtain ⟨f1, f2, -⟩ := set_fx k hk e he
      rw [z_shl (by omega), fa_or] at ev
      rw [ev, bL_or, bL_shl f2 hS, Bool.or_eq_true, hJ S hS, decide_eq_true_iff]
      constructor
      · rintro (⟨r, hr, z⟩ | z)
        · exact ⟨r, by omega, z⟩
        · exact ⟨k, by omega, hCk, hbk, z⟩
      · rintro ⟨r, hr, z1, z2, z3⟩
        by_cases q : r = k
        · subst q; exact Or.inr z3
        · exact Or.inl ⟨r, by omega, z1, z2, z3⟩
  · rintro K _ ⟨J, rfl, hJ⟩
    show wpX1_joinedBy_5 post _ M L (nI e) C J (nI 64)
    unfold wpX1_joinedBy_5
    refine pk_le 64 64 (fun _ => h J (fun S hS => ?_)) (fun h => by omega)
    rw [hJ S hS]
    constructor
    · rintro ⟨r, hr, z1, z2, rfl⟩
      obtain ⟨f1, f2, f3, f4, f5, f6⟩ := set_fx r hr e he
      exact ⟨f4, by rw [f6 z2]; exact z1⟩
    · rintro ⟨z1, z2⟩
      obtain ⟨f1, f2, f3, f4, f5, f6⟩ := set_fx S hS e he
      exact ⟨_, f1, z2, f3, (f5 z1).1.symm⟩
theorem sX1_byWhoever {post : Int32 → Mm → Ml → Prop} (hY : YD 14 (vM M) t u M) (h : ∀ m, (∀ r, r < 64 → crd (cgt M) 8 r → zpop r 8 ≤ m) → (m = 0 ∨ ∃ r, r < 64 ∧ crd (cgt M) 8 r ∧ zpop r 8 = m) → post (nI m) M L) : wpX1_byWhoever 14 M L post := by
  unfold wpX1_byWhoever wlX1_byWhoever_4
  refine zlp_forI 8 (fun k s => ∃ C : Int64, s = (M, L, C, nI k) ∧ ∀ S, S < 64 → (bL C S = true ↔ crd (cgt M) k S)) ⟨1, rfl, fun S hS => by rw [bL_1 S hS]; exact decide_eq_true_iff⟩ ?_ ?_
  · rintro k K _ hk ⟨C, rfl, hC⟩ hK
    show wpX1_byWhoever_4 14 post _ M L C (nI k)
    unfold wpX1_byWhoever_4
    refine pk_le 8 k (fun h => by omega) (fun _ => ?_)
    unfold wlX1_byWhoever_16
    refine zlp_forI 6 (fun e s => ∃ N : Int64, s = (M, L, C, nI k, N, nI e) ∧ ∀ S, S < 64 → (bL N S = true ↔ crx (cgt M) k e S)) ⟨C, rfl, fun S hS => by rw [hC S hS]; exact crx_0.symm⟩ ?_ ?_
    · rintro e K2 _ he ⟨N, rfl, hN⟩ hK2
      show wpX1_byWhoever_16 14 post _ _ M L C (nI k) N (nI e)
      unfold wpX1_byWhoever_16 wpX1_byWhoever_44
      refine pk_le 6 e (fun h => by omega) (fun _ => sX1_canGet hY he hk (fun hg => c1 (sX1_joinedBy he (fun J hJ v ev w ew => hK2 _ ⟨v, by show (M, L, C, nI k, v, w) = _; rw [ew, nI_1], fun S hS => ?_⟩))) (fun hg => c0 (fun w ew => hK2 _ ⟨N, by show (M, L, C, nI k, N, w) = _; rw [ew, nI_1], fun S hS => ?_⟩)))
      · rw [ev, bL_or, Bool.or_eq_true, hN S hS, hJ S hS, hC _ (set_fx S hS e he).1]
        unfold crx
        constructor
        · rintro ((z | ⟨e', he', z⟩) | z)
          · exact Or.inl z
          · exact Or.inr ⟨e', by omega, z⟩
          · exact Or.inr ⟨e, by omega, he, hg, z⟩
        · rintro (z | ⟨e', he', z1, z2, z3⟩)
          · exact Or.inl (Or.inl z)
          · by_cases q : e' = e
            · subst q; exact Or.inr z3
            · exact Or.inl (Or.inr ⟨e', by omega, z1, z2, z3⟩)
      · rw [hN S hS]
        unfold crx
        constructor
        · rintro (z | ⟨e', he', z⟩)
          · exact Or.inl z
          · exact Or.inr ⟨e', by omega, z⟩
        · rintro (z | ⟨e', he', z1, z2, z3⟩)
          · exact Or.inl z
          · by_cases q : e' = e
            · subst q; exact absurd z2 hg
            · exact Or.inr ⟨e', by omega, z1, z2, z3⟩
    · rintro K2 _ ⟨N, rfl, hN⟩
      show wpX1_byWhoever_16 14 post _ _ M L C (nI k) N (nI 6)
      unfold wpX1_byWhoever_16
      exact pk_le 6 6 (fun _ w ew => hK _ ⟨N, by rw [ew, nI_1], fun S hS => by rw [hN S hS]; exact crx_6⟩) (fun h => by omega)
  · rintro K _ ⟨C, rfl, hC⟩
    show wpX1_byWhoever_4 14 post _ M L C (nI 8)
    unfold wpX1_byWhoever_4
    refine pk_le 8 8 (fun _ => ?_) (fun h => by omega)
    unfold wlX1_byWhoever_64
    refine zlp_forI 64 (fun s st => ∃ m, st = (M, L, C, nI m, nI s) ∧ m ≤ 8 ∧ (∀ r, r < s → crd (cgt M) 8 r → zpop r 8 ≤ m) ∧ (m = 0 ∨ ∃ r, r < 64 ∧ crd (cgt M) 8 r ∧ zpop r 8 = m)) ⟨0, rfl, by decide, fun r hr => absurd hr (by omega), Or.inl rfl⟩ ?_ ?_
    · rintro s K2 _ hs ⟨m, rfl, hm, h1, h2⟩ hK2
      show wpX1_byWhoever_64 14 post _ M L C (nI m) (nI s)
      unfold wpX1_byWhoever_64 wpX1_byWhoever_92
      refine pk_le 64 s (fun h => by omega) (fun _ => ⟨fun q w ew => hK2 _ ⟨m, by show (M, L, C, nI m, w) = _; rw [ew, nI_1], hm, fun r hr hc => ?_, h2⟩, fun q => sJ6_bitCount (by omega) (fun v ev w ew => ?_)⟩)
      · by_cases e : r = s
        · subst e; exact absurd ((bL_is hs).mpr ((hC r hs).mpr hc)) q
        · exact h1 r (by omega) hc
      · have hcs := (hC s hs).mp ((bL_is hs).mp q)
        have hp8 : zpop s 8 ≤ 8 := by rw [zpop_ct]; exact zct_le _ 8
        have el : nI m < nI (zpop s 8) ↔ m < zpop s 8 := nI_ltI (by omega) (by omega)
        by_cases hlt : m < zpop s 8
        · rw [if_pos (el.mpr hlt)] at ev
          refine hK2 _ ⟨zpop s 8, by show (M, L, C, v, w) = _; rw [ev, ew, nI_1], hp8, fun r hr hc => ?_, Or.inr ⟨s, hs, hcs, rfl⟩⟩
          by_cases e : r = s
          · rw [e]; exact Nat.le_refl _
          · have := h1 r (by omega) hc
            omega
        · rw [if_neg (fun z => hlt (el.mp z))] at ev
          refine hK2 _ ⟨m, by show (M, L, C, v, w) = _; rw [ev, ew, nI_1], hm, fun r hr hc => ?_, h2⟩
          by_cases e : r = s
          · rw [e]; omega
          · exact h1 r (by omega) hc
    · rintro K2 _ ⟨m, rfl, hm, h1, h2⟩
      show wpX1_byWhoever_64 14 post _ M L C (nI m) (nI 64)
      unfold wpX1_byWhoever_64
      exact pk_le 64 64 (fun _ => h m h1 h2) (fun h => by omega)
end MOSTB
