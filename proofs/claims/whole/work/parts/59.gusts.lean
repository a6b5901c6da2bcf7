/-! gusts: the class falls, the model's gust -/
section GUST
variable {M : Mm} {L : Ml}
theorem sX4_fall {f a b h : Nat} {post : Mm → Ml → Prop} (hf : f < 16) (ha : a < 11) (hb : b < 11) (hab : a + b ≤ 10) (hh : h ≤ 6) (hp : ∀ M', (∀ i, i ≠ 11 → M' i = M i) → (∀ p, p < 16 → M' 11 p = nI (gw f a b h p)) → post M' L) : wpX4_fall (nI f) (nI h) (nI a) (nI b) M L post := by
  unfold wpX4_fall
  refine sJ7_fill (by decide) (fun M1 h1 h2 => ⟨vp_in_nI hf (by decide), fun M2 e2 => ?_⟩)
  rw [nI_clamp (n := f) (by omega)] at e2
  unfold wlX4_fall_18
  have ec : ((10 : Int32) - nI a) - nI b = nI (10 - a - b) := by rw [show (10 : Int32) - nI a = nI (10 - a) from pk_sub (a := 10) (by omega), pk_sub (by omega)]
  refine zlp_forI h (fun i s => ∃ M', s = (M', L, nI h, nI a, nI b, nI i) ∧ (∀ i, i ≠ 11 → M' i = M i) ∧ ∀ p, p < 16 → M' 11 p = nI (gw f a b i p)) ⟨M2, rfl, fun i hi => by rw [e2, zs_ne hi]; exact h1 i hi, fun p hp => ?_⟩ ?_ ?_
  · rw [e2, zs_at]
    unfold gw
    by_cases q : p = f
    · rw [if_pos q, if_pos q]; rfl
    · rw [if_neg q, if_neg q]; exact h2 p hp
  · rintro i K _ hi ⟨M', rfl, g1, g2⟩ hK
    show wpX4_fall_18 post _ M' L (nI h) (nI a) (nI b) (nI i)
    unfold wpX4_fall_18
    refine pk_le h i (fun h => by omega) (fun _ => ?_)
    unfold wlX4_fall_30
    refine zlp_forI 16 (fun p s => ∃ M', s = (M', L, nI h, nI a, nI b, nI i, nI (if p = 0 then 0 else gw f a b i (p - 1)), nI p) ∧ (∀ i, i ≠ 11 → M' i = M i) ∧ ∀ q, q < 16 → M' 11 q = nI (if q < p then gw f a b (i + 1) q else gw f a b i q)) ⟨M', rfl, g1, fun q hq => by rw [if_neg (by omega)]; exact g2 q hq⟩ ?_ ?_
    · rintro p K2 _ hpp ⟨M', rfl, g1, g2⟩ hK2
      show wpX4_fall_30 post _ _ M' L (nI h) (nI a) (nI b) (nI i) (nI (if p = 0 then 0 else gw f a b i (p - 1))) (nI p)
      unfold wpX4_fall_30 wpX4_fall_66
      rw [nI_1 p, nI_clamp (n := p) (by omega), nI_clamp (n := p + 1) (by omega), ec]
      have v0 := g2 p hpp
      rw [if_neg (by omega)] at v0
      have p15 : nI p = (15 : Int32) ↔ p = 15 := ⟨fun z => nI_inj (a := p) (b := 15) (by omega) (by decide) z, fun z => by rw [z]; rfl⟩
      have go : ∀ (s : Int32), s = nI (if p = 15 then 0 else gw f a b i (p + 1)) → vp_in (nI p) 16 ∧ (∀ M_95 : Mm, M_95 = zs M' 11 p (((nI (gw f a b i p) * nI (10 - a - b)) + (nI (if p = 0 then 0 else gw f a b i (p - 1)) * nI b)) + (s * nI a)) → (∀ a_100 : Int32, a_100 = nI (p + 1) → K2 (M_95, L, nI h, nI a, nI b, nI i, nI (gw f a b i p), a_100))) := by
        intro s es
        refine ⟨vp_in_nI hpp (by decide), fun M3 e3 w ew => hK2 _ ⟨M3, by rw [ew, if_neg (show ¬ p + 1 = 0 by omega), Nat.add_sub_cancel], fun i hi => by rw [e3, zs_ne hi]; exact g1 i hi, fun q hq => ?_⟩⟩
        rw [e3, zs_at]
        by_cases e : q = p
        · subst e
          rw [if_pos rfl, if_pos (show q < q + 1 by omega), es, pk_mul, pk_mul, pk_mul, nI_add, nI_add]
          rfl
        · rw [if_neg e, g2 q hq]
          by_cases e2 : q < p
          · rw [if_pos e2, if_pos (by omega)]
          · rw [if_neg e2, if_neg (by omega)]
      refine pk_le 16 p (fun h => by omega) (fun _ => ⟨vp_in_nI hpp (by decide), fun x ex => ?_⟩)
      rw [v0] at ex
      subst ex
      refine ⟨fun q => ⟨vp_in_nI (by have : ¬ p = 15 := fun z => q (p15.mpr z); omega) (by decide), go _ ?_⟩, fun q => go _ ?_⟩
      · have q : ¬ p = 15 := fun z => q (p15.mpr z)
        rw [if_neg q]
        have := g2 (p + 1) (by omega)
        rw [if_neg (by omega)] at this
        exact this
      · rw [if_pos (p15.mp q)]; rfl
    · rintro K2 _ ⟨M', rfl, g1, g2⟩
      show wpX4_fall_30 post _ _ M' L (nI h) (nI a) (nI b) (nI i) (nI (if 16 = 0 then 0 else gw f a b i (16 - 1))) (nI 16)
      unfold wpX4_fall_30
      refine pk_le 16 16 (fun _ w ew => hK _ ⟨M', by rw [ew, nI_1], g1, fun p hp => ?_⟩) (fun h => by omega)
      have := g2 p hp
      rw [if_pos hp] at this
      exact this
  · rintro K _ ⟨M', rfl, g1, g2⟩
    show wpX4_fall_18 post _ M' L (nI h) (nI a) (nI b) (nI h)
    unfold wpX4_fall_18
    exact pk_le h h (fun _ => hp M' g1 g2) (fun h => by omega)
theorem sX4_all {w : Nat → Nat} {post : Int32 → Mm → Ml → Prop} (hw : ∀ p, p < 16 → M 11 p = nI (w p)) (hp : post (nI (su w 16)) M L) : wpX4_all M L post := by
  unfold wpX4_all wlX4_all_4
  refine zlp_forI 16 (fun k s => s = (M, L, nI (su w k), nI k)) rfl ?_ ?_
  · rintro k K _ hk rfl hK
    show wpX4_all_4 post _ M L (nI (su w k)) (nI k)
    unfold wpX4_all_4
    rw [nI_clamp (n := k) (by omega), hw k hk]
    refine pk_le 16 k (fun h => by omega) (fun _ => ⟨vp_in_nI hk (by decide), fun v ev z ez => hK _ ?_⟩)
    show (M, L, v, z) = _
    rw [ev, ez, nI_add, nI_1]
    rfl
  · rintro K _ rfl
    show wpX4_all_4 post _ M L (nI (su w 16)) (nI 16)
    unfold wpX4_all_4
    exact pk_le 16 16 (fun _ => hp) (fun h => by omega)
/-- the ways that end at to -/
def gwT (f a b h : Nat) (to : Int32) : Nat := if to = -1 then gon f a b h else gw f a b h to.toNatClampNeg
theorem gwT_le {f a b h : Nat} {to : Int32} (hf : f < 16) (hab : a + b ≤ 10) (hto : to = -1 ∨ zlt 16 to) : gwT f a b h to ≤ 10 ^ h := by
  have ht := gw_all hf hab h
  unfold gwT
  by_cases q : to = -1
  · rw [if_pos q]; omega
  · rw [if_neg q]
    obtain ⟨p, hp, rfl⟩ := hto.resolve_left q
    rw [nI_clamp (by omega)]
    have key : ∀ n, p < n → gw f a b h p ≤ su (gw f a b h) n := by
      intro n
      induction n with
      | zero => intro z; omega
      | succ n ih =>
        intro z
        show gw f a b h p ≤ su (gw f a b h) n + gw f a b h n
        by_cases e : p = n
        · rw [e]; omega
        · have := ih (by omega)
          omega
    have := key 16 hp
    omega
theorem sX4_chance {f a b h : Nat} {to part : Int32} {post : Int64 → Mm → Ml → Prop} (hf : f < 16) (hab : a + b ≤ 10) (hh : h ≤ 6) (hto : to = -1 ∨ zlt 16 to) (hw : ∀ p, p < 16 → M 11 p = nI (gw f a b h p)) (hp : post (if part = 0 then lN (gwT f a b h to / Nat.gcd (gwT f a b h to) (10 ^ h)) else lN (10 ^ h / Nat.gcd (gwT f a b h to) (10 ^ h))) M L) : wpX4_chance to (nI h) part M L post := by
  unfold wpX4_chance wlX4_chance_6
  have hle := gwT_le (h := h) hf hab hto
  have ht := gw_all hf hab h
  refine zlp_forI h (fun i s => s = (M, L, to, nI h, part, nI (10 ^ i), nI i)) rfl ?_ ?_
  · rintro i K _ hi rfl hK
    show wpX4_chance_6 post _ M L to (nI h) part (nI (10 ^ i)) (nI i)
    unfold wpX4_chance_6
    refine pk_le h i (fun h => by omega) (fun _ v ev z ez => hK _ ?_)
    show (M, L, to, nI h, part, v, z) = _
    rw [ev, ez, nI_1, show (10 : Int32) = nI 10 from rfl, pk_mul, Nat.pow_succ]
  · rintro K _ rfl
    show wpX4_chance_6 post _ M L to (nI h) part (nI (10 ^ h)) (nI h)
    unfold wpX4_chance_6
    have hp2 := sX4_chance46 (M := M) (L := L) (U := gwT f a b h to) hh rfl hle hp
    refine pk_le h h (fun _ => ⟨fun q => ?_, fun q => sX4_all hw ?_⟩) (fun h => by omega)
    · obtain ⟨p, hpp, rfl⟩ := hto.resolve_left q
      unfold gwT at hp2
      rw [if_neg q] at hp2
      refine ⟨vp_in_nI hpp (by decide), ?_⟩
      rw [nI_clamp (by omega)] at hp2 ⊢
      rw [hw p hpp]
      exact hp2
    · rw [pk_sub (by omega)]
      unfold gwT at hp2
      rw [if_pos q] at hp2
      rw [show 10 ^ h - su (gw f a b h) 16 = gon f a b h by omega]
      exact hp2
end GUST
