/-! the ones' acts; one act of both -/
theorem z_umbx : ∀ u, u < 64 → ∀ e, e < 6 → (nI u ^^^ ((1 : Int32) <<< (nI e &&& 31)) = nI (u ^^^ 2 ^ e)) ∧ (u ^^^ 2 ^ e) < 64 ∧ ∀ f, f < 6 → (u ^^^ 2 ^ e).testBit f = if f = e then !u.testBit f else u.testBit f := by decide +kernel
section YONE
variable {M : Mm} {t u : Nat}
theorem YD_ones (h : YD 35 (vM M) t u M) {P : Mm} {u' : Nat} (hu' : u' < 64) (p7 : P 35 7 = nI u') (p35 : ∀ j, j ≠ 7 → P 35 j = M 35 j) (po : ∀ a, a ≠ 35 → a ≠ 41 → a ≠ 48 → a ≠ 49 → P a = M a) (hO : YO 35 P (vM P) u') : YD 35 (vM P) t u' P := by
  obtain ⟨ht, -, h0, hv0, h7, hF, -, hA, hS⟩ := h
  refine ⟨ht, hu', by rw [p35 0 (by decide)]; exact h0, ?_, p7, ?_, hO, ?_, ?_⟩
  · show P 42 0 = nI t
    rw [po 42 (by decide) (by decide) (by decide) (by decide)]; exact hv0
  · intro k hk
    have := hF k hk
    show (t.testBit k = true → (P 43 k = P 36 k ∧ P 44 k = P 37 k ∧ P 45 k = P 38 k ∧ P 46 k = P 39 k ∧ P 47 k = P 40 k) ∧ FRg (P 36 k) (P 37 k) (P 38 k) (P 39 k) (P 40 k)) ∧ (t.testBit k = false → P 38 k = 0)
    rw [po 43 (by decide) (by decide) (by decide) (by decide), po 44 (by decide) (by decide) (by decide) (by decide), po 45 (by decide) (by decide) (by decide) (by decide), po 46 (by decide) (by decide) (by decide) (by decide), po 47 (by decide) (by decide) (by decide) (by decide), po 36 (by decide) (by decide) (by decide) (by decide), po 37 (by decide) (by decide) (by decide) (by decide), po 38 (by decide) (by decide) (by decide) (by decide), po 39 (by decide) (by decide) (by decide) (by decide), po 40 (by decide) (by decide) (by decide) (by decide)]
    exact this
  · show P 50 0 = P 35 8 ∧ P 50 1 = P 35 9 ∧ zlt 256 (P 35 8) ∧ zlt 256 (P 35 9)
    rw [p35 8 (by decide), p35 9 (by decide), po 50 (by decide) (by decide) (by decide) (by decide)]; exact hA
  · exact YS_cong hS (p35 10 (by decide)) (p35 11 (by decide)) (p35 12 (by decide)) (by funext k; show P 51 k = M 51 k; rw [po 51 (by decide) (by decide) (by decide) (by decide)]) (by funext k; show P 52 k = M 52 k; rw [po 52 (by decide) (by decide) (by decide) (by decide)]) (by show P 42 11 = M 42 11; rw [po 42 (by decide) (by decide) (by decide) (by decide)])
theorem zs_at (M : Mm) (c k : Nat) (v : Int32) (j : Nat) : zs M c k v c j = if j = k then v else M c j := by
  by_cases h : j = k
  · subst h; rw [zs_eq, if_pos rfl]
  · rw [zs_nj h, if_neg h]
theorem YD_step (h : YD 35 (vM M) t u M) {e : Nat} (he : e < 6) {d : Int32} (hd : zlt 16 (M 41 e + d)) : YD 35 (vM (zs (zs M 41 e (M 41 e + d)) 48 e (zs M 41 e (M 41 e + d) 48 e + d))) t u (zs (zs M 41 e (M 41 e + d)) 48 e (zs M 41 e (M 41 e + d) 48 e + d)) := by
  rw [zs_ne (a := 48) (c := 41) (by decide)]
  obtain ⟨P, hP⟩ : ∃ P, P = zs (zs M 41 e (M 41 e + d)) 48 e (M 48 e + d) := ⟨_, rfl⟩
  rw [← hP]
  have p41 : ∀ f, P 41 f = if f = e then M 41 e + d else M 41 f := fun f => by rw [hP, zs_ne (by decide), zs_at]
  have p48 : ∀ f, P 48 f = if f = e then M 48 e + d else M 48 f := fun f => by rw [hP, zs_at, zs_ne (by decide)]
  have po : ∀ a, a ≠ 41 → a ≠ 48 → P a = M a := fun a h1 h2 => by rw [hP, zs_ne h2, zs_ne h1]
  have p35 := po 35 (by decide) (by decide)
  have hu := h.2.1
  have h7 := h.2.2.2.2.1
  have hO := h.2.2.2.2.2.2.1
  refine YD_ones h hu (by rw [p35]; exact h7) (fun j _ => by rw [p35]) (fun a _ h2 h3 _ => po a h2 h3) ?_
  intro f hf
  obtain ⟨o1, o2, o3⟩ := hO f hf
  have o1 : M 48 f = M 41 f := o1
  show P 48 f = P 41 f ∧ zlt 16 (P 41 f) ∧ P 49 f = _
  rw [p41, p48, po 49 (by decide) (by decide)]
  by_cases q : f = e
  · subst q
    rw [if_pos rfl, if_pos rfl, o1]
    exact ⟨rfl, hd, o3⟩
  · rw [if_neg q, if_neg q]
    exact ⟨o1, o2, o3⟩
theorem YD_umb (h : YD 35 (vM M) t u M) {e : Nat} (he : e < 6) : YD 35 (vM (zs (zs M 35 7 (M 35 7 ^^^ ((1 : Int32) <<< (nI e &&& 31)))) 49 e (1 - zs M 35 7 (M 35 7 ^^^ ((1 : Int32) <<< (nI e &&& 31))) 49 e))) t (u ^^^ 2 ^ e) (zs (zs M 35 7 (M 35 7 ^^^ ((1 : Int32) <<< (nI e &&& 31)))) 49 e (1 - zs M 35 7 (M 35 7 ^^^ ((1 : Int32) <<< (nI e &&& 31))) 49 e)) := by
  rw [zs_ne (a := 49) (c := 35) (by decide)]
  have hu := h.2.1
  have h7 := h.2.2.2.2.1
  have hO := h.2.2.2.2.2.2.1
  obtain ⟨x1, x2, x3⟩ := z_umbx u hu e he
  rw [h7, x1]
  obtain ⟨P, hP⟩ : ∃ P, P = zs (zs M 35 7 (nI (u ^^^ 2 ^ e))) 49 e (1 - M 49 e) := ⟨_, rfl⟩
  rw [← hP]
  have p35 : ∀ j, P 35 j = if j = 7 then nI (u ^^^ 2 ^ e) else M 35 j := fun f => by rw [hP, zs_ne (by decide), zs_at]
  have p49 : ∀ f, P 49 f = if f = e then 1 - M 49 e else M 49 f := fun f => by rw [hP, zs_at, zs_ne (by decide)]
  have po : ∀ a, a ≠ 35 → a ≠ 49 → P a = M a := fun a h1 h2 => by rw [hP, zs_ne h2, zs_ne h1]
  refine YD_ones h x2 (by rw [p35, if_pos rfl]) (fun j hj => by rw [p35, if_neg hj]) (fun a h1 _ _ h4 => po a h1 h4) ?_
  intro f hf
  obtain ⟨o1, o2, o3⟩ := hO f hf
  have o1 : M 48 f = M 41 f := o1
  have o3 : M 49 f = if u.testBit f then 1 else 0 := o3
  show P 48 f = P 41 f ∧ zlt 16 (P 41 f) ∧ P 49 f = _
  rw [po 48 (by decide) (by decide), po 41 (by decide) (by decide), p49, x3 f hf]
  refine ⟨o1, o2, ?_⟩
  by_cases q : f = e
  · subst q
    rw [if_pos rfl, if_pos rfl, o3]
    cases u.testBit f <;> rfl
  · rw [if_neg q, if_neg q]
    exact o3
theorem zwy_zwm (h : YD 35 (vM M) t u M) {j : Nat} {x y : Int32} (hxy : 5 ≤ j → x = y ∧ zlt 6 x) : zwm t M j y = zwy 35 M j x := by
  have hz : ∀ k, k < 8 → zab t M k = decide (¬ M 38 k ≤ 0) := fun k hk => zab_of h hk
  have hO := h.2.2.2.2.2.2.1
  unfold zwm zwy
  by_cases h5 : j = 5
  · obtain ⟨rfl, e, he, rfl⟩ := hxy (by omega)
    have ek : (nI e).toNatClampNeg = e := nI_clamp (by omega)
    have o1 : M 48 e = M 41 e := (hO e he).1
    rw [if_pos h5, if_pos h5, ek, o1]
  · by_cases h6 : j = 6
    · obtain ⟨rfl, e, he, rfl⟩ := hxy (by omega)
      have ek : (nI e).toNatClampNeg = e := nI_clamp (by omega)
      have o1 : M 48 e = M 41 e := (hO e he).1
      rw [if_neg h5, if_neg h5, if_pos h6, if_pos h6, ek, o1]
    · rw [if_neg h5, if_neg h5, if_neg h6, if_neg h6, zct_cong hz]
/-- an act that can be, done on both sides, keeps the relation -/
theorem YD_act (h : YD 35 (vM M) t u M) {j : Nat} (hj : j < 8) {x y : Int32} (hxy : 5 ≤ j → x = y ∧ zlt 6 x) (hw : zwy 35 M j x = 0) : ∃ u', YD 35 (vM (mAct t j y (cAct 35 j x M))) t u' (mAct t j y (cAct 35 j x M)) := by
  have hA := h.2.2.2.2.2.2.2.1
  have hO := h.2.2.2.2.2.2.1
  have a8 : M 50 0 = M 35 8 := hA.1
  have a9 : M 50 1 = M 35 9 := hA.2.1
  match j, hj with
  | 0, _ => exact ⟨u, YD_grow h (i := 0) a8⟩
  | 1, _ => exact ⟨u, YD_grow h (i := 1) a9⟩
  | 2, _ => exact ⟨u, YD_blow h _⟩
  | 3, _ => exact ⟨u, YD_blow h _⟩
  | 4, _ => exact ⟨u, YD_fall h⟩
  | 5, _ =>
    obtain ⟨rfl, e, he, rfl⟩ := hxy (by decide)
    have ek : (nI e).toNatClampNeg = e := nI_clamp (by omega)
    refine ⟨u, ?_⟩
    show YD 35 (vM (zs (zs M 41 (nI e).toNatClampNeg (M 41 (nI e).toNatClampNeg - 1)) 48 (nI e).toNatClampNeg (zs M 41 (nI e).toNatClampNeg (M 41 (nI e).toNatClampNeg - 1) 48 (nI e).toNatClampNeg - 1))) t u (zs (zs M 41 (nI e).toNatClampNeg (M 41 (nI e).toNatClampNeg - 1)) 48 (nI e).toNatClampNeg (zs M 41 (nI e).toNatClampNeg (M 41 (nI e).toNatClampNeg - 1) 48 (nI e).toNatClampNeg - 1))
    rw [ek, Int32.sub_eq_add_neg, Int32.sub_eq_add_neg]
    refine YD_step h he ?_
    obtain ⟨-, ⟨a, ha, ea⟩, -⟩ := hO e he
    have hne : ¬ M 41 e = 0 := fun q => by
      have hw2 : (if M 41 (nI e).toNatClampNeg = 0 then (1 : Int32) else 0) = 0 := hw
      rw [ek, if_pos q] at hw2
      exact absurd hw2 (by decide)
    have ea : M 41 e = nI a := ea
    rw [ea] at hne ⊢
    cases a with
    | zero => exact absurd rfl hne
    | succ a => exact ⟨a, by omega, pk_m1 a⟩
  | 6, _ =>
    obtain ⟨rfl, e, he, rfl⟩ := hxy (by decide)
    have ek : (nI e).toNatClampNeg = e := nI_clamp (by omega)
    refine ⟨u, ?_⟩
    show YD 35 (vM (zs (zs M 41 (nI e).toNatClampNeg (M 41 (nI e).toNatClampNeg + 1)) 48 (nI e).toNatClampNeg (zs M 41 (nI e).toNatClampNeg (M 41 (nI e).toNatClampNeg + 1) 48 (nI e).toNatClampNeg + 1))) t u (zs (zs M 41 (nI e).toNatClampNeg (M 41 (nI e).toNatClampNeg + 1)) 48 (nI e).toNatClampNeg (zs M 41 (nI e).toNatClampNeg (M 41 (nI e).toNatClampNeg + 1) 48 (nI e).toNatClampNeg + 1))
    rw [ek]
    refine YD_step h he ?_
    obtain ⟨-, ⟨a, ha, ea⟩, -⟩ := hO e he
    have hne : ¬ M 41 e = 15 := fun q => by
      have hw2 : (if M 41 (nI e).toNatClampNeg = 15 then (1 : Int32) else 0) = 0 := hw
      rw [ek, if_pos q] at hw2
      exact absurd hw2 (by decide)
    have ea : M 41 e = nI a := ea
    rw [ea] at hne ⊢
    have : a ≠ 15 := fun q => hne (by rw [q]; rfl)
    exact ⟨a + 1, by omega, nI_1 a⟩
  | 7, _ =>
    obtain ⟨rfl, e, he, rfl⟩ := hxy (by decide)
    have ek : (nI e).toNatClampNeg = e := nI_clamp (by omega)
    refine ⟨u ^^^ 2 ^ e, ?_⟩
    show YD 35 (vM (zs (zs M 35 7 (M 35 7 ^^^ ((1 : Int32) <<< (nI e &&& 31)))) 49 (nI e).toNatClampNeg (1 - zs M 35 7 (M 35 7 ^^^ ((1 : Int32) <<< (nI e &&& 31))) 49 (nI e).toNatClampNeg))) t (u ^^^ 2 ^ e) (zs (zs M 35 7 (M 35 7 ^^^ ((1 : Int32) <<< (nI e &&& 31)))) 49 (nI e).toNatClampNeg (1 - zs M 35 7 (M 35 7 ^^^ ((1 : Int32) <<< (nI e &&& 31))) 49 (nI e).toNatClampNeg))
    rw [ek]
    exact YD_umb h he
end YONE
