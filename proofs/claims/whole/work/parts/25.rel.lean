/-! what the class's yard b and a view V of the model have in common -/
def FRg (a1 a2 a3 a4 a5 : Int32) : Prop := zlt 256 a1 ∧ (zlt 16 a2 ∨ (a2 = -6 ∧ a3 = 0)) ∧ zlt 10 a3 ∧ zlt 6 a4 ∧ (a5 = -6 ∨ zlt 6 a5) ∧ (¬ a3 ≤ 0 → a5 = -6)
def FR (b : Nat) (M : Mm) (V : Nat → Nat → Int32) (k : Nat) : Prop := (V 1 k = M (b + 1) k ∧ V 2 k = M (b + 2) k ∧ V 3 k = M (b + 3) k ∧ V 4 k = M (b + 4) k ∧ V 5 k = M (b + 5) k) ∧ FRg (M (b + 1) k) (M (b + 2) k) (M (b + 3) k) (M (b + 4) k) (M (b + 5) k)
def YF (b : Nat) (M : Mm) (V : Nat → Nat → Int32) (t : Nat) : Prop := ∀ k, k < 8 → (t.testBit k = true → FR b M V k) ∧ (t.testBit k = false → M (b + 3) k = 0)
def YO (b : Nat) (M : Mm) (V : Nat → Nat → Int32) (u : Nat) : Prop := ∀ e, e < 6 → V 6 e = M (b + 6) e ∧ zlt 16 (M (b + 6) e) ∧ V 7 e = if u.testBit e then 1 else 0
def YA (b : Nat) (M : Mm) (V : Nat → Nat → Int32) : Prop := V 8 0 = M b 8 ∧ V 8 1 = M b 9 ∧ zlt 256 (M b 8) ∧ zlt 256 (M b 9)
def YS (b : Nat) (M : Mm) (V : Nat → Nat → Int32) : Prop := ∃ n hs lk : Nat, n ≤ 8 ∧ hs < 256 ∧ lk < 256 ∧ M b 10 = nI n ∧ V 11 0 = nI n ∧ M b 11 = nI hs ∧ M b 12 = nI lk ∧ (∀ e, e < n → zlt 256 (V 9 e) ∧ zlt 256 (V 10 e)) ∧ ∀ w, w < 256 → ((w &&& hs = hs ∧ w &&& lk = 0) ↔ ∀ e, e < n → zg32 (V 9 e) (nI w) = V 10 e)
/-- the relation with its two sets told -/
def YD (b : Nat) (V : Nat → Nat → Int32) (t u : Nat) (M : Mm) : Prop := t < 256 ∧ u < 64 ∧ M b 0 = nI t ∧ V 0 0 = nI t ∧ M b 7 = nI u ∧ YF b M V t ∧ YO b M V u ∧ YA b M V ∧ YS b M V
def YR (b : Nat) (V : Nat → Nat → Int32) (M : Mm) : Prop := ∃ t u, YD b V t u M
/-- the model as it is now -/
def vM (M : Mm) : Nat → Nat → Int32 := fun i k => if i = 0 then M 42 0 else if i = 11 then M 42 11 else M (42 + i) k
theorem zlt_zg32 (x w : Int32) : zlt 256 (zg32 x w) := ⟨_, zgro_lt _ _, rfl⟩
theorem zlt_le {n : Nat} {x : Int32} (hn : n < 2147483648) (h : zlt n x) (h0 : ¬ x ≤ 0) : ∃ a : Nat, a + 1 < n ∧ x = nI (a + 1) := by
  obtain ⟨a, ha, rfl⟩ := h
  cases a with
  | zero => exact absurd (show nI 0 ≤ 0 by decide) h0
  | succ a => exact ⟨a, ha, rfl⟩
theorem FRg_grow {a1 a2 a3 a4 a5 w : Int32} (h : FRg a1 a2 a3 a4 a5) : FRg (zg32 a1 w) a2 a3 a4 a5 := ⟨zlt_zg32 _ _, h.2⟩
theorem zwind_in {p d : Int32} : (zlt 16 (zwind p d)) ∨ zwind p d = -6 := by
  unfold zwind
  by_cases h : 0 ≤ (p + d).toInt ∧ (p + d).toInt < 16
  · rw [if_pos h]; exact Or.inl (z_rng (n := 16) h (by decide))
  · rw [if_neg h]; exact Or.inr rfl
theorem FRg_wind {a1 a2 a3 a4 a5 d : Int32} (h : FRg a1 a2 a3 a4 a5) : FRg a1 (zwind a2 d) (zwindH a2 d a3) a4 a5 := by
  obtain ⟨h1, h2, h3, h4, h5, h6⟩ := h
  refine ⟨h1, ?_, ?_, h4, h5, ?_⟩
  · unfold zwind zwindH
    by_cases hi : 0 ≤ (a2 + d).toInt ∧ (a2 + d).toInt < 16
    · rw [if_pos hi, if_pos hi]; exact Or.inl (z_rng (n := 16) hi (by decide))
    · rw [if_neg hi, if_neg hi]; exact Or.inr ⟨rfl, rfl⟩
  · unfold zwindH
    split
    · exact h3
    · exact ⟨0, by decide, rfl⟩
  · unfold zwindH
    split
    · exact h6
    · exact fun q => absurd (by decide) q
theorem FRg_fall {a1 a2 a3 a4 a5 c : Int32} (h : FRg a1 a2 a3 a4 a5) (h0 : ¬ a3 ≤ 0) (hc : c = -6 ∨ zlt 6 c) : FRg a1 a2 (a3 - 1) a4 (if a3 - 1 = 0 then c else -6) := by
  obtain ⟨h1, h2, h3, h4, h5, h6⟩ := h
  obtain ⟨a, ha, rfl⟩ := zlt_le (by decide) h3 h0
  have e : nI (a + 1) - 1 = nI a := nI_pred a
  rw [e]
  refine ⟨h1, ?_, ⟨a, by omega, rfl⟩, h4, ?_, ?_⟩
  · rcases h2 with h2 | ⟨-, h2⟩
    · exact Or.inl h2
    · exact absurd (by rw [h2]; decide) h0
  · split
    · exact hc
    · exact Or.inl rfl
  · intro q
    rw [if_neg (fun z => q (by rw [z]; decide))]
theorem zCat_in {b : Nat} {M : Mm} {w : Int32} : ∀ d e, e + d ≤ 6 → zCat b M w d e = -6 ∨ zlt 6 (zCat b M w d e)
  | 0, _, _ => Or.inl rfl
  | d + 1, e, h => by
    unfold zCat
    split
    · exact Or.inr ⟨e, by omega, rfl⟩
    · exact zCat_in d (e + 1) (by omega)
theorem zCat_zcm {b : Nat} {M N : Mm} {w : Int32} (h : ∀ e, e < 6 → (M (b + 6) e = w ∧ ((M b 7) >>> (nI e &&& 31)) &&& 1 = 0 ↔ N 48 e = w ∧ N 49 e = 0)) : ∀ d e, e + d ≤ 6 → zCat b M w d e = zcm N w (-6) d e
  | 0, _, _ => rfl
  | d + 1, e, hd => by
    unfold zCat zcm
    rw [zCat_zcm h d (e + 1) (by omega)]
    by_cases q : M (b + 6) e = w ∧ ((M b 7) >>> (nI e &&& 31)) &&& 1 = 0
    · rw [if_pos q, if_pos ((h e (by omega)).mp q)]
    · rw [if_neg q, if_neg (fun z => q ((h e (by omega)).mpr z))]
theorem YS_cong {b : Nat} {V V' : Nat → Nat → Int32} {M M' : Mm} (h : YS b M V) (h10 : M' b 10 = M b 10) (h11 : M' b 11 = M b 11) (h12 : M' b 12 = M b 12) (v9 : V' 9 = V 9) (v10 : V' 10 = V 10) (v11 : V' 11 0 = V 11 0) : YS b M' V' := by
  unfold YS at h ⊢
  rw [h10, h11, h12, v9, v10, v11]
  exact h
section YACT
variable {M : Mm} {t u : Nat}
theorem zab_of (h : YD 35 (vM M) t u M) {k : Nat} (hk : k < 8) : zab t M k = decide (¬ M 38 k ≤ 0) := by
  obtain ⟨-, -, -, -, -, hF, -⟩ := h
  unfold zab
  cases hb : t.testBit k with
  | true =>
    have e : M 45 k = M 38 k := ((hF k hk).1 hb).1.2.2.1
    rw [e]; rfl
  | false =>
    have e : M 38 k = 0 := (hF k hk).2 hb
    rw [e]; rfl
/-- an act changes the flakes: the ones, the airs and the sights stay -/
theorem YD_flakes (h : YD 35 (vM M) t u M) {P : Mm} (o0 : P 35 = M 35) (o6 : P 41 = M 41) (q0 : P 42 0 = M 42 0) (q11 : P 42 11 = M 42 11) (q6 : P 48 = M 48) (q7 : P 49 = M 49) (q8 : P 50 = M 50) (q9 : P 51 = M 51) (q10 : P 52 = M 52) (hF : YF 35 P (vM P) t) : YD 35 (vM P) t u P := by
  obtain ⟨ht, hu, h0, hv0, h7, -, hO, hA, hS⟩ := h
  refine ⟨ht, hu, by rw [o0]; exact h0, ?_, by rw [o0]; exact h7, hF, ?_, ?_, ?_⟩
  · show P 42 0 = nI t
    rw [q0]; exact hv0
  · intro e he
    have := hO e he
    show P 48 e = P 41 e ∧ zlt 16 (P 41 e) ∧ P 49 e = _
    rw [o6, q6, q7]; exact this
  · show P 50 0 = P 35 8 ∧ P 50 1 = P 35 9 ∧ zlt 256 (P 35 8) ∧ zlt 256 (P 35 9)
    rw [o0, q8]; exact hA
  · exact YS_cong hS (by rw [o0]) (by rw [o0]) (by rw [o0]) (by funext k; show P 51 k = M 51 k; rw [q9]) (by funext k; show P 52 k = M 52 k; rw [q10]) q11
theorem YD_grow (h : YD 35 (vM M) t u M) {i : Nat} {w : Int32} (hw : M 50 i = w) : YD 35 (vM (mGrow t (cGrow 35 w M 50 i) (cGrow 35 w M))) t u (mGrow t (cGrow 35 w M 50 i) (cGrow 35 w M)) := by
  obtain ⟨N, hN⟩ : ∃ N, N = cGrow 35 w M := ⟨_, rfl⟩
  rw [← hN]
  have n36 : N 36 = zup (M 36) (cGrowR 35 w M) 8 := by rw [hN]; exact zr_eq _ _ _
  have nn : ∀ a, a ≠ 36 → N a = M a := fun a ha => by rw [hN]; exact zr_ne ha
  rw [nn 50 (by decide), hw]
  obtain ⟨P, hP⟩ : ∃ P, P = mGrow t w N := ⟨_, rfl⟩
  rw [← hP]
  have p43 : P 43 = zup (N 43) (mGrowR t w N) 8 := by rw [hP]; exact zr_eq _ _ _
  have pn : ∀ a, a ≠ 43 → P a = N a := fun a ha => by rw [hP]; exact zr_ne ha
  have po : ∀ a, a ≠ 43 → a ≠ 36 → P a = M a := fun a h1 h2 => by rw [pn a h1, nn a h2]
  refine YD_flakes h (po 35 (by decide) (by decide)) (po 41 (by decide) (by decide)) (by rw [po 42 (by decide) (by decide)]) (by rw [po 42 (by decide) (by decide)]) (po 48 (by decide) (by decide)) (po 49 (by decide) (by decide)) (po 50 (by decide) (by decide)) (po 51 (by decide) (by decide)) (po 52 (by decide) (by decide)) ?_
  have hz : ∀ k, k < 8 → zab t M k = decide (¬ M 38 k ≤ 0) := fun k hk => zab_of h hk
  obtain ⟨-, -, -, -, -, hF, -⟩ := h
  intro k hk
  refine ⟨fun hb => ?_, fun hb => ?_⟩
  · obtain ⟨⟨v1, v2, v3, v4, v5⟩, hg⟩ := (hF k hk).1 hb
    have v1 : M 43 k = M 36 k := v1
    have v2 : M 44 k = M 37 k := v2
    have v3 : M 45 k = M 38 k := v3
    have v4 : M 46 k = M 39 k := v4
    have v5 : M 47 k = M 40 k := v5
    have c1 : P 36 k = if M 38 k ≤ 0 then M 36 k else zg32 (M 36 k) w := by rw [pn 36 (by decide), n36, zup_in hk]; rfl
    have m1 : P 43 k = if M 38 k ≤ 0 then M 36 k else zg32 (M 36 k) w := by
      rw [p43, zup_in hk]
      show (if zab t N k = true then zg32 (N 43 k) w else N 43 k) = _
      rw [zab_at (M := M) (by rw [nn 45 (by decide)]), hz k hk, nn 43 (by decide), v1]
      by_cases q : M 38 k ≤ 0
      · rw [if_pos q, if_neg (by simp [q])]
      · rw [if_neg q, if_pos (by simp [q])]
    refine ⟨⟨?_, ?_, ?_, ?_, ?_⟩, ?_⟩
    · show P 43 k = P 36 k
      rw [c1, m1]
    · show P 44 k = P 37 k
      rw [po 44 (by decide) (by decide), po 37 (by decide) (by decide)]; exact v2
    · show P 45 k = P 38 k
      rw [po 45 (by decide) (by decide), po 38 (by decide) (by decide)]; exact v3
    · show P 46 k = P 39 k
      rw [po 46 (by decide) (by decide), po 39 (by decide) (by decide)]; exact v4
    · show P 47 k = P 40 k
      rw [po 47 (by decide) (by decide), po 40 (by decide) (by decide)]; exact v5
    · show FRg (P 36 k) (P 37 k) (P 38 k) (P 39 k) (P 40 k)
      rw [c1, po 37 (by decide) (by decide), po 38 (by decide) (by decide), po 39 (by decide) (by decide), po 40 (by decide) (by decide)]
      by_cases q : M 38 k ≤ 0
      · rw [if_pos q]; exact hg
      · rw [if_neg q]; exact FRg_grow hg
  · show P 38 k = 0
    rw [po 38 (by decide) (by decide)]; exact (hF k hk).2 hb
theorem YD_blow (h : YD 35 (vM M) t u M) (d : Int32) : YD 35 (vM (mBlow t d (cBlow 35 d M))) t u (mBlow t d (cBlow 35 d M)) := by
  obtain ⟨N, hN⟩ : ∃ N, N = cBlow 35 d M := ⟨_, rfl⟩
  rw [← hN]
  have n37 : N 37 = zup (M 37) (cBlowP 35 d M) 8 := by rw [hN]; unfold cBlow; rw [zr_ne (by decide)]; exact zr_eq _ _ _
  have n38 : N 38 = zup (M 38) (cBlowH 35 d M) 8 := by rw [hN]; exact zr_eq _ _ _
  have nn : ∀ a, a ≠ 37 → a ≠ 38 → N a = M a := fun a ha h2 => by rw [hN]; unfold cBlow; rw [zr_ne h2, zr_ne ha]
  obtain ⟨P, hP⟩ : ∃ P, P = mBlow t d N := ⟨_, rfl⟩
  rw [← hP]
  have p44 : P 44 = zup (N 44) (mBlowP t d N) 8 := by rw [hP]; unfold mBlow; rw [zr_ne (by decide)]; exact zr_eq _ _ _
  have p45 : P 45 = zup (N 45) (mBlowH t d N) 8 := by rw [hP]; exact zr_eq _ _ _
  have pn : ∀ a, a ≠ 44 → a ≠ 45 → P a = N a := fun a ha h2 => by rw [hP]; unfold mBlow; rw [zr_ne h2, zr_ne ha]
  have po : ∀ a, a ≠ 44 → a ≠ 45 → a ≠ 37 → a ≠ 38 → P a = M a := fun a h1 h2 h3 h4 => by rw [pn a h1 h2, nn a h3 h4]
  refine YD_flakes h (po 35 (by decide) (by decide) (by decide) (by decide)) (po 41 (by decide) (by decide) (by decide) (by decide)) (by rw [po 42 (by decide) (by decide) (by decide) (by decide)]) (by rw [po 42 (by decide) (by decide) (by decide) (by decide)]) (po 48 (by decide) (by decide) (by decide) (by decide)) (po 49 (by decide) (by decide) (by decide) (by decide)) (po 50 (by decide) (by decide) (by decide) (by decide)) (po 51 (by decide) (by decide) (by decide) (by decide)) (po 52 (by decide) (by decide) (by decide) (by decide)) ?_
  have hz : ∀ k, k < 8 → zab t M k = decide (¬ M 38 k ≤ 0) := fun k hk => zab_of h hk
  obtain ⟨-, -, -, -, -, hF, -⟩ := h
  intro k hk
  have c2 : P 37 k = if M 38 k ≤ 0 then M 37 k else zwind (M 37 k) d := by rw [pn 37 (by decide) (by decide), n37, zup_in hk]; rfl
  have c3 : P 38 k = if M 38 k ≤ 0 then M 38 k else zwindH (M 37 k) d (M 38 k) := by rw [pn 38 (by decide) (by decide), n38, zup_in hk]; rfl
  refine ⟨fun hb => ?_, fun hb => ?_⟩
  · obtain ⟨⟨v1, v2, v3, v4, v5⟩, hg⟩ := (hF k hk).1 hb
    have v1 : M 43 k = M 36 k := v1
    have v2 : M 44 k = M 37 k := v2
    have v3 : M 45 k = M 38 k := v3
    have v4 : M 46 k = M 39 k := v4
    have v5 : M 47 k = M 40 k := v5
    have za : zab t N k = decide (¬ M 38 k ≤ 0) := by rw [zab_at (M := M) (by rw [nn 45 (by decide) (by decide)]), hz k hk]
    have m2 : P 44 k = if M 38 k ≤ 0 then M 37 k else zwind (M 37 k) d := by
      rw [p44, zup_in hk]
      show (if zab t N k = true then zwind (N 44 k) d else N 44 k) = _
      rw [za, nn 44 (by decide) (by decide), v2]
      by_cases q : M 38 k ≤ 0
      · rw [if_pos q, if_neg (by simp [q])]
      · rw [if_neg q, if_pos (by simp [q])]
    have m3 : P 45 k = if M 38 k ≤ 0 then M 38 k else zwindH (M 37 k) d (M 38 k) := by
      rw [p45, zup_in hk]
      show (if zab t N k = true then zwindH (N 44 k) d (N 45 k) else N 45 k) = _
      rw [za, nn 44 (by decide) (by decide), nn 45 (by decide) (by decide), v2, v3]
      by_cases q : M 38 k ≤ 0
      · rw [if_pos q, if_neg (by simp [q])]
      · rw [if_neg q, if_pos (by simp [q])]
    refine ⟨⟨?_, ?_, ?_, ?_, ?_⟩, ?_⟩
    · show P 43 k = P 36 k
      rw [po 43 (by decide) (by decide) (by decide) (by decide), po 36 (by decide) (by decide) (by decide) (by decide)]; exact v1
    · show P 44 k = P 37 k
      rw [c2, m2]
    · show P 45 k = P 38 k
      rw [c3, m3]
    · show P 46 k = P 39 k
      rw [po 46 (by decide) (by decide) (by decide) (by decide), po 39 (by decide) (by decide) (by decide) (by decide)]; exact v4
    · show P 47 k = P 40 k
      rw [po 47 (by decide) (by decide) (by decide) (by decide), po 40 (by decide) (by decide) (by decide) (by decide)]; exact v5
    · show FRg (P 36 k) (P 37 k) (P 38 k) (P 39 k) (P 40 k)
      rw [c2, c3, po 36 (by decide) (by decide) (by decide) (by decide), po 39 (by decide) (by decide) (by decide) (by decide), po 40 (by decide) (by decide) (by decide) (by decide)]
      by_cases q : M 38 k ≤ 0
      · rw [if_pos q, if_pos q]; exact hg
      · rw [if_neg q, if_neg q]; exact FRg_wind hg
  · show P 38 k = 0
    have e := (hF k hk).2 hb
    have e : M 38 k = 0 := e
    rw [c3, if_pos (by rw [e]; decide)]; exact e
theorem z_umb {u e : Nat} (hu : u < 64) (he : e < 6) : (((nI u) >>> (nI e &&& 31)) &&& (1 : Int32) = 0) ↔ (if u.testBit e then (1 : Int32) else 0) = 0 := by
  rw [z_bit (by omega) (by omega)]
/-- the fall: what each flake's row is behind it -/
theorem YD_fall_rows (h : YD 35 (vM M) t u M) {k : Nat} (hk : k < 8) (hb : t.testBit k = true) : mDownC (cFall 35 M) k = zCat 35 M (M 37 k) 6 0 ∨ M 38 k ≤ 0 := by
  obtain ⟨-, hu, -, -, h7, hF, hO, -, -⟩ := h
  by_cases q : M 38 k ≤ 0
  · exact Or.inr q
  · left
    obtain ⟨⟨-, v2, -, -, v5⟩, hg⟩ := (hF k hk).1 hb
    have v2 : M 44 k = M 37 k := v2
    have v5 : M 47 k = M 40 k := v5
    have w5 : M 40 k = -6 := hg.2.2.2.2.2 q
    have nn : ∀ a, a ≠ 38 → a ≠ 40 → cFall 35 M a = M a := fun a h1 h2 => by unfold cFall; rw [zr_ne h2, zr_ne h1]
    unfold mDownC
    rw [nn 44 (by decide) (by decide), nn 47 (by decide) (by decide), v2, v5, w5]
    refine (zCat_zcm (N := cFall 35 M) (fun e he => ?_) 6 0 (by decide)).symm
    rw [nn 48 (by decide) (by decide), nn 49 (by decide) (by decide), h7, z_umb hu he]
    obtain ⟨o1, -, o3⟩ := hO e he
    have o1 : M 48 e = M 41 e := o1
    have o3 : M 49 e = if u.testBit e then 1 else 0 := o3
    rw [o1, o3]
theorem mFall_ne (t : Nat) (M : Mm) {a : Nat} (h : a ≠ 42) (h2 : a ≠ 45) (h3 : a ≠ 47) : mFall t M a = M a := mFallK_ne t M 8 h h2 h3
theorem YD_fall (h : YD 35 (vM M) t u M) : YD 35 (vM (mFall t (cFall 35 M))) t u (mFall t (cFall 35 M)) := by
  have hr := fun (k : Nat) (hk : k < 8) (hb : t.testBit k = true) => YD_fall_rows h hk hb
  have hz : ∀ k, k < 8 → zab t M k = decide (¬ M 38 k ≤ 0) := fun k hk => zab_of h hk
  obtain ⟨N, hN⟩ : ∃ N, N = cFall 35 M := ⟨_, rfl⟩
  rw [← hN] at hr ⊢
  have n38 : N 38 = zup (M 38) (cFallH 35 M) 8 := by rw [hN]; unfold cFall; rw [zr_ne (by decide)]; exact zr_eq _ _ _
  have n40 : N 40 = zup (M 40) (cFallW 35 M) 8 := by rw [hN]; exact zr_eq _ _ _
  have nn : ∀ a, a ≠ 38 → a ≠ 40 → N a = M a := fun a ha h2 => by rw [hN]; unfold cFall; rw [zr_ne h2, zr_ne ha]
  obtain ⟨P, hP⟩ : ∃ P, P = mFall t N := ⟨_, rfl⟩
  rw [← hP]
  have p45 : P 45 = zup (N 45) (mFallH t N) 8 := by rw [hP]; exact mFallK_45 _ _ _
  have p47 : P 47 = zup (N 47) (mFallW t N) 8 := by rw [hP]; exact mFallK_47 _ _ _
  have pn : ∀ a, a ≠ 42 → a ≠ 45 → a ≠ 47 → P a = N a := fun a h1 h2 h3 => by rw [hP]; exact mFall_ne t N h1 h2 h3
  have po : ∀ a, a ≠ 42 → a ≠ 45 → a ≠ 47 → a ≠ 38 → a ≠ 40 → P a = M a := fun a h1 h2 h3 h4 h5 => by rw [pn a h1 h2 h3, nn a h4 h5]
  have p42 : ∀ j, j ≠ 17 → j ≠ 18 → P 42 j = M 42 j := fun j h1 h2 => by rw [hP]; unfold mFall; rw [mFallK_42, mFallO_ne t N 8 h1 h2, nn 42 (by decide) (by decide)]
  refine YD_flakes h (po 35 (by decide) (by decide) (by decide) (by decide) (by decide)) (po 41 (by decide) (by decide) (by decide) (by decide) (by decide)) (p42 0 (by decide) (by decide)) (p42 11 (by decide) (by decide)) (po 48 (by decide) (by decide) (by decide) (by decide) (by decide)) (po 49 (by decide) (by decide) (by decide) (by decide) (by decide)) (po 50 (by decide) (by decide) (by decide) (by decide) (by decide)) (po 51 (by decide) (by decide) (by decide) (by decide) (by decide)) (po 52 (by decide) (by decide) (by decide) (by decide) (by decide)) ?_
  obtain ⟨-, -, -, -, -, hF, -⟩ := h
  intro k hk
  have c3 : P 38 k = if M 38 k ≤ 0 then M 38 k else M 38 k - 1 := by rw [pn 38 (by decide) (by decide) (by decide), n38, zup_in hk]; rfl
  have c5 : P 40 k = if M 38 k ≤ 0 then M 40 k else if M 38 k - 1 = 0 then zCat 35 M (M 37 k) 6 0 else -6 := by rw [pn 40 (by decide) (by decide) (by decide), n40, zup_in hk]; rfl
  refine ⟨fun hb => ?_, fun hb => ?_⟩
  · obtain ⟨⟨v1, v2, v3, v4, v5⟩, hg⟩ := (hF k hk).1 hb
    have v1 : M 43 k = M 36 k := v1
    have v2 : M 44 k = M 37 k := v2
    have v3 : M 45 k = M 38 k := v3
    have v4 : M 46 k = M 39 k := v4
    have v5 : M 47 k = M 40 k := v5
    have za : zab t N k = decide (¬ M 38 k ≤ 0) := by rw [zab_at (M := M) (by rw [nn 45 (by decide) (by decide)]), hz k hk]
    have m3 : P 45 k = if M 38 k ≤ 0 then M 38 k else M 38 k - 1 := by
      rw [p45, zup_in hk]
      show (if zab t N k = true then N 45 k - 1 else N 45 k) = _
      rw [za, nn 45 (by decide) (by decide), v3]
      by_cases q : M 38 k ≤ 0
      · rw [if_pos q, if_neg (by simp [q])]
      · rw [if_neg q, if_pos (by simp [q])]
    have m5 : P 47 k = if M 38 k ≤ 0 then M 40 k else if M 38 k - 1 = 0 then zCat 35 M (M 37 k) 6 0 else -6 := by
      rw [p47, zup_in hk]
      show (if mLand t N k = true then mDownC N k else N 47 k) = _
      unfold mLand
      rw [za, nn 45 (by decide) (by decide), nn 47 (by decide) (by decide), v3, v5]
      by_cases q : M 38 k ≤ 0
      · rw [if_pos q, if_neg (by simp [q])]
      · rw [if_neg q]
        by_cases q2 : M 38 k - 1 = 0
        · rw [if_pos q2, if_pos (by rw [decide_eq_true q, decide_eq_true q2]; rfl)]
          rcases hr k hk hb with e | e
          · exact e
          · exact absurd e q
        · rw [if_neg q2, if_neg (by rw [decide_eq_false q2, Bool.and_false]; decide)]
          exact hg.2.2.2.2.2 q
    refine ⟨⟨?_, ?_, ?_, ?_, ?_⟩, ?_⟩
    · show P 43 k = P 36 k
      rw [po 43 (by decide) (by decide) (by decide) (by decide) (by decide), po 36 (by decide) (by decide) (by decide) (by decide) (by decide)]; exact v1
    · show P 44 k = P 37 k
      rw [po 44 (by decide) (by decide) (by decide) (by decide) (by decide), po 37 (by decide) (by decide) (by decide) (by decide) (by decide)]; exact v2
    · show P 45 k = P 38 k
      rw [c3, m3]
    · show P 46 k = P 39 k
      rw [po 46 (by decide) (by decide) (by decide) (by decide) (by decide), po 39 (by decide) (by decide) (by decide) (by decide) (by decide)]; exact v4
    · show P 47 k = P 40 k
      rw [c5, m5]
    · show FRg (P 36 k) (P 37 k) (P 38 k) (P 39 k) (P 40 k)
      rw [c3, c5, po 36 (by decide) (by decide) (by decide) (by decide) (by decide), po 37 (by decide) (by decide) (by decide) (by decide) (by decide), po 39 (by decide) (by decide) (by decide) (by decide) (by decide)]
      by_cases q : M 38 k ≤ 0
      · rw [if_pos q, if_pos q]; exact hg
      · rw [if_neg q, if_neg q]; exact FRg_fall hg q (zCat_in 6 0 (by decide))
  · show P 38 k = 0
    have e : M 38 k = 0 := (hF k hk).2 hb
    rw [c3, if_pos (by rw [e]; decide)]; exact e
end YACT
