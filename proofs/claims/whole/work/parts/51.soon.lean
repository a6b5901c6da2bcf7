/-! the fewest airs: both -/
section SOONB
variable {M : Mm} {L : Ml}
/-- between the rounds of the search -/
def BI (c d a k w : Nat) (q D : Nat → Nat) (M0 M : Mm) : Prop := BQ c d a w q D M0 M ∧ k ≤ w ∧ (∀ i, i < k → ∀ y, (y = zgro (q i) c ∨ y = zgro (q i) d) → ∃ j, j < w ∧ q j = y ∧ D y ≤ D (q i) + 1) ∧ (k < w → ∀ j, j < w → D (q j) ≤ D (q k) + 1)
theorem BI_far {c d a k w : Nat} {q D : Nat → Nat} {M0 : Mm} (h : BI c d a k w q D M0 M) : ∀ m x, pth c d m a x → (∃ i, i < w ∧ q i = x ∧ D x ≤ m) ∨ (k < w ∧ D (q k) < m)
  | 0, x, hp => by
    obtain ⟨⟨-, -, b3, -, b5, -, -, -, b9⟩, -⟩ := h
    have hp : a = x := hp
    refine Or.inl ⟨0, by omega, by rw [b9]; exact hp, ?_⟩
    have := (b5 0 (by omega)).2.2.1
    rw [b9, hp] at this
    exact this
  | m + 1, x, hp => by
    obtain ⟨y, h1, h2⟩ := pth_end.mp hp
    rcases BI_far h m y h1 with ⟨i, hi, e, hD⟩ | ⟨h3, h4⟩
    · obtain ⟨⟨-, -, -, -, -, b6, -⟩, -, hcl, -⟩ := h
      by_cases hk : i < k
      · obtain ⟨j, hj, e2, hD2⟩ := hcl i hk x (by rw [e]; exact h2)
        rw [e] at hD2
        exact Or.inl ⟨j, hj, e2, by omega⟩
      · have := b6 k i (by omega) hi
        rw [e] at this
        exact Or.inr ⟨by omega, by omega⟩
    · exact Or.inr ⟨h3, by omega⟩
theorem BI_ans {c d a b k w : Nat} {q D : Nat → Nat} {M0 : Mm} (h : BI c d a k w q D M0 M) (hb : b < 256) (he : k = w ∨ ¬ M 8 b = -6) : soonA c d a b (M 8 b) := by
  have hf := BI_far h
  obtain ⟨hB, hk, -, hl⟩ := h
  by_cases hin : ∃ i, i < w ∧ q i = b
  · obtain ⟨i, hi, e⟩ := hin
    obtain ⟨-, -, -, -, b5, -⟩ := hB
    obtain ⟨-, -, -, g4, g5⟩ := b5 i hi
    rw [e] at g4 g5
    refine Or.inr ⟨D b, g4, g5, fun m' hm hp => ?_⟩
    rcases hf m' b hp with ⟨j, -, -, h1⟩ | ⟨h1, h2⟩
    · omega
    · have := hl h1 i hi
      rw [e] at this
      omega
  · have h6 : M 8 b = -6 := hB.2.2.2.2.2.2.1 b hb (fun i hi e => hin ⟨i, hi, e⟩)
    refine Or.inl ⟨h6, fun m hp => ?_⟩
    rcases hf m b hp with ⟨j, h1, h2, -⟩ | ⟨h1, -⟩
    · exact hin ⟨j, h1, h2⟩
    · rcases he with he | he
      · omega
      · exact he h6
theorem sX0_fewestAirs {c d a b : Nat} {post : Int32 → Mm → Ml → Prop} (hc : c < 256) (hd : d < 256) (ha : a < 256) (hb : b < 256) (h : ∀ v M', soonA c d a b v → (∀ i, i ≠ 7 → i ≠ 8 → i ≠ 9 → M' i = M i) → post v M' L) : wpX0_fewestAirs (nI a) (nI b) (nI c) (nI d) M L post := by
  unfold wpX0_fewestAirs
  refine sJ7_fill (by decide) (fun M1 h1 h2 M2 e2 => ?_)
  have f8 : ∀ j, j < 256 → M2 8 j = -6 := fun j hj => by rw [e2, zs_ne (by decide)]; exact h2 j hj
  have f7 : M2 7 2 = nI 0 := by rw [e2, zs_eq]; rfl
  have fo : ∀ i, i ≠ 7 → i ≠ 8 → i ≠ 9 → M2 i = M i := fun i q7 q8 q9 => by rw [e2, zs_ne q7]; exact h1 i q8
  have va : vp_in (nI a) 256 := vp_in_nI ha (by decide)
  unfold wpX0_reach wpX0_reach_48
  rw [nI_clamp (n := a) (by omega), f8 a ha, f7]
  refine ⟨va, fun z => absurd rfl z, fun _ => pk_le 256 0 (fun h => by omega) (fun _ => ⟨va, fun M3 e3 => ?_⟩)⟩
  have m37 : M3 7 2 = nI 0 := by rw [e3, zs_ne (by decide)]; exact f7
  rw [m37, nI_clamp (n := 0) (by decide)]
  refine ⟨vp_in_nI (n := 0) (by decide) (by decide), fun M4 e4 M5 e5 => ?_⟩
  have m47 : M4 7 2 = nI 0 := by rw [e4, zs_ne (by decide)]; exact m37
  rw [m47, nI_1] at e5
  have r8 : ∀ j, M5 8 j = if j = a then 0 else M2 8 j := fun j => by rw [e5, zs_ne (by decide), e4, zs_ne (by decide), e3, zs_at]
  have hB0 : BI c d a 0 1 (fun _ => a) (fun _ => 0) M M5 := by
    refine ⟨⟨fun i q7 q8 q9 => by rw [e5, zs_ne q7, e4, zs_ne q9, e3, zs_ne q8]; exact fo i q7 q8 q9, by rw [e5, zs_eq], Nat.le_refl 1, by decide, fun i hi => ⟨ha, ?_, Nat.zero_le i, by rw [r8, if_pos rfl]; rfl, rfl⟩, fun i j _ _ => Nat.le_refl 0, fun x hx hn => ?_, ?_, rfl⟩, Nat.zero_le 1, fun i hi => absurd hi (by omega), fun _ j _ => Nat.zero_le 1⟩
    · have : i = 0 := by omega
      subst this
      rw [e5, zs_ne (by decide), e4, zs_eq]
    · have hn := hn 0 (by decide)
      rw [r8, if_neg (fun z => hn z.symm)]
      exact f8 x hx
    · rw [zct_one (P := fun x => decide (¬ M2 8 x = -6)) ha (by rw [f8 a ha]; decide) (fun j hj => ?_), zct_none (fun j hj => by rw [f8 j hj]; decide)]
      rw [r8]
      by_cases q2 : j = a
      · rw [if_pos q2, decide_eq_true q2, Bool.or_true]; decide
      · rw [if_neg q2, decide_eq_false q2, Bool.or_false]
  unfold wlX0_fewestAirs_23
  refine zlp_forI 256 (fun k s => ∃ Mk w q D, s = (Mk, L, nI b, nI c, nI d, nI k) ∧ BI c d a k w q D M Mk) ⟨M5, 1, _, _, rfl, hB0⟩ ?_ ?_
  · rintro k K _ hk ⟨Mk, w, q, D, rfl, hI⟩ hK
    have hI' := hI
    obtain ⟨hB, hkw, hcl, hlev⟩ := hI
    have hB' := hB
    obtain ⟨b1, b2, b3, b4, b5, b6, b7, b8, b9⟩ := hB
    show wpX0_fewestAirs_23 post _ Mk L (nI b) (nI c) (nI d) (nI k)
    unfold wpX0_fewestAirs_23 wpX0_fewestAirs_105
    have vb : vp_in (nI b) 256 := vp_in_nI hb (by decide)
    rw [nI_clamp (n := b) (by omega), b2, nI_clamp (n := k) (by omega)]
    refine pk_le 256 k (fun h => by omega) (fun _ => ?_)
    refine pk_le w k (fun hle => ⟨vb, h _ _ (BI_ans hI' hb (Or.inl (by omega))) b1⟩) (fun hlt => ⟨vb, fun hn => ⟨vb, h _ _ (BI_ans hI' hb (Or.inr hn)) b1⟩, fun _ => ⟨vp_in_nI (by omega) (by decide), fun v ev => ?_⟩⟩)
    obtain ⟨g1, g2, g3, g4, g5⟩ := b5 k hlt
    rw [g2] at ev
    subst ev
    have vq : vp_in (nI (q k)) 256 := vp_in_nI g1 (by decide)
    refine sX3_grown g1 hc ⟨vq, ?_⟩
    rw [nI_clamp (n := q k) (by omega), g4, nI_1]
    have hlev := hlev hlt
    refine sX0_reach hB' (zgro_lt _ _) (by omega) hlev (pth_end.mpr ⟨q k, g5, Or.inl rfl⟩) (fun M6 w6 q6 D6 hB6 hw6 hq6 hD6 hin6 hle6 => ?_)
    refine sX3_grown g1 hd ⟨vq, ?_⟩
    have hB6' := hB6
    obtain ⟨-, -, -, -, c5, -⟩ := hB6
    have k6 := c5 k (by omega)
    rw [hq6 k hlt, hD6 k hlt] at k6
    rw [k6.2.2.2.1, nI_1]
    refine sX0_reach hB6' (zgro_lt _ _) (by omega) hle6 (pth_end.mpr ⟨q k, g5, Or.inr rfl⟩) (fun M7 w7 q7 D7 hB7 hw7 hq7 hD7 hin7 hle7 v ev => hK _ ⟨M7, w7, q7, D7, by show (M7, L, nI b, nI c, nI d, v) = _; rw [ev, nI_1], hB7, by omega, fun i hi y hy => ?_, fun hlt2 j hj => ?_⟩)
    · have qi : q7 i = q i := by rw [hq7 i (by omega), hq6 i (by omega)]
      have Di : D7 (q i) = D (q i) := by rw [← hq6 i (by omega), hD7 i (by omega), hq6 i (by omega), hD6 i (by omega)]
      rw [qi] at hy
      rw [qi, Di]
      have lift : ∀ e, (∃ j, j < w6 ∧ q6 j = y ∧ D6 y ≤ e) → ∃ j, j < w7 ∧ q7 j = y ∧ D7 y ≤ e := by
        rintro e ⟨j, j1, j2, j3⟩
        refine ⟨j, by omega, by rw [hq7 j j1]; exact j2, ?_⟩
        rw [← j2, hD7 j j1, j2]
        exact j3
      by_cases e : i = k
      · subst e
        rcases hy with rfl | rfl
        · exact lift _ hin6
        · exact hin7
      · obtain ⟨j, j1, j2, j3⟩ := hcl i (by omega) y hy
        refine lift _ ⟨j, by omega, by rw [hq6 j j1]; exact j2, ?_⟩
        rw [← j2, hD6 j j1, j2]
        exact j3
    · have h1 := hle7 j hj
      have h2 := hB7.2.2.2.2.2.1 k (k + 1) (by omega) hlt2
      rw [hq7 k (by omega), hq6 k hlt] at h2
      have Dk : D7 (q k) = D (q k) := by rw [← hq6 k hlt, hD7 k (by omega), hq6 k hlt, hD6 k hlt]
      rw [Dk] at h2
      omega
  · rintro K _ ⟨Mk, w, q, D, rfl, hI⟩
    have hI' := hI
    obtain ⟨hB, hkw, -, -⟩ := hI
    show wpX0_fewestAirs_23 post _ Mk L (nI b) (nI c) (nI d) (nI 256)
    unfold wpX0_fewestAirs_23 wpX0_fewestAirs_105
    have hw : w ≤ 256 := hB.2.2.2.1
    rw [nI_clamp (n := b) (by omega)]
    exact pk_le 256 256 (fun _ => ⟨vp_in_nI hb (by decide), h _ _ (BI_ans hI' hb (Or.inl (by omega))) hB.1⟩) (fun h => by omega)
/-- the model's rounds: what is known of x behind n of them -/
def lst (c d b x m : Nat) : Prop := pth c d m x b ∧ ∀ m', m' < m → ¬ pth c d m' x b
def StO (c d b n x : Nat) (v : Int32) : Prop := (v = -6 ∧ ∀ m, m ≤ n → ¬ pth c d m x b) ∨ ∃ m, m ≤ n ∧ v = nI m ∧ lst c d b x m
theorem lst_one {c d b x m m' : Nat} (h : lst c d b x m) (h' : lst c d b x m') : m = m' := by
  rcases Nat.lt_trichotomy m m' with q | q | q
  · exact absurd h.1 (h'.2 m q)
  · exact q
  · exact absurd h'.1 (h.2 m' q)
theorem StO_is {c d b n N x : Nat} {v : Int32} (h : StO c d b N x v) (hn : n ≤ N) (hN : N < 1000) : v = nI n ↔ lst c d b x n := by
  rcases h with ⟨e, hno⟩ | ⟨m, hm, e, hl⟩
  · rw [e]
    exact ⟨fun z => absurd z.symm (nI_ne6 (by omega)), fun z => absurd z.1 (hno n hn)⟩
  · rw [e]
    constructor
    · intro z
      have := nI_inj (by omega) (by omega) z
      rw [← this]; exact hl
    · intro z
      rw [lst_one hl z]
theorem lst_up {c d b n x : Nat} (h : ∀ m, m ≤ n → ¬ pth c d m x b) : lst c d b x (n + 1) ↔ lst c d b (zgro x c) n ∨ lst c d b (zgro x d) n := by
  constructor
  · rintro ⟨h1 | h1, h2⟩
    · exact Or.inl ⟨h1, fun m' hm hp => h2 (m' + 1) (by omega) (Or.inl hp)⟩
    · exact Or.inr ⟨h1, fun m' hm hp => h2 (m' + 1) (by omega) (Or.inr hp)⟩
  · rintro (h1 | h1)
    · exact ⟨Or.inl h1.1, fun m' hm => h m' (by omega)⟩
    · exact ⟨Or.inr h1.1, fun m' hm => h m' (by omega)⟩
theorem zct_lt {P Q : Nat → Bool} {n k : Nat} (hk : k < n) (h : ∀ j, j < n → P j = true → Q j = true) (hQ : Q k = true) (hP : P k = false) : zct P n < zct Q n := by
  have h1 := zct_one (Q := fun j => P j || decide (j = k)) hk hP (fun j _ => rfl)
  have h2 : ∀ n, (∀ j, j < n → (P j || decide (j = k)) = true → Q j = true) → zct (fun j => P j || decide (j = k)) n ≤ zct Q n := by
    intro n
    induction n with
    | zero => intro _; exact Nat.le_refl 0
    | succ n ih =>
      intro hh
      have ih := ih (fun j hj => hh j (by omega))
      rw [zct_s, zct_s]
      by_cases q : (P n || decide (n = k)) = true
      · rw [if_pos q, if_pos (hh n (by omega) q)]; omega
      · rw [if_neg q]
        split <;> omega
  have h3 := h2 n (fun j hj hz => by
    rw [Bool.or_eq_true] at hz
    rcases hz with hz | hz
    · exact h j hj hz
    · rw [of_decide_eq_true hz]; exact hQ)
  omega
theorem sX9_findOff {c d b n : Nat} {post : Int32 → Mm → Ml → Prop} (hc : c < 256) (hd : d < 256) (hn : n ≤ 256) (e0 : M 50 0 = nI c) (e1 : M 50 1 = nI d) (hS : ∀ x, x < 256 → StO c d b n x (M 58 x)) (h : ∀ r M', (∀ a, a ≠ 58 → M' a = M a) → (∀ x, x < 256 → StO c d b (n + 1) x (M' 58 x)) → (r = 0 ∧ (∀ x, x < 256 → ¬ lst c d b x (n + 1)) ∨ r = 1 ∧ zct (fun x => decide (M' 58 x = -6)) 256 < zct (fun x => decide (M 58 x = -6)) 256) → post r M' L) : wpX9_findOff (nI n) M L post := by
  unfold wpX9_findOff wlX9_findOff_4
  refine zlp_forI 256 (fun k s => ∃ M' v, s = (M', L, nI n, v, nI k) ∧ (∀ a, a ≠ 58 → M' a = M a) ∧ (∀ x, x < 256 → x < k → StO c d b (n + 1) x (M' 58 x)) ∧ (∀ x, x < 256 → k ≤ x → M' 58 x = M 58 x) ∧ (∀ x, x < 256 → M' 58 x = -6 → M 58 x = -6) ∧ ((v = 0 ∧ ∀ x, x < k → ¬ lst c d b x (n + 1)) ∨ (v = 1 ∧ ∃ x, x < k ∧ M 58 x = -6 ∧ ¬ M' 58 x = -6))) ⟨M, 0, rfl, fun _ _ => rfl, fun x _ hx => absurd hx (by omega), fun _ _ _ => rfl, fun _ _ z => z, Or.inl ⟨rfl, fun x hx => absurd hx (by omega)⟩⟩ ?_ ?_
  · rintro k K _ hk ⟨M', v, rfl, h1, h2, h3, h4, h5⟩ hK
    show wpX9_findOff_4 post _ M' L (nI n) v (nI k)
    unfold wpX9_findOff_4 wpX9_findOff_58 wpX9_findOff_62 wpX9_findOff_63 wpX9_findOff_87 wpX9_findOff_97 wpX9_findOff_102
    have vk : vp_in (nI k) 256 := vp_in_nI hk (by decide)
    have z0 : (0 : Int32).toNatClampNeg = 0 := rfl
    have z1 : (1 : Int32).toNatClampNeg = 1 := rfl
    have m50 : M' 50 = M 50 := h1 50 (by decide)
    have hk3 := h3 k hk (Nat.le_refl k)
    have hSk := hS k hk
    rw [← hk3] at hSk
    rw [nI_clamp (n := k) (by omega), z0, z1, m50, e0]
    -- one that stays
    have stay : StO c d b (n + 1) k (M' 58 k) → ¬ lst c d b k (n + 1) → vp_in (nI k) 256 ∧ (vp_in (nI k) 256 ∧ (∀ M_87 : Mm, M_87 = zs M' 58 k (M' 58 k) → ((¬ v = 0 → ∀ a_103 : Int32, a_103 = nI k + (1 : Int32) → K (M_87, L, nI n, 1, a_103)) ∧ (v = 0 → ((0 : Int32) = 0 → ∀ a_103 : Int32, a_103 = nI k + (1 : Int32) → K (M_87, L, nI n, 0, a_103)) ∧ (¬ ((0 : Int32) = 0) → ∀ a_103 : Int32, a_103 = nI k + (1 : Int32) → K (M_87, L, nI n, 1, a_103)))))) := by
      intro hs hnl
      refine ⟨vk, vk, fun M2 e2 => ?_⟩
      rw [zs_self] at e2
      subst e2
      have g2 : ∀ x, x < 256 → x < k + 1 → StO c d b (n + 1) x (M2 58 x) := fun x hx hxk => by
        by_cases q : x = k
        · rw [q]; exact hs
        · exact h2 x hx (by omega)
      refine ⟨fun nv w ew => hK _ ⟨M2, 1, by rw [ew, nI_1], h1, g2, fun x hx hxk => h3 x hx (by omega), h4, ?_⟩, fun ev => bt_ rfl (fun w ew => hK _ ⟨M2, 0, by rw [ew, nI_1], h1, g2, fun x hx hxk => h3 x hx (by omega), h4, ?_⟩)⟩
      · rcases h5 with ⟨e, -⟩ | ⟨-, x, hx, q⟩
        · exact absurd e nv
        · exact Or.inr ⟨rfl, x, by omega, q⟩
      · rcases h5 with ⟨-, q⟩ | ⟨e, -⟩
        · refine Or.inl ⟨rfl, fun x hx => ?_⟩
          by_cases e : x = k
          · rw [e]; exact hnl
          · exact q x (by omega)
        · rw [e] at ev; exact absurd ev (by decide)
    have c1' : ∀ {A B : Prop}, B → ((1 : Int32) = 0 → A) ∧ (¬ ((1 : Int32) = 0) → B) := fun hB => ⟨fun e => absurd e (by decide), fun _ => hB⟩
    -- one that is new
    have new : M' 58 k = -6 → lst c d b k (n + 1) → vp_in (nI k) 256 ∧ (∀ M_87 : Mm, M_87 = zs M' 58 k (nI n + 1) → ((¬ v = 0 → ∀ a_103 : Int32, a_103 = nI k + (1 : Int32) → K (M_87, L, nI n, 1, a_103)) ∧ (v = 0 → ((1 : Int32) = 0 → ∀ a_103 : Int32, a_103 = nI k + (1 : Int32) → K (M_87, L, nI n, 0, a_103)) ∧ (¬ ((1 : Int32) = 0) → ∀ a_103 : Int32, a_103 = nI k + (1 : Int32) → K (M_87, L, nI n, 1, a_103))))) := by
      intro e6 hl
      refine ⟨vk, fun M2 e2 => ?_⟩
      rw [nI_1] at e2
      have r58 : ∀ j, M2 58 j = if j = k then nI (n + 1) else M' 58 j := fun j => by rw [e2, zs_at]
      have fin : ∀ w : Int32, w = nI k + (1 : Int32) → K (M2, L, nI n, 1, w) := fun w ew => hK _ ⟨M2, 1, by rw [ew, nI_1], fun a ha => by rw [e2, zs_ne ha]; exact h1 a ha, fun x hx hxk => by
        rw [r58]
        by_cases q : x = k
        · rw [if_pos q, q]; exact Or.inr ⟨n + 1, Nat.le_refl _, rfl, hl⟩
        · rw [if_neg q]; exact h2 x hx (by omega), fun x hx hxk => by rw [r58, if_neg (by omega)]; exact h3 x hx (by omega), fun x hx hz => by
        rw [r58] at hz
        by_cases q : x = k
        · rw [if_pos q] at hz; exact absurd hz (nI_ne6 (by omega))
        · rw [if_neg q] at hz; exact h4 x hx hz, Or.inr ⟨rfl, k, by omega, by rw [← hk3]; exact e6, by rw [r58, if_pos rfl]; exact nI_ne6 (by omega)⟩⟩
      exact ⟨fun _ => fin, fun _ => c1' fin⟩
    have hSg : ∀ g, g < 256 → (M' 58 g = nI n ↔ lst c d b g n) := fun g hg => by
      by_cases q : g < k
      · exact StO_is (h2 g hg q) (by omega) (by omega)
      · have := hS g hg
        rw [← h3 g hg (by omega)] at this
        exact StO_is this (Nat.le_refl n) (by omega)
    refine pk_le 256 k (fun h => by omega) (fun _ => ⟨vk, fun hpos => c0 (stay ?_ ?_), fun hneg => ⟨vp_in_nI (n := 0) (by decide) (by decide), sX9_grown hk hc ?_⟩⟩)
    · rcases hSk with ⟨e, -⟩ | ⟨m, hm, e, hl⟩
      · rw [e] at hpos; exact absurd hpos (by decide)
      · exact Or.inr ⟨m, by omega, e, hl⟩
    · rcases hSk with ⟨e, -⟩ | ⟨m, hm, e, hl⟩
      · rw [e] at hpos; exact absurd hpos (by decide)
      · exact fun z => by have := lst_one hl z; omega
    · have e6 : M' 58 k = -6 ∧ ∀ m, m ≤ n → ¬ pth c d m k b := by
        rcases hSk with z | ⟨m, hm, e, hl⟩
        · exact z
        · rw [e] at hneg; exact absurd (nI_pos' (n := m) (by omega)) hneg
      have hup := lst_up (c := c) (d := d) (b := b) (n := n) (x := k) e6.2
      have g1 := zgro_lt k c
      have g2 := zgro_lt k d
      rw [nI_clamp (n := zgro k c) (by omega)]
      refine ⟨vp_in_nI g1 (by decide), fun q => c1 (new e6.1 (hup.mpr (Or.inl ((hSg _ g1).mp q)))), fun q => ⟨vp_in_nI (n := 1) (by decide) (by decide), ?_⟩⟩
      rw [m50, e1]
      refine sX9_grown hk hd ?_
      rw [nI_clamp (n := zgro k d) (by omega)]
      refine ⟨vp_in_nI g2 (by decide), fun q2 => c0 (stay ?_ ?_), fun q2 => c1 (new e6.1 (hup.mpr (Or.inr ((hSg _ g2).mp q2))))⟩
      · refine Or.inl ⟨e6.1, fun m hm => ?_⟩
        by_cases e : m = n + 1
        · rw [e]
          intro hp
          have hl : lst c d b k (n + 1) := ⟨hp, fun m' hm' => e6.2 m' (by omega)⟩
          rcases hup.mp hl with z | z
          · exact q ((hSg _ g1).mpr z)
          · exact q2 ((hSg _ g2).mpr z)
        · exact e6.2 m (by omega)
      · intro hl
        rcases hup.mp hl with z | z
        · exact q ((hSg _ g1).mpr z)
        · exact q2 ((hSg _ g2).mpr z)
  · rintro K _ ⟨M', v, rfl, h1, h2, h3, h4, h5⟩
    show wpX9_findOff_4 post _ M' L (nI n) v (nI 256)
    unfold wpX9_findOff_4
    refine pk_le 256 256 (fun _ => ⟨?_, h v M' h1 (fun x hx => h2 x hx hx) ?_⟩) (fun h => by omega)
    · rcases h5 with ⟨e, -⟩ | ⟨e, -⟩
      · exact Or.inl e
      · exact Or.inr e
    · rcases h5 with ⟨e, q⟩ | ⟨e, x, hx, q1, q2⟩
      · exact Or.inl ⟨e, q⟩
      · exact Or.inr ⟨e, zct_lt hx (fun j hj z => decide_eq_true (h4 j hj (of_decide_eq_true z))) (decide_eq_true q1) (decide_eq_false q2)⟩
end SOONB
