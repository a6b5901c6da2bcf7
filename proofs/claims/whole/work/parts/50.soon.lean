/-! the fewest airs -/
def pth (c d : Nat) : Nat → Nat → Nat → Prop
  | 0, x, b => x = b
  | n + 1, x, b => pth c d n (zgro x c) b ∨ pth c d n (zgro x d) b
theorem pth_end {c d : Nat} : ∀ {n x y}, pth c d (n + 1) x y ↔ ∃ z, pth c d n x z ∧ (y = zgro z c ∨ y = zgro z d)
  | 0, x, y => by
    constructor
    · rintro (h | h)
      · exact ⟨x, rfl, Or.inl h.symm⟩
      · exact ⟨x, rfl, Or.inr h.symm⟩
    · rintro ⟨z, rfl, h | h⟩
      · exact Or.inl h.symm
      · exact Or.inr h.symm
  | n + 1, x, y => by
    constructor
    · rintro (h | h)
      · obtain ⟨z, h1, h2⟩ := pth_end.mp h
        exact ⟨z, Or.inl h1, h2⟩
      · obtain ⟨z, h1, h2⟩ := pth_end.mp h
        exact ⟨z, Or.inr h1, h2⟩
    · rintro ⟨z, h1 | h1, h2⟩
      · exact Or.inl (pth_end.mpr ⟨z, h1, h2⟩)
      · exact Or.inr (pth_end.mpr ⟨z, h1, h2⟩)
/-- the answer: the least number of airs, NONE -/
def soonA (c d a b : Nat) (v : Int32) : Prop := (v = -6 ∧ ∀ m, ¬ pth c d m a b) ∨ ∃ m, v = nI m ∧ pth c d m a b ∧ ∀ m', m' < m → ¬ pth c d m' a b
theorem soonA_one {c d a b : Nat} {v w : Int32} (h1 : soonA c d a b v) (h2 : soonA c d a b w) : v = w := by
  rcases h1 with ⟨e1, n1⟩ | ⟨m1, e1, p1, l1⟩
  · rcases h2 with ⟨e2, n2⟩ | ⟨m2, e2, p2, l2⟩
    · rw [e1, e2]
    · exact absurd p2 (n1 m2)
  · rcases h2 with ⟨e2, n2⟩ | ⟨m2, e2, p2, l2⟩
    · exact absurd p1 (n2 m1)
    · have : m1 = m2 := by
        rcases Nat.lt_trichotomy m1 m2 with q | q | q
        · exact absurd p1 (l2 m1 q)
        · exact q
        · exact absurd p2 (l1 m2 q)
      rw [e1, e2, this]
theorem zct_one {P Q : Nat → Bool} {n k : Nat} (hk : k < n) (hP : P k = false) (hQ : ∀ j, j < n → Q j = (P j || decide (j = k))) : zct Q n = zct P n + 1 := by
  have h := zct_add (P := P) (Q := fun j => decide (j = k)) (R := Q) (n := n) (fun j hj => ⟨hQ j hj, fun z => by
    have e := of_decide_eq_true z.2
    rw [e, hP] at z
    exact absurd z.1 (by decide)⟩)
  have h1 : zct (fun j => decide (j = k)) n = 1 := by
    have s := zct_split (fun j => decide (j = k)) k (n - k)
    rw [show k + (n - k) = n by omega] at s
    rw [s, zct_none (fun j hj => decide_eq_false (by omega))]
    obtain ⟨m, hm⟩ : ∃ m, n - k = m + 1 := ⟨n - k - 1, by omega⟩
    rw [hm, show m + 1 = 1 + m by omega, zct_split, zct_none (P := fun j => (fun j => decide (j = k)) (k + (1 + j))) (fun j hj => decide_eq_false (by omega))]
    show 0 + ((if decide (k = k) = true then 1 else 0) + 0 + 0) = 1
    rw [if_pos (decide_eq_true rfl)]
  omega
theorem zct_full {P : Nat → Bool} {n k : Nat} (hk : k < n) (hP : P k = false) : zct P n < n := by
  have h := zct_one (Q := fun j => P j || decide (j = k)) hk hP (fun j _ => rfl)
  have := zct_le (fun j => P j || decide (j = k)) n
  omega
section SOON
variable {M : Mm} {L : Ml}
theorem sJ7_fill {r n : Nat} {x : Int32} {post : Mm → Ml → Prop} (hn : n < 2147483648) (h : ∀ M', (∀ a, a ≠ r → M' a = M a) → (∀ j, j < n → M' r j = x) → post M' L) : wpJ7_fill_53178 r n x M L post := by
  unfold wpJ7_fill_53178
  intro w ew
  have ew : w = nI n := ew
  subst ew
  unfold wlJ7_fill_53178_5
  refine zlp_forI n (fun k s => ∃ M', s = (M', L, x, nI k, nI n) ∧ (∀ a, a ≠ r → M' a = M a) ∧ ∀ j, j < k → M' r j = x) ⟨M, rfl, fun _ _ => rfl, fun j hj => absurd hj (by omega)⟩ ?_ ?_
  · rintro k K _ hk ⟨M', rfl, h1, h2⟩ hK
    show wpJ7_fill_53178_5 r n post _ M' L x (nI k) (nI n)
    unfold wpJ7_fill_53178_5
    rw [nI_clamp (n := k) (by omega)]
    refine pk_le n k (fun h => by omega) (fun _ => ⟨vp_in_nI hk (by omega), fun M2 e2 w ew => hK _ ⟨M2, by show (M2, L, x, w, nI n) = _; rw [ew, nI_1], fun a ha => by rw [e2, zs_ne ha]; exact h1 a ha, fun j hj => ?_⟩⟩)
    rw [e2, zs_at]
    by_cases q : j = k
    · rw [if_pos q]
    · rw [if_neg q]; exact h2 j (by omega)
  · rintro K _ ⟨M', rfl, h1, h2⟩
    show wpJ7_fill_53178_5 r n post _ M' L x (nI n) (nI n)
    unfold wpJ7_fill_53178_5
    exact pk_le n n (fun _ => h M' h1 h2) (fun h => by omega)
/-- the search: the row of arms that wait, how far each is -/
def BQ (c d a w : Nat) (q : Nat → Nat) (D : Nat → Nat) (M0 M : Mm) : Prop := (∀ i, i ≠ 7 → i ≠ 8 → i ≠ 9 → M i = M0 i) ∧ M 7 2 = nI w ∧ 1 ≤ w ∧ w ≤ 256 ∧ (∀ i, i < w → q i < 256 ∧ M 9 i = nI (q i) ∧ D (q i) ≤ i ∧ M 8 (q i) = nI (D (q i)) ∧ pth c d (D (q i)) a (q i)) ∧ (∀ i j, i ≤ j → j < w → D (q i) ≤ D (q j)) ∧ (∀ x, x < 256 → (∀ i, i < w → ¬ q i = x) → M 8 x = -6) ∧ zct (fun x => decide (¬ M 8 x = -6)) 256 = w ∧ q 0 = a
theorem BQ_in {c d a w : Nat} {q D : Nat → Nat} {M0 : Mm} (h : BQ c d a w q D M0 M) {x : Nat} (hx : x < 256) (hn : ¬ M 8 x = -6) : ∃ i, i < w ∧ q i = x := by
  obtain ⟨-, -, -, -, -, -, h7, -⟩ := h
  refine Classical.byContradiction (fun z => hn (h7 x hx (fun i hi e => z ⟨i, hi, e⟩)))
theorem nI_ne6 {n : Nat} (h : n < 2147483648) : ¬ nI n = -6 := nlt_m6 (n := n + 1) (by omega) ⟨n, by omega, rfl⟩
/-- one more waits -/
theorem sX0_reach {c d a w x e : Nat} {q D : Nat → Nat} {M0 : Mm} {post : Mm → Ml → Prop} (hB : BQ c d a w q D M0 M) (hx : x < 256) (he : e ≤ w) (hlast : ∀ i, i < w → D (q i) ≤ e) (hp : pth c d e a x) (h : ∀ M' w' q' D', BQ c d a w' q' D' M0 M' → w ≤ w' → (∀ i, i < w → q' i = q i) → (∀ i, i < w → D' (q i) = D (q i)) → (∃ i, i < w' ∧ q' i = x ∧ D' x ≤ e) → (∀ i, i < w' → D' (q' i) ≤ e) → post M' L) : wpX0_reach (nI x) (nI e) M L post := by
  have hB' := hB
  obtain ⟨b1, b2, b3, b4, b5, b6, b7, b8, b9⟩ := hB
  unfold wpX0_reach wpX0_reach_48
  rw [nI_clamp (n := x) (by omega), b2]
  have vx : vp_in (nI x) 256 := vp_in_nI hx (by decide)
  refine ⟨vx, fun hn => ?_, fun hn => ?_⟩
  · obtain ⟨i, hi, e1⟩ := BQ_in hB' hx hn
    exact h M w q D hB' (Nat.le_refl w) (fun _ _ => rfl) (fun _ _ => rfl) ⟨i, hi, e1, by rw [← e1]; exact hlast i hi⟩ hlast
  · have hw : w < 256 := by rw [← b8]; exact zct_full hx (by rw [hn]; decide)
    refine pk_le 256 w (fun h => by omega) (fun _ => ⟨vx, fun M1 e1 => ?_⟩)
    have m17 : M1 7 2 = nI w := by rw [e1, zs_ne (by decide)]; exact b2
    rw [m17, nI_clamp (n := w) (by omega)]
    refine ⟨vp_in_nI hw (by decide), fun M2 e2 M3 e3 => ?_⟩
    have m27 : M2 7 2 = nI w := by rw [e2, zs_ne (by decide)]; exact m17
    rw [m27, nI_1] at e3
    have r8 : ∀ j, M3 8 j = if j = x then nI e else M 8 j := fun j => by rw [e3, zs_ne (by decide), e2, zs_ne (by decide), e1, zs_at]
    have r9 : ∀ j, M3 9 j = if j = w then nI x else M 9 j := fun j => by rw [e3, zs_ne (by decide), e2, zs_at, e1, zs_ne (by decide)]
    have qx : ∀ i, i < w → ¬ q i = x := fun i hi z => by
      have := (b5 i hi).2.2.2.1
      rw [z, hn] at this
      have h5 := (b5 i hi).2.2.1
      rw [z] at h5
      exact nI_ne6 (by omega) this.symm
    obtain ⟨q', hq'⟩ : ∃ q' : Nat → Nat, q' = fun i => if i = w then x else q i := ⟨_, rfl⟩
    obtain ⟨D', hD'⟩ : ∃ D' : Nat → Nat, D' = fun y => if y = x then e else D y := ⟨_, rfl⟩
    have qw : q' w = x := by rw [hq']; exact if_pos rfl
    have qi : ∀ i, i < w → q' i = q i := fun i hi => by rw [hq']; exact if_neg (by omega)
    have Dx : D' x = e := by rw [hD']; exact if_pos rfl
    have Dy : ∀ y, ¬ y = x → D' y = D y := fun y hy => by rw [hD']; exact if_neg hy
    have Dq : ∀ i, i < w → D' (q i) = D (q i) := fun i hi => Dy _ (qx i hi)
    clear hq' hD'
    refine h M3 (w + 1) q' D' ⟨fun i h1 h2 h3 => by rw [e3, zs_ne h1, e2, zs_ne h3, e1, zs_ne h2]; exact b1 i h1 h2 h3, by rw [e3, zs_eq], by omega, by omega, fun i hi => ?_, fun i j hij hj => ?_, fun y hy hyn => ?_, ?_, ?_⟩ (by omega) qi Dq ⟨w, by omega, qw, by rw [Dx]; exact Nat.le_refl e⟩ (fun i hi => ?_)
    · by_cases ei : i = w
      · rw [ei, qw, r9, if_pos rfl, r8, if_pos rfl, Dx]
        exact ⟨hx, rfl, he, rfl, hp⟩
      · have hi2 : i < w := by omega
        rw [qi i hi2, r9, if_neg ei, Dq i hi2, r8, if_neg (qx i hi2)]
        exact b5 i hi2
    · by_cases ej : j = w
      · rw [ej, qw, Dx]
        by_cases ei : i = w
        · rw [ei, qw, Dx]; exact Nat.le_refl e
        · rw [qi i (by omega), Dq i (by omega)]; exact hlast i (by omega)
      · rw [qi i (by omega), qi j (by omega), Dq i (by omega), Dq j (by omega)]
        exact b6 i j hij (by omega)
    · have y1 := hyn w (by omega)
      rw [qw] at y1
      rw [r8, if_neg (fun z => y1 z.symm)]
      refine b7 y hy (fun i hi z => ?_)
      have := hyn i (by omega)
      rw [qi i hi] at this
      exact this z
    · rw [zct_one (P := fun x => decide (¬ M 8 x = -6)) hx (by rw [hn]; decide) (fun j hj => ?_), b8]
      rw [r8]
      by_cases q2 : j = x
      · rw [if_pos q2, decide_eq_true (nI_ne6 (n := e) (by omega)), decide_eq_true q2, Bool.or_true]
      · rw [if_neg q2, decide_eq_false q2, Bool.or_false]
    · rw [qi 0 (by omega)]; exact b9
    · by_cases ei : i = w
      · rw [ei, qw, Dx]; exact Nat.le_refl e
      · rw [qi i (by omega), Dq i (by omega)]; exact hlast i (by omega)
end SOON
