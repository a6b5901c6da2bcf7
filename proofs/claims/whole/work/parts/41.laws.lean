/-! laws -/
section LAWSB
variable {M : Mm} {L : Ml} {post : Int32 → Mm → Ml → Prop}
theorem zct_s (P : Nat → Bool) (k : Nat) : zct P (k + 1) = if P k = true then zct P k + 1 else zct P k := by
  cases h : P k with
  | true => rw [zct_t h, if_pos rfl, Nat.add_comm]
  | false => rw [zct_f h, if_neg (by decide)]
theorem sX8_laws {x : Int32} {f : Nat → Bool} (hf : ∀ w, w < 256 → ∀ p2 : Int32 → Mm → Ml → Prop, (f w = true → p2 1 M L) → (f w = false → p2 0 M L) → wpX7_fits 14 (nI w) M L p2) (hE : ∀ k, k < 256 → f k = true → nI (zct f k) = x → (∀ j, j < k → f j = true → ¬ nI (zct f j) = x) → post (nI k) M L) (hN : (∀ j, j < 256 → f j = true → ¬ nI (zct f j) = x) → post (if x = -1 then nI (zct f 256) else -6) M L) : wpX8_laws x M L post := by
  unfold wpX8_laws wlX8_laws_4
  refine zlp_forI 256 (fun k s => s = (M, L, x, nI (zct f k), nI k) ∧ ∀ j, j < k → f j = true → ¬ nI (zct f j) = x) ⟨rfl, fun j hj => absurd hj (by omega)⟩ ?_ ?_
  · rintro k K _ hk ⟨rfl, hj⟩ hK
    show wpX8_laws_4 post _ M L x (nI (zct f k)) (nI k)
    unfold wpX8_laws_4 wpX8_laws_32
    have hs := zct_s f k
    refine pk_le 256 k (fun h => by omega) (fun _ => hf k hk _ (fun hb => c1 ⟨fun q v ev a ha => ?_, fun q => hE k hk hb q hj⟩) (fun hb => c0 (fun a ha => ?_)))
    · rw [if_pos hb] at hs
      refine hK _ ⟨by show (M, L, x, v, a) = _; rw [ev, ha, hs, nI_1, nI_1], fun j hj2 hb2 => ?_⟩
      by_cases e : j = k
      · subst e; exact q
      · exact hj j (by omega) hb2
    · rw [if_neg (by rw [hb]; decide)] at hs
      refine hK _ ⟨by show (M, L, x, nI (zct f k), a) = _; rw [ha, hs, nI_1], fun j hj2 hb2 => ?_⟩
      by_cases e : j = k
      · subst e; rw [hb] at hb2; exact absurd hb2 (by decide)
      · exact hj j (by omega) hb2
  · rintro K _ ⟨rfl, hj⟩
    show wpX8_laws_4 post _ M L x (nI (zct f 256)) (nI 256)
    unfold wpX8_laws_4 wpX8_laws_49
    have hN := hN hj
    refine pk_le 256 256 (fun _ => ⟨fun q => ?_, fun q => ?_⟩) (fun h => by omega)
    · rw [if_neg q] at hN; exact hN
    · rw [if_pos q] at hN; exact hN
theorem sX9_laws {x : Int32} {f : Nat → Bool} (hf : ∀ w, w < 256 → ∀ p2 : Int32 → Mm → Ml → Prop, (f w = true → p2 1 M L) → (f w = false → p2 0 M L) → wpX9_fits (nI w) M L p2) (hE : ∀ k, k < 256 → f k = true → nI (zct f k) = x → (∀ j, j < k → f j = true → ¬ nI (zct f j) = x) → post (nI k) M L) (hN : (∀ j, j < 256 → f j = true → ¬ nI (zct f j) = x) → post (if x = -1 then nI (zct f 256) else -6) M L) : wpX9_laws x M L post := by
  unfold wpX9_laws wlX9_laws_4
  refine zlp_forI 256 (fun k s => s = (M, L, x, nI (zct f k), nI k) ∧ ∀ j, j < k → f j = true → ¬ nI (zct f j) = x) ⟨rfl, fun j hj => absurd hj (by omega)⟩ ?_ ?_
  · rintro k K _ hk ⟨rfl, hj⟩ hK
    show wpX9_laws_4 post _ M L x (nI (zct f k)) (nI k)
    unfold wpX9_laws_4 wpX9_laws_29
    have hs := zct_s f k
    refine pk_le 256 k (fun h => by omega) (fun _ => hf k hk _ (fun hb => c1 ⟨fun q v ev a ha => ?_, fun q => hE k hk hb q hj⟩) (fun hb => c0 (fun a ha => ?_)))
    · rw [if_pos hb] at hs
      refine hK _ ⟨by show (M, L, x, v, a) = _; rw [ev, ha, hs, nI_1, nI_1], fun j hj2 hb2 => ?_⟩
      by_cases e : j = k
      · subst e; exact q
      · exact hj j (by omega) hb2
    · rw [if_neg (by rw [hb]; decide)] at hs
      refine hK _ ⟨by show (M, L, x, nI (zct f k), a) = _; rw [ha, hs, nI_1], fun j hj2 hb2 => ?_⟩
      by_cases e : j = k
      · subst e; rw [hb] at hb2; exact absurd hb2 (by decide)
      · exact hj j (by omega) hb2
  · rintro K _ ⟨rfl, hj⟩
    show wpX9_laws_4 post _ M L x (nI (zct f 256)) (nI 256)
    unfold wpX9_laws_4 wpX9_laws_46
    have hN := hN hj
    refine pk_le 256 256 (fun _ => ⟨fun q => ?_, fun q => ?_⟩) (fun h => by omega)
    · rw [if_neg q] at hN; exact hN
    · rw [if_pos q] at hN; exact hN
theorem pr_laws (hR : RI M) {x : Int32} (h : ∀ r M1 L1, agr (wpX9_laws x) r M1 L1 → post r M1 L1) : wpX8_laws x M L post := by
  obtain ⟨⟨t, u, -, -, -, -, -, -, -, -, n, hs, lk, s1, s2, s3, s4, s5, s6, s7, s8, s9⟩, -⟩ := id hR
  have s5 : M 42 11 = nI n := s5
  have s8 : ∀ e, e < n → zlt 256 (M 51 e) ∧ zlt 256 (M 52 e) := s8
  have s9 : ∀ w, w < 256 → ((w &&& hs = hs ∧ w &&& lk = 0) ↔ fitM M n w) := s9
  obtain ⟨f, ef⟩ : ∃ f : Nat → Bool, f = fun w => decide (w &&& hs = hs ∧ w &&& lk = 0) := ⟨_, rfl⟩
  have f1 : ∀ w, f w = true ↔ (w &&& hs = hs ∧ w &&& lk = 0) := fun w => by rw [ef]; exact decide_eq_true_iff
  have hf8 : ∀ w, w < 256 → ∀ p2 : Int32 → Mm → Ml → Prop, (f w = true → p2 1 M L) → (f w = false → p2 0 M L) → wpX7_fits 14 (nI w) M L p2 := fun w hw p2 g1 g0 => sX7_fits s2 s3 hw s6 s7 (fun z => g1 ((f1 w).mpr z)) (fun z => g0 (by
    cases hq : f w with
    | false => rfl
    | true => exact absurd ((f1 w).mp hq) z))
  have hf9 : ∀ w, w < 256 → ∀ p2 : Int32 → Mm → Ml → Prop, (f w = true → p2 1 M L) → (f w = false → p2 0 M L) → wpX9_fits (nI w) M L p2 := fun w hw p2 g1 g0 => sX9_fits s1 hw s5 (fun e he => (s8 e he).1) (fun z => g1 ((f1 w).mpr ((s9 w hw).mpr z))) (fun z => g0 (by
    cases hq : f w with
    | false => rfl
    | true => exact absurd ((s9 w hw).mp ((f1 w).mp hq)) z))
  refine sX8_laws hf8 (fun k hk hb hx hj => h _ _ _ (fun p2 hp => sX9_laws hf9 (fun k2 hk2 hb2 hx2 hj2 => ?_) (fun hn => absurd hx (hn k hk hb)))) (fun hn => h _ _ _ (fun p2 hp => sX9_laws hf9 (fun k2 hk2 hb2 hx2 hj2 => absurd hx2 (hn k2 hk2 hb2)) (fun _ => hp _ _ hR)))
  have e : k2 = k := by
    rcases Nat.lt_trichotomy k k2 with q | q | q
    · exact absurd hx (hj2 k q hb)
    · exact q.symm
    · exact absurd hx2 (hj k2 q hb2)
  rw [e]
  exact hp _ _ hR
/-! the arm to look at -/
theorem zct_split (P : Nat → Bool) (m : Nat) : ∀ k, zct P (m + k) = zct P m + zct (fun j => P (m + j)) k
  | 0 => by simp [zct]
  | k + 1 => by
    rw [← Nat.add_assoc, zct_s, zct_s (fun j => P (m + j)), zct_split P m k]
    split <;> omega
theorem zct_none {P : Nat → Bool} : ∀ {n : Nat}, (∀ k, k < n → P k = false) → zct P n = 0
  | 0, _ => rfl
  | n + 1, h => by rw [zct_s, if_neg (by rw [h n (by omega)]; decide)]; exact zct_none (fun k hk => h k (by omega))
theorem zct_le2 {P : Nat → Bool} {k n : Nat} (h : k ≤ n) : zct P k ≤ zct P n := by
  have e := zct_split P k (n - k)
  rw [show k + (n - k) = n by omega] at e
  omega
theorem zct_pos {P : Nat → Bool} {n k : Nat} (hk : k < n) (h : P k = true) : 1 ≤ zct P n := by
  have h1 : zct P (k + 1) ≤ zct P n := zct_le2 hk
  rw [zct_s, if_pos h] at h1
  omega
/-- how many w have just the bits of y where x has bits -/
def agb (x y n : Nat) (w : Nat) : Bool := decide (∀ i, i < n → x.testBit i = true → w.testBit i = y.testBit i)
theorem zct_sub (x y : Nat) : ∀ n, zct (agb x y n) (2 ^ n) = 2 ^ (n - zpop x n)
  | 0 => by
    show zct (agb x y 0) 1 = 1
    rw [zct_s, if_pos (by unfold agb; exact decide_eq_true (fun i hi => absurd hi (by omega)))]
    rfl
  | n + 1 => by
    have ih := zct_sub x y n
    have hp : zpop x n ≤ n := by rw [zpop_ct]; exact zct_le _ n
    rw [show 2 ^ (n + 1) = 2 ^ n + 2 ^ n by rw [Nat.pow_succ]; omega, zct_split]
    have lo : ∀ w, w < 2 ^ n → agb x y (n + 1) w = (agb x y n w && (!x.testBit n || !y.testBit n)) := by
      intro w hw
      have wb : w.testBit n = false := Nat.testBit_lt_two_pow hw
      rw [Bool.eq_iff_iff]
      unfold agb
      rw [decide_eq_true_iff, Bool.and_eq_true, decide_eq_true_iff]
      constructor
      · intro h
        refine ⟨fun i hi => h i (by omega), ?_⟩
        have := h n (by omega)
        rw [wb] at this
        cases hx : x.testBit n with
        | false => rfl
        | true => rw [← this hx]; rfl
      · rintro ⟨h1, h2⟩ i hi hx
        by_cases e : i = n
        · subst e
          rw [hx] at h2
          rw [wb]
          cases hy : y.testBit i with
          | false => rfl
          | true => rw [hy] at h2; exact absurd h2 (by decide)
        · exact h1 i (by omega) hx
    have hi : ∀ w, w < 2 ^ n → agb x y (n + 1) (2 ^ n + w) = (agb x y n w && (!x.testBit n || y.testBit n)) := by
      intro w hw
      have wb : (2 ^ n + w).testBit n = true := by rw [Nat.testBit_two_pow_add_eq, Nat.testBit_lt_two_pow hw]; rfl
      have wl : ∀ i, i < n → (2 ^ n + w).testBit i = w.testBit i := fun i hi => Nat.testBit_two_pow_add_gt hi w
      rw [Bool.eq_iff_iff]
      unfold agb
      rw [decide_eq_true_iff, Bool.and_eq_true, decide_eq_true_iff]
      constructor
      · intro h
        refine ⟨fun i hi hx => by rw [← wl i hi]; exact h i (by omega) hx, ?_⟩
        have := h n (by omega)
        rw [wb] at this
        cases hx : x.testBit n with
        | false => rfl
        | true => rw [← this hx]; rfl
      · rintro ⟨h1, h2⟩ i hi hx
        by_cases e : i = n
        · subst e
          rw [hx] at h2
          rw [wb]
          cases hy : y.testBit i with
          | true => rfl
          | false => rw [hy] at h2; exact absurd h2 (by decide)
        · rw [wl i (by omega)]; exact h1 i (by omega) hx
    rw [zct_cong lo, zct_cong (P := fun j => agb x y (n + 1) (2 ^ n + j)) hi]
    show _ = 2 ^ (n + 1 - ((if x.testBit n then 1 else 0) + zpop x n))
    cases hx : x.testBit n with
    | false =>
      simp only [Bool.not_false, Bool.true_or, Bool.and_true]
      rw [ih, if_neg (by decide), show n + 1 - (0 + zpop x n) = (n - zpop x n) + 1 by omega, Nat.pow_succ]
      omega
    | true =>
      rw [if_pos rfl, show n + 1 - (1 + zpop x n) = n - zpop x n by omega]
      cases hy : y.testBit n with
      | false =>
        simp only [Bool.not_false, Bool.not_true, Bool.false_or, Bool.and_true, Bool.and_false]
        rw [ih, zct_none (P := fun _ => false) (fun _ _ => rfl)]
        omega
      | true =>
        simp only [Bool.not_true, Bool.false_or, Bool.and_true, Bool.and_false]
        rw [ih, zct_none (P := fun _ => false) (fun _ _ => rfl)]
        omega
/-- the law's bits that an arm asks for, beside those told -/
def tq (x a : Nat) : Nat → Nat
  | 0 => x
  | k + 1 => tq x a k ||| 2 ^ qb a k
theorem tq_lt {x a : Nat} (hx : x < 256) : ∀ k, tq x a k < 256
  | 0 => hx
  | k + 1 => or_lt8 (tq_lt hx k) (qb_lt a k)
theorem tq_bit {x a i : Nat} : ∀ k, (tq x a k).testBit i = true ↔ x.testBit i = true ∨ ∃ c, c < k ∧ i = qb a c
  | 0 => ⟨Or.inl, fun z => z.elim id (fun ⟨c, hc, _⟩ => absurd hc (by omega))⟩
  | k + 1 => by
    unfold tq
    rw [or_bit, tq_bit k]
    constructor
    · rintro ((z | ⟨c, z1, z2⟩) | z)
      · exact Or.inl z
      · exact Or.inr ⟨c, by omega, z2⟩
      · exact Or.inr ⟨k, by omega, z⟩
    · rintro (z | ⟨c, z1, z2⟩)
      · exact Or.inl (Or.inl z)
      · by_cases q : c = k
        · subst q; exact Or.inr z2
        · exact Or.inl (Or.inr ⟨c, by omega, z2⟩)
/-- the count of the fitting laws that let a become b -/
def cab (hs lk a b : Nat) : Nat → Bool := fun w => decide (w &&& hs = hs ∧ w &&& lk = 0) && decide (zgro a w = b)
theorem cab_one {hs lk a b w0 : Nat} (hw0 : w0 < 256) (h0 : cab hs lk a b w0 = true) : zct (cab hs lk a b) 256 = 2 ^ (8 - zpop (tq (hs ||| lk) a 8) 8) := by
  rw [← zct_sub (tq (hs ||| lk) a 8) w0 8]
  refine zct_cong (fun w hw => ?_)
  have hw : w < 256 := hw
  unfold cab at h0 ⊢
  rw [Bool.and_eq_true, decide_eq_true_iff, decide_eq_true_iff] at h0
  obtain ⟨⟨z1, z2⟩, z3⟩ := h0
  have hb : b < 256 := by rw [← z3]; exact zgro_lt _ _
  rw [and_sub] at z1
  rw [and_no] at z2
  rw [zgro_is hb] at z3
  rw [Bool.eq_iff_iff]
  unfold agb
  rw [Bool.and_eq_true, decide_eq_true_iff, decide_eq_true_iff, decide_eq_true_iff, and_sub, and_no, zgro_is hb]
  have ho : ∀ i, (hs ||| lk).testBit i = true ↔ hs.testBit i = true ∨ lk.testBit i = true := fun i => by rw [Nat.testBit_or, Bool.or_eq_true]
  constructor
  · rintro ⟨⟨y1, y2⟩, y3⟩ i hi hx
    rw [tq_bit, ho] at hx
    rcases hx with (hx | hx) | ⟨c, hc, rfl⟩
    · rw [y1 i hx, z1 i hx]
    · rw [y2 i hx, z2 i hx]
    · rw [y3 c hc, z3 c hc]
  · intro hx
    have big : ∀ v, v < 256 → ∀ i, ¬ i < 8 → v.testBit i = false := fun v hv i hi => z_tb8 hv hi
    refine ⟨⟨fun i hi => ?_, fun i hi => ?_⟩, fun c hc => ?_⟩
    · by_cases h8 : i < 8
      · rw [hx i h8 ((tq_bit 8).mpr (Or.inl ((ho i).mpr (Or.inl hi))))]; exact z1 i hi
      · have := z1 i hi
        rw [big w0 hw0 i h8] at this
        exact absurd this (by decide)
    · by_cases h8 : i < 8
      · rw [hx i h8 ((tq_bit 8).mpr (Or.inl ((ho i).mpr (Or.inr hi))))]; exact z2 i hi
      · exact big w hw i h8
    · rw [hx _ (qb_lt a c) ((tq_bit 8).mpr (Or.inr ⟨c, hc, rfl⟩))]; exact z3 c hc
end LAWSB
