/-! plain facts on numbers and arrays, to paste: each family by itself; over the kit's rows on nI and upd -/
/-! ===== order of ints, in all its forms, and through longs ===== -/
theorem fa_lt (a b : Int32) : a < b ↔ a.toInt < b.toInt := Int32.lt_iff_toInt_lt
theorem fa_le (a b : Int32) : a ≤ b ↔ a.toInt ≤ b.toInt := Int32.le_iff_toInt_le
theorem fa_eq (a b : Int32) : a = b ↔ a.toInt = b.toInt := Int32.toInt_inj.symm
theorem fa_lt64 (a b : Int64) : a < b ↔ a.toInt < b.toInt := Int64.lt_iff_toInt_lt
theorem fa_le64 (a b : Int64) : a ≤ b ↔ a.toInt ≤ b.toInt := Int64.le_iff_toInt_le
theorem fa_eq64 (a b : Int64) : a = b ↔ a.toInt = b.toInt := Int64.toInt_inj.symm
/-- a comparison of two ints taken as longs -/
theorem fa_wide_lt (a b : Int32) : a.toInt64 < b.toInt64 ↔ a < b := by rw [fa_lt64, fa_lt, Int32.toInt_toInt64, Int32.toInt_toInt64]
theorem fa_wide_le (a b : Int32) : a.toInt64 ≤ b.toInt64 ↔ a ≤ b := by rw [fa_le64, fa_le, Int32.toInt_toInt64, Int32.toInt_toInt64]
theorem fa_wide_eq (a b : Int32) : a.toInt64 = b.toInt64 ↔ a = b := by rw [fa_eq64, fa_eq, Int32.toInt_toInt64, Int32.toInt_toInt64]
/-- one strict comparison gives all the others -/
theorem fa_of_lt {a b : Int32} (h : a < b) : a ≤ b ∧ ¬ b ≤ a ∧ ¬ b < a ∧ a ≠ b ∧ b ≠ a := by
  rw [fa_lt] at h
  refine ⟨?_, ?_, ?_, ?_, ?_⟩
  · rw [fa_le]; omega
  · rw [fa_le]; omega
  · rw [fa_lt]; omega
  · intro e; rw [fa_eq] at e; omega
  · intro e; rw [fa_eq] at e; omega
theorem fa_of_nlt {a b : Int32} (h : ¬ a < b) : b ≤ a := by
  rw [fa_lt] at h
  rw [fa_le]
  omega
theorem fa_of_nle {a b : Int32} (h : ¬ a ≤ b) : b < a := by
  rw [fa_le] at h
  rw [fa_lt]
  omega
theorem fa_le_ne {a b : Int32} (h : a ≤ b) (h2 : a ≠ b) : a < b := by
  rw [fa_le] at h
  rw [fa_lt]
  have h3 : a.toInt ≠ b.toInt := fun e => h2 ((fa_eq a b).mpr e)
  omega
theorem fa_three (a b : Int32) : a < b ∨ a = b ∨ b < a := by
  rw [fa_lt, fa_lt, fa_eq]
  omega
theorem fa_trans {a b c : Int32} (h : a < b) (h2 : b ≤ c) : a < c := by
  rw [fa_lt] at *
  rw [fa_le] at h2
  omega
/-! ===== small literals as numbers ===== -/
theorem fa_lit (n : Nat) : (OfNat.ofNat n : Int32) = nI n := rfl
theorem fa_litL (n : Nat) : (OfNat.ofNat n : Int64) = lN n := rfl
/-! ===== bits of a number: 'or', masks, one bit ===== -/
theorem fa_and (a b : Nat) : nI a &&& nI b = nI (a &&& b) := by
  apply Int32.toBitVec_inj.1
  show BitVec.ofNat 32 a &&& BitVec.ofNat 32 b = BitVec.ofNat 32 (a &&& b)
  apply BitVec.eq_of_getLsbD_eq
  intro i hi
  simp [hi]
theorem fa_or (a b : Nat) : nI a ||| nI b = nI (a ||| b) := by
  apply Int32.toBitVec_inj.1
  show BitVec.ofNat 32 a ||| BitVec.ofNat 32 b = BitVec.ofNat 32 (a ||| b)
  apply BitVec.eq_of_getLsbD_eq
  intro i hi
  simp [hi]
/-- a remainder by a power of two, as a mask -/
theorem fa_mask (n k : Nat) : nI n &&& nI (2 ^ k - 1) = nI (n % 2 ^ k) := by rw [fa_and, Nat.and_two_pow_sub_one_eq_mod]
/-- 'or' of a high part and a low one that don't meet is their sum -/
theorem fa_or_sum {a k : Nat} (b : Nat) (h : a < 2 ^ k) : nI (2 ^ k * b) ||| nI a = nI (2 ^ k * b + a) := by rw [fa_or, Nat.two_pow_add_eq_or_of_lt h]
/-- one bit, by 'and' with a power of two -/
theorem fa_bit {n j : Nat} (hj : j < 31) : nI n &&& nI (2 ^ j) = 0 ↔ n.testBit j = false := by
  have h2 : (2 : Nat) ^ j < 2 ^ 31 := Nat.pow_lt_pow_right (by decide) hj
  have hle : n &&& 2 ^ j ≤ 2 ^ j := Nat.and_le_right
  have e : n &&& 2 ^ j = 0 ↔ n.testBit j = false := by
    constructor
    · intro h
      have h1 : (n &&& 2 ^ j).testBit j = false := by rw [h]; simp
      rw [Nat.testBit_and] at h1
      first | simpa using h1 | simpa [Nat.testBit_two_pow_self] using h1 | simpa [Nat.testBit_two_pow] using h1
    · intro h
      apply Nat.eq_of_testBit_eq
      intro i
      rw [Nat.testBit_and]
      by_cases hi : j = i
      · subst hi; simp [h]
      · first | (simp [Nat.testBit_two_pow, hi]; done) | (simp [Nat.testBit_two_pow_of_ne hi]; done)
  rw [fa_and]
  constructor
  · intro h
    apply e.mp
    rcases Nat.eq_zero_or_pos (n &&& 2 ^ j) with z | z
    · exact z
    · exact absurd h (nI_ne0 z (Nat.lt_of_le_of_lt hle h2))
  · intro h
    rw [e.mpr h]; exact nI_0
/-- a remainder by a power of two of a number that isn't negative, as Java divides -/
theorem fa_rem {a k : Nat} (ha : a < 2 ^ 31) (hk : k < 31) : nI a - nI a / nI (2 ^ k) * nI (2 ^ k) = nI (a % 2 ^ k) := pk_rem ha (Nat.two_pow_pos k) (Nat.pow_lt_pow_right (by decide) hk)
/-! ===== cuts to a byte, a short ===== -/
theorem fa_byte_xor (x y : Int32) : (x ^^^ y).toInt8 = x.toInt8 ^^^ y.toInt8 := by
  apply Int8.toBitVec_inj.1
  apply BitVec.eq_of_getLsbD_eq
  intro i hi
  first | (simp [hi]; done) | (simp [hi, BitVec.getLsbD_setWidth, BitVec.getLsbD_signExtend]; done)
theorem fa_short_xor (x y : Int32) : (x ^^^ y).toInt16 = x.toInt16 ^^^ y.toInt16 := by
  apply Int16.toBitVec_inj.1
  apply BitVec.eq_of_getLsbD_eq
  intro i hi
  first | (simp [hi]; done) | (simp [hi, BitVec.getLsbD_setWidth, BitVec.getLsbD_signExtend]; done)
/-- the cut to a byte sees the low byte alone -/
theorem fa_byte_low (x : Int32) : (x &&& 255).toInt8 = x.toInt8 := by
  apply Int8.toBitVec_inj.1
  apply BitVec.eq_of_getLsbD_eq
  intro i hi
  have h2 : (255 : Int32).toBitVec.getLsbD i = true := by
    have : ∀ j : Fin 8, (255 : Int32).toBitVec.getLsbD j.val = true := by decide +kernel
    exact this ⟨i, hi⟩
  have h4 : (x &&& 255).toBitVec.getLsbD i = x.toBitVec.getLsbD i := by
    show (x.toBitVec &&& (255 : Int32).toBitVec).getLsbD i = _
    rw [BitVec.getLsbD_and, h2, Bool.and_true]
  have h3 : i < 32 := by omega
  first
    | (show (((x &&& 255).toBitVec).signExtend 8).getLsbD i = (x.toBitVec.signExtend 8).getLsbD i; rw [BitVec.getLsbD_signExtend, BitVec.getLsbD_signExtend, if_pos h3, if_pos h3, h4])
    | (show (((x &&& 255).toBitVec).setWidth 8).getLsbD i = (x.toBitVec.setWidth 8).getLsbD i; rw [BitVec.getLsbD_setWidth, BitVec.getLsbD_setWidth, h4])
    | (simp [hi, h3, h4]; done)
theorem fa_short_low (x : Int32) : (x &&& 65535).toInt16 = x.toInt16 := by
  apply Int16.toBitVec_inj.1
  apply BitVec.eq_of_getLsbD_eq
  intro i hi
  have h2 : (65535 : Int32).toBitVec.getLsbD i = true := by
    have : ∀ j : Fin 16, (65535 : Int32).toBitVec.getLsbD j.val = true := by decide +kernel
    exact this ⟨i, hi⟩
  have h4 : (x &&& 65535).toBitVec.getLsbD i = x.toBitVec.getLsbD i := by
    show (x.toBitVec &&& (65535 : Int32).toBitVec).getLsbD i = _
    rw [BitVec.getLsbD_and, h2, Bool.and_true]
  have h3 : i < 32 := by omega
  first
    | (show (((x &&& 65535).toBitVec).signExtend 16).getLsbD i = (x.toBitVec.signExtend 16).getLsbD i; rw [BitVec.getLsbD_signExtend, BitVec.getLsbD_signExtend, if_pos h3, if_pos h3, h4])
    | (show (((x &&& 65535).toBitVec).setWidth 16).getLsbD i = (x.toBitVec.setWidth 16).getLsbD i; rw [BitVec.getLsbD_setWidth, BitVec.getLsbD_setWidth, h4])
    | (simp [hi, h3, h4]; done)
/-- a small number is its own byte, its own short -/
theorem fa_byte_small {n : Nat} (h : n < 128) : (nI n).toInt8.toInt32 = nI n := by
  have : ∀ j : Fin 128, (nI j.val).toInt8.toInt32 = nI j.val := by decide +kernel
  exact this ⟨n, h⟩
/-! ===== absolute difference ===== -/
theorem fa_absdiff {a b : Nat} (ha : a < 2 ^ 31) (hb : b < 2 ^ 31) : (if nI a < nI b then nI b - nI a else nI a - nI b) = nI (if a < b then b - a else a - b) := by
  by_cases h : a < b
  · rw [if_pos (nI_lt h hb), if_pos h]
    exact pk_sub (Nat.le_of_lt h)
  · rw [if_neg (nI_nlt (Nat.le_of_not_lt h) ha), if_neg h]
    exact pk_sub (Nat.le_of_not_lt h)
/-! ===== an array behind i stores, a conditional store, a row copied ===== -/
/-- f where k < i, what stood there else -/
def fa_fill {α : Type} (f g : Nat → α) (i : Nat) : Nat → α := fun k => if k < i then f k else g k
theorem fa_fill_0 {α : Type} (f g : Nat → α) : fa_fill f g 0 = g := funext fun k => if_neg (Nat.not_lt_zero k)
theorem fa_fill_in {α : Type} {f g : Nat → α} {i k : Nat} (h : k < i) : fa_fill f g i k = f k := if_pos h
theorem fa_fill_out {α : Type} {f g : Nat → α} {i k : Nat} (h : i ≤ k) : fa_fill f g i k = g k := if_neg (Nat.not_lt.mpr h)
theorem fa_fill_succ (f g : Nat → Int32) (i : Nat) : upd (fa_fill f g i) i (f i) = fa_fill f g (i + 1) := by
  funext k
  by_cases e : k = i
  · subst e
    rw [pk_us]
    exact (if_pos (Nat.lt_succ_self k)).symm
  · rw [pk_un e]
    by_cases h : k < i
    · rw [fa_fill_in h, fa_fill_in (Nat.lt_succ_of_lt h)]
    · rw [fa_fill_out (Nat.le_of_not_lt h), fa_fill_out (by omega)]
/-- a store that changes nothing -/
theorem fa_upd_same {f : Nat → Int32} {i : Nat} {x : Int32} (h : f i = x) : upd f i x = f := by
  funext k
  by_cases e : k = i
  · subst e
    rw [pk_us, h]
  · rw [pk_un e]
/-- a store under a condition, told as one -/
theorem fa_upd_if (c : Prop) [Decidable c] (f : Nat → Int32) (i : Nat) (x : Int32) : (if c then upd f i x else f) = upd f i (if c then x else f i) := by
  by_cases h : c
  · rw [if_pos h, if_pos h]
  · rw [if_neg h, if_neg h, fa_upd_same rfl]
/-- two stores at one place, at two -/
theorem fa_upd_twice (f : Nat → Int32) (i : Nat) (x y : Int32) : upd (upd f i x) i y = upd f i y := by
  funext k
  by_cases e : k = i
  · subst e
    rw [pk_us, pk_us]
  · rw [pk_un e, pk_un e, pk_un e]
theorem fa_upd_swap (f : Nat → Int32) {i j : Nat} (h : i ≠ j) (x y : Int32) : upd (upd f i x) j y = upd (upd f j y) i x := by
  funext k
  by_cases e : k = i
  · subst e
    rw [pk_un h, pk_us, pk_us]
  · by_cases e2 : k = j
    · subst e2
      rw [pk_us, pk_un e, pk_us]
    · rw [pk_un e2, pk_un e, pk_un e, pk_un e2]
/-! ===== the first index with a property; a count ===== -/
/-- the first k < n with p k, n if there is none -/
def fa_first (p : Nat → Bool) : Nat → Nat
  | 0 => 0
  | n + 1 => if fa_first p n < n then fa_first p n else if p n then n else n + 1
theorem fa_first_le (p : Nat → Bool) : ∀ n, fa_first p n ≤ n
  | 0 => Nat.le_refl 0
  | n + 1 => by
    have ih := fa_first_le p n
    unfold fa_first
    split
    · omega
    · split
      · omega
      · omega
theorem fa_first_no (p : Nat → Bool) : ∀ n k, k < fa_first p n → p k = false
  | 0, k, h => absurd h (Nat.not_lt_zero k)
  | n + 1, k, h => by
    have ih := fa_first_no p n
    have hl := fa_first_le p n
    unfold fa_first at h
    split at h
    · exact ih k h
    · rename_i h1
      split at h
      · exact ih k (by omega)
      · rename_i h2
        by_cases e : k = n
        · subst e
          exact Bool.eq_false_iff.mpr h2
        · exact ih k (by omega)
theorem fa_first_yes (p : Nat → Bool) : ∀ n, fa_first p n < n → p (fa_first p n) = true
  | 0, h => absurd h (Nat.not_lt_zero _)
  | n + 1, h => by
    have ih := fa_first_yes p n
    have hl := fa_first_le p n
    unfold fa_first at h ⊢
    split at h
    · rename_i h1
      rw [if_pos h1]
      exact ih h1
    · rename_i h1
      rw [if_neg h1]
      split at h
      · rename_i h2
        rw [if_pos h2]
        exact h2
      · omega
/-- how many k < n have p k -/
def fa_cnt (p : Nat → Bool) : Nat → Nat
  | 0 => 0
  | n + 1 => fa_cnt p n + if p n then 1 else 0
theorem fa_cnt_le (p : Nat → Bool) : ∀ n, fa_cnt p n ≤ n
  | 0 => Nat.le_refl 0
  | n + 1 => by
    have ih := fa_cnt_le p n
    unfold fa_cnt
    split
    · omega
    · omega
theorem fa_cnt_yes {p : Nat → Bool} {n : Nat} (h : p n = true) : fa_cnt p (n + 1) = fa_cnt p n + 1 := by rw [fa_cnt, if_pos h]
theorem fa_cnt_no {p : Nat → Bool} {n : Nat} (h : p n = false) : fa_cnt p (n + 1) = fa_cnt p n := by rw [fa_cnt, if_neg (by rw [h]; decide)]; rfl
theorem fa_cnt_cong {p q : Nat → Bool} : ∀ {n : Nat}, (∀ k, k < n → p k = q k) → fa_cnt p n = fa_cnt q n
  | 0, _ => rfl
  | n + 1, h => by rw [fa_cnt, fa_cnt, fa_cnt_cong (fun k hk => h k (Nat.lt_succ_of_lt hk)), h n (Nat.lt_succ_self n)]
/-! ===== an answer carried into a post; a branch on a boolean answer ===== -/
theorem fa_post {α : Type} {P : α → Prop} {x y : α} (h : x = y) (hp : P y) : P x := h ▸ hp
theorem fa_post2 {α β : Type} {P : α → β → Prop} {x y : α} {u v : β} (h : x = y) (h2 : u = v) (hp : P y v) : P x u := h ▸ h2 ▸ hp
theorem fa_bool {r : Int32} {b : Bool} (h : r = if b then 1 else 0) : (r = 0 ↔ b = false) ∧ (¬ r = 0 ↔ b = true) := by
  subst h
  cases b
  · exact ⟨⟨fun _ => rfl, fun _ => rfl⟩, ⟨fun h => absurd rfl h, fun h => absurd h (by decide)⟩⟩
  · exact ⟨⟨fun h => absurd h (by decide), fun h => absurd h (by decide)⟩, ⟨fun _ => rfl, fun _ => by decide⟩⟩
/-- a boolean's narrowing changes nothing -/
theorem fa_bool_and {r : Int32} (h : r = 0 ∨ r = 1) : r &&& 1 = r := by
  rcases h with rfl | rfl
  · decide
  · decide
theorem fa_bool_prop {c : Prop} [Decidable c] {r : Int32} (h : r = if c then 1 else 0) : (r = 0 ↔ ¬ c) ∧ (¬ r = 0 ↔ c) := by
  subst h
  by_cases hc : c
  · rw [if_pos hc]
    exact ⟨⟨fun h => absurd h (by decide), fun h => absurd hc h⟩, ⟨fun _ => hc, fun _ => by decide⟩⟩
  · rw [if_neg hc]
    exact ⟨⟨fun _ => hc, fun _ => rfl⟩, ⟨fun h => absurd rfl h, fun h => absurd h hc⟩⟩
/-! ===== the pure part: numbers, bits, rows ===== -/
theorem z_sl : ∀ n, n < 32 → ((nI n &&& 31).toBitVec.smod 32).toNat = n := by decide +kernel
theorem b1 {A B : Prop} (h : A) : (¬ (1 : Int32) = 0 → A) ∧ ((1 : Int32) = 0 → B) := ⟨fun _ => h, fun e => absurd e (by decide)⟩
theorem b0 {A B : Prop} (h : B) : (¬ (0 : Int32) = 0 → A) ∧ ((0 : Int32) = 0 → B) := ⟨fun e => absurd rfl e, fun _ => h⟩
theorem c1 {A B : Prop} (h : B) : ((1 : Int32) = 0 → A) ∧ (¬ ((1 : Int32) = 0) → B) := ⟨fun e => absurd e (by decide), fun _ => h⟩
theorem c0 {A B : Prop} (h : A) : ((0 : Int32) = 0 → A) ∧ (¬ ((0 : Int32) = 0) → B) := ⟨fun _ => h, fun e => absurd rfl e⟩
theorem bt_ {C A B : Prop} (c : C) (h : A) : (C → A) ∧ (¬ C → B) := ⟨fun _ => h, fun e => absurd c e⟩
theorem bf_ {C A B : Prop} (c : ¬ C) (h : B) : (C → A) ∧ (¬ C → B) := ⟨fun e => absurd e c, fun _ => h⟩
theorem nt_ {C A B : Prop} (c : C) (h : B) : (¬ C → A) ∧ (C → B) := ⟨fun e => absurd c e, fun _ => h⟩
theorem nf_ {C A B : Prop} (c : ¬ C) (h : A) : (¬ C → A) ∧ (C → B) := ⟨fun _ => h, fun e => absurd e c⟩
theorem z01t {P : Int32 → Prop} (h : P 1) : ((1 : Int32) = 0 ∨ (1 : Int32) = 1) ∧ P 1 := ⟨Or.inr rfl, h⟩
theorem z01f {P : Int32 → Prop} (h : P 0) : ((0 : Int32) = 0 ∨ (0 : Int32) = 1) ∧ P 0 := ⟨Or.inl rfl, h⟩
/-- memory: reading behind a write -/
theorem zr_eq (M : Mm) (k : Nat) (f : Nat → Int32) : zr M k f k = f := if_pos rfl
theorem zr_ne {M : Mm} {k a : Nat} {f : Nat → Int32} (h : a ≠ k) : zr M k f a = M a := if_neg h
theorem zr_zr (M : Mm) (k : Nat) (f g : Nat → Int32) : zr (zr M k f) k g = zr M k g := by
  funext a
  by_cases h : a = k
  · subst h; rw [zr_eq, zr_eq]
  · rw [zr_ne h, zr_ne h, zr_ne h]
theorem zr_self (M : Mm) (k : Nat) : zr M k (M k) = M := by
  funext a
  by_cases h : a = k
  · subst h; rw [zr_eq]
  · rw [zr_ne h]
theorem zrl_eq (M : Ml) (k : Nat) (f : Nat → Int64) : zrl M k f k = f := if_pos rfl
theorem zrl_ne {M : Ml} {k a : Nat} {f : Nat → Int64} (h : a ≠ k) : zrl M k f a = M a := if_neg h
/-- a loop that counts: its states are told -/
theorem zlp_for {α : Type} {F : (α → Prop) → α → Prop} (n : Nat) (st : Nat → α) (h : ∀ (k : Nat) (K : α → Prop), k < n → K (st (k + 1)) → F K (st k)) (he : ∀ K : α → Prop, F K (st n)) : ∃ j, zlp F j (st 0) := by
  have key : ∀ d k, k + d = n → ∃ j, zlp F j (st k) := by
    intro d
    induction d with
    | zero => intro k hk; exact ⟨1, by rw [show k = n by omega]; exact he _⟩
    | succ d ih =>
      intro k hk
      obtain ⟨j, hj⟩ := ih (k + 1) (by omega)
      exact ⟨j + 1, h k _ (by omega) hj⟩
  exact key n 0 (by omega)
/-- the same with what each state is known to be -/
theorem zlp_forI {α : Type} {F : (α → Prop) → α → Prop} (n : Nat) (I : Nat → α → Prop) {s : α} (h0 : I 0 s) (h : ∀ (k : Nat) (K : α → Prop) (s : α), k < n → I k s → (∀ s', I (k + 1) s' → K s') → F K s) (he : ∀ (K : α → Prop) (s : α), I n s → F K s) : ∃ j, zlp F j s := by
  have key : ∀ d k s, k + d = n → I k s → ∀ j, zlp F (d + 1 + j) s := by
    intro d
    induction d with
    | zero => intro k s hk hi j; rw [show 0 + 1 + j = j + 1 by omega]; exact he _ _ (by rw [← show k = n by omega]; exact hi)
    | succ d ih =>
      intro k s hk hi j
      rw [show d + 1 + 1 + j = (d + 1 + j) + 1 by omega]
      exact h k _ s (by omega) hi (fun s' hs' => ih (k + 1) s' (by omega) hs' j)
  exact ⟨n + 1 + 0, key n 0 s (by omega) h0 0⟩
theorem nI_ti {n : Nat} (h : n < 2147483648) : (nI n).toInt = (n : Int) := nI_toInt h
theorem z_rng {x : Int32} {n : Nat} (h : 0 ≤ x.toInt ∧ x.toInt < n) (hn : n < 2147483648) : ∃ j : Nat, j < n ∧ x = nI j := by
  refine ⟨x.toInt.toNat, by omega, ?_⟩
  apply Int32.toInt_inj.mp
  rw [nI_toInt (by omega)]
  omega
theorem z_nrng {n j : Nat} (h : j < n) (hn : n < 2147483648) : 0 ≤ (nI j).toInt ∧ (nI j).toInt < n := by rw [nI_toInt (by omega)]; omega
/-- a set as a number -/
def zbs (P : Nat → Bool) : Nat → Nat
  | 0 => 0
  | k + 1 => if P k then 2 ^ k + zbs P k else zbs P k
theorem zbs_lt (P : Nat → Bool) : ∀ n, zbs P n < 2 ^ n
  | 0 => by simp [zbs]
  | n + 1 => by
    have h := zbs_lt P n
    unfold zbs
    rw [Nat.pow_succ]
    split <;> omega
theorem zbs_tb (P : Nat → Bool) : ∀ n k, (zbs P n).testBit k = (decide (k < n) && P k)
  | 0, k => by simp [zbs]
  | n + 1, k => by
    have h := zbs_lt P n
    have ih := zbs_tb P n k
    unfold zbs
    by_cases hk : k = n
    · subst hk
      cases hP : P k with
      | true => simp [Nat.testBit_two_pow_add_eq, Nat.testBit_lt_two_pow h]
      | false => simp [Nat.testBit_lt_two_pow h]
    · have e : decide (k < n + 1) = decide (k < n) := by
        by_cases h2 : k < n
        · simp [h2, Nat.lt_succ_of_lt h2]
        · simp [h2, show ¬ k < n + 1 by omega]
      rw [e]
      cases hP : P n with
      | false => simpa using ih
      | true =>
        simp only [if_true]
        by_cases h2 : k < n
        · rw [Nat.testBit_two_pow_add_gt h2]; exact ih
        · rw [Nat.testBit_lt_two_pow (x := 2 ^ n + zbs P n) (i := k)]
          · simp [h2]
          · have : 2 ^ (n + 1) ≤ 2 ^ k := Nat.pow_le_pow_right (by decide) (by omega)
            rw [Nat.pow_succ] at this
            omega
theorem zbs_cong {P Q : Nat → Bool} : ∀ {n : Nat}, (∀ k, k < n → P k = Q k) → zbs P n = zbs Q n
  | 0, _ => rfl
  | n + 1, h => by
    unfold zbs
    rw [h n (by omega), zbs_cong (fun k hk => h k (by omega))]
theorem zbs_of {t n : Nat} (h : t < 2 ^ n) : zbs t.testBit n = t := by
  apply Nat.eq_of_testBit_eq
  intro k
  rw [zbs_tb]
  by_cases hk : k < n
  · simp [hk]
  · rw [Nat.testBit_lt_two_pow (Nat.lt_of_lt_of_le h (Nat.pow_le_pow_right (by decide) (by omega)))]
    simp [hk]
theorem z_tb (t k : Nat) : t / 2 ^ k % 2 = if t.testBit k then 1 else 0 := by
  rw [Nat.testBit_eq_decide_div_mod_eq]
  have := Nat.mod_lt (t / 2 ^ k) (show 2 > 0 by decide)
  by_cases h : t / 2 ^ k % 2 = 1
  · simp [h]
  · have : t / 2 ^ k % 2 = 0 := by omega
    simp [this]
theorem z_bit {t k : Nat} (ht : t < 2147483648) (hk : k < 31) : ((nI t) >>> (nI k &&& 31)) &&& 1 = if t.testBit k then (1 : Int32) else 0 := by
  rw [pk_shrN ht _ k (z_sl k (by omega)), pk_andN (Nat.lt_of_le_of_lt (Nat.div_le_self _ _) (by omega)) 1 (by decide), Nat.pow_one, z_tb]
  split <;> rfl
theorem z_shl {k : Nat} (hk : k < 31) : (1 : Int32) <<< (nI k &&& 31) = nI (2 ^ k) := by
  have h := pk_shlN (n := 1) (nI k &&& 31) k (z_sl k (by omega)) (by rw [Nat.one_mul]; exact Nat.pow_lt_pow_right (by decide) (by omega))
  rw [Nat.one_mul] at h
  exact h
theorem z_or_bs {P : Nat → Bool} {k : Nat} (hk : k < 31) : nI (zbs P k) ||| ((1 : Int32) <<< (nI k &&& 31)) = nI (2 ^ k + zbs P k) := by
  rw [z_shl hk, fa_or, Nat.or_comm]
  congr 1
  have h := Nat.two_pow_add_eq_or_of_lt (zbs_lt P k) 1
  rw [Nat.mul_one] at h
  exact h.symm
/-- how many bits -/
def zpop (t : Nat) : Nat → Nat
  | 0 => 0
  | k + 1 => (if t.testBit k then 1 else 0) + zpop t k
theorem zcmp_lt (x y : Int64) : lg_cmp x y < 0 ↔ x < y := by
  unfold lg_cmp
  rw [fa_lt64]
  by_cases h1 : y < x
  · rw [if_pos h1]; rw [fa_lt64] at h1
    exact ⟨fun e => absurd e (by decide), fun e => by omega⟩
  · rw [if_neg h1]; rw [fa_lt64] at h1
    by_cases h2 : x = y
    · rw [if_pos h2]; subst h2
      exact ⟨fun e => absurd e (by decide), fun e => by omega⟩
    · rw [if_neg h2]; rw [fa_eq64] at h2
      exact ⟨fun _ => by omega, fun _ => by decide⟩
theorem zcmp_gt (x y : Int64) : 0 < lg_cmp x y ↔ y < x := by
  unfold lg_cmp
  by_cases h1 : y < x
  · rw [if_pos h1]
    exact ⟨fun _ => h1, fun _ => by decide⟩
  · rw [if_neg h1]
    by_cases h2 : x = y
    · rw [if_pos h2]
      exact ⟨fun e => absurd e (by decide), fun e => absurd e h1⟩
    · rw [if_neg h2]
      exact ⟨fun e => absurd e (by decide), fun e => absurd e h1⟩
/-! ===== the small methods ===== -/
theorem sX8_isBelow {x y : Int32} {M : Mm} {L : Ml} {post : Int32 → Mm → Ml → Prop} (n : Int) (ht : 0 ≤ x.toInt ∧ x.toInt < n → post 1 M L) (hf : ¬ (0 ≤ x.toInt ∧ x.toInt < n) → post 0 M L) (hn : y.toInt = n := by rfl) : wpX8_isBelow x y M L post := by
  have e0 : (0 : Int32).toInt = 0 := rfl
  unfold wpX8_isBelow
  refine ⟨fun h => ?_, fun h => ⟨fun h2 => ?_, fun h2 => ?_⟩⟩
  · rw [fa_lt, e0] at h
    exact z01f (P := fun r => post r M L) (hf (by omega))
  · rw [fa_le, hn] at h2
    exact z01f (P := fun r => post r M L) (hf (by omega))
  · rw [fa_le, hn] at h2
    rw [fa_lt, e0] at h
    exact z01t (P := fun r => post r M L) (ht (by omega))
theorem sX9_in {x : Int32} {lo hi : Int64} {M : Mm} {L : Ml} {post : Int32 → Mm → Ml → Prop} (a b : Int) (ht : a ≤ x.toInt ∧ x.toInt ≤ b → post 1 M L) (hf : ¬ (a ≤ x.toInt ∧ x.toInt ≤ b) → post 0 M L) (ha : lo.toInt = a := by rfl) (hb : hi.toInt = b := by rfl) : wpX9_in x.toInt64 lo hi M L post := by
  unfold wpX9_in
  rw [zcmp_lt, zcmp_gt, fa_lt64, fa_lt64, Int32.toInt_toInt64, ha, hb]
  refine ⟨fun h => ?_, fun h => ⟨fun h2 => ?_, fun h2 => ?_⟩⟩
  · exact z01f (P := fun r => post r M L) (hf (by omega))
  · exact z01f (P := fun r => post r M L) (hf (by omega))
  · exact z01t (P := fun r => post r M L) (ht (by omega))
theorem sX9_isOne {x : Int32} {M : Mm} {L : Ml} {post : Int32 → Mm → Ml → Prop} (ht : 0 ≤ x.toInt ∧ x.toInt < 6 → post 1 M L) (hf : ¬ (0 ≤ x.toInt ∧ x.toInt < 6) → post 0 M L) : wpX9_isOne x M L post :=
  sX9_in 0 5 (fun h => z01t (P := fun r => post r M L) (ht (by omega))) (fun h => z01f (P := fun r => post r M L) (hf (by omega)))
theorem sX9_isArm {x : Int32} {M : Mm} {L : Ml} {post : Int32 → Mm → Ml → Prop} (ht : 0 ≤ x.toInt ∧ x.toInt < 256 → post 1 M L) (hf : ¬ (0 ≤ x.toInt ∧ x.toInt < 256) → post 0 M L) : wpX9_isArm x M L post :=
  sX9_in 0 255 (fun h => z01t (P := fun r => post r M L) (ht (by omega))) (fun h => z01f (P := fun r => post r M L) (hf (by omega)))
theorem sX8_bit {t k : Nat} {M : Mm} {L : Ml} {post : Int32 → Mm → Ml → Prop} (ht : t < 2147483648) (hk : k < 31) (h : post (if t.testBit k then 1 else 0) M L) : wpX8_bit (nI t) (nI k) M L post := by
  unfold wpX8_bit
  rw [z_bit ht hk]
  exact h
theorem z_pop8 : ∀ t, t < 256 → ((((((nI t - (((nI t).toUInt32 >>> ((1 : Int32).toUInt32 &&& Int32.toUInt32 31)).toInt32 &&& 1431655765)) &&& 858993459) + ((((nI t - (((nI t).toUInt32 >>> ((1 : Int32).toUInt32 &&& Int32.toUInt32 31)).toInt32 &&& 1431655765))).toUInt32 >>> ((2 : Int32).toUInt32 &&& Int32.toUInt32 31)).toInt32 &&& 858993459)))) = nI (zpop (t % 16) 4 + 16 * zpop (t / 16) 4)) := by decide +kernel
theorem z_pop8b : ∀ a, a < 5 → ∀ b, b < 5 → (((((((nI (a + 16 * b) + ((nI (a + 16 * b)).toUInt32 >>> ((4 : Int32).toUInt32 &&& Int32.toUInt32 31)).toInt32)) &&& 252645135) + (((((nI (a + 16 * b) + ((nI (a + 16 * b)).toUInt32 >>> ((4 : Int32).toUInt32 &&& Int32.toUInt32 31)).toInt32)) &&& 252645135)).toUInt32 >>> ((8 : Int32).toUInt32 &&& Int32.toUInt32 31)).toInt32) = nI (a + b)))) ∧ ((nI (a + b) + ((nI (a + b)).toUInt32 >>> ((16 : Int32).toUInt32 &&& Int32.toUInt32 31)).toInt32) &&& 63) = nI (a + b) := by decide +kernel
theorem z_pop8c : ∀ t, t < 256 → zpop (t % 16) 4 < 5 ∧ zpop (t / 16) 4 < 5 ∧ zpop (t % 16) 4 + zpop (t / 16) 4 = zpop t 8 := by decide +kernel
theorem sJ6_bitCount {t : Nat} {M : Mm} {L : Ml} {post : Int32 → Mm → Ml → Prop} (ht : t < 256) (h : post (nI (zpop t 8)) M L) : wpJ6_bitCount_0f7a4 (nI t) M L post := by
  unfold wpJ6_bitCount_0f7a4
  intro a ha b hb c hc d hd e he
  obtain ⟨p1, p2, p3⟩ := z_pop8c t ht
  have q1 := z_pop8 t ht
  obtain ⟨q2, q3⟩ := z_pop8b _ p1 _ p2
  rw [← ha, ← hb] at q1
  subst q1
  rw [← hc, ← hd] at q2
  subst q2
  rw [← he] at q3
  rw [q3, p3]
  exact h
theorem z_ker : ∀ t, t < 256 → t = 0 ∨ ((¬ nI t = 0) ∧ ((nI t) &&& (nI t - 1)) = nI (t &&& (t - 1)) ∧ (t &&& (t - 1)) < t ∧ zpop t 8 = zpop (t &&& (t - 1)) 8 + 1) := by decide +kernel
theorem sX9_bitsOf {t : Nat} {M : Mm} {L : Ml} {post : Int32 → Mm → Ml → Prop} (ht : t < 256) (h : post (nI (zpop t 8)) M L) : wpX9_bitsOf (nI t) M L post := by
  unfold wpX9_bitsOf wlX9_bitsOf_4
  refine zlp_ok (fun s => ∃ c u : Nat, u < 256 ∧ s = (M, L, nI c, nI u) ∧ c + zpop u 8 = zpop t 8) (fun s => s.2.2.2.toInt.toNat) ?_ ⟨0, t, ht, rfl, by omega⟩
  rintro K _ ⟨c, u, hu, rfl, hc⟩ hK
  unfold wpX9_bitsOf_4
  rcases z_ker u hu with rfl | ⟨h1, h2, h3, h4⟩
  · refine bt_ rfl ?_
    rw [show c = zpop t 8 from by simpa [zpop] using hc]
    exact h
  · refine bf_ h1 ?_
    intro a ha b hb
    subst ha hb
    refine hK _ ⟨c + 1, u &&& (u - 1), by omega, ?_, by omega⟩ ?_
    · show (M, L, nI c + 1, nI u &&& (nI u - 1)) = _
      rw [h2, nI_1]
    · show (nI u &&& (nI u - 1)).toInt.toNat < (nI u).toInt.toNat
      rw [h2, nI_ti (by omega), nI_ti (by omega)]
      omega
