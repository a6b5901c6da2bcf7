/-! gusts: the ways -/
def gw (f a b : Nat) : Nat → Nat → Nat
  | 0, p => if p = f then 1 else 0
  | h + 1, p => gw f a b h p * (10 - a - b) + (if p = 0 then 0 else gw f a b h (p - 1)) * b + (if p = 15 then 0 else gw f a b h (p + 1)) * a
def gon (f a b : Nat) : Nat → Nat
  | 0 => 0
  | h + 1 => 10 * gon f a b h + a * gw f a b h 0 + b * gw f a b h 15
def su (w : Nat → Nat) : Nat → Nat
  | 0 => 0
  | n + 1 => su w n + w n
theorem su_add (v w : Nat → Nat) : ∀ n, su (fun p => v p + w p) n = su v n + su w n
  | 0 => rfl
  | n + 1 => by
    unfold su
    rw [su_add v w n]
    omega
theorem su_mul (w : Nat → Nat) (c : Nat) : ∀ n, su (fun p => w p * c) n = su w n * c
  | 0 => by simp [su]
  | n + 1 => by
    unfold su
    rw [su_mul w c n, Nat.add_mul]
theorem su_cong {v w : Nat → Nat} : ∀ {n}, (∀ p, p < n → v p = w p) → su v n = su w n
  | 0, _ => rfl
  | n + 1, h => by
    unfold su
    rw [su_cong (fun p hp => h p (by omega)), h n (by omega)]
theorem su_up (w : Nat → Nat) : ∀ n, su (fun p => if p = 0 then 0 else w (p - 1)) (n + 1) = su w n
  | 0 => rfl
  | n + 1 => by
    have ih := su_up w n
    show su (fun p => if p = 0 then 0 else w (p - 1)) (n + 1) + (if n + 1 = 0 then 0 else w (n + 1 - 1)) = su w n + w n
    rw [ih, if_neg (by omega), Nat.add_sub_cancel]
theorem su_dn (w : Nat → Nat) : ∀ n, su (fun p => w (p + 1)) n + w 0 = su w (n + 1)
  | 0 => by
    show 0 + w 0 = 0 + w 0
    rfl
  | n + 1 => by
    have ih := su_dn w n
    show su (fun p => w (p + 1)) n + w (n + 1) + w 0 = su w (n + 1) + w (n + 1)
    omega
theorem gw_all {f a b : Nat} (hf : f < 16) (hab : a + b ≤ 10) : ∀ h, su (gw f a b h) 16 + gon f a b h = 10 ^ h
  | 0 => by
    have h1 : ∀ n, su (gw f a b 0) n = if f < n then 1 else 0 := by
      intro n
      induction n with
      | zero => rfl
      | succ n ih =>
        show su (gw f a b 0) n + (if n = f then 1 else 0) = _
        rw [ih]
        by_cases q : n = f
        · rw [if_pos q, if_neg (by omega), if_pos (by omega)]
        · rw [if_neg q]
          by_cases q2 : f < n
          · rw [if_pos q2, if_pos (by omega)]
          · rw [if_neg q2, if_neg (by omega)]
    rw [h1, if_pos hf]
    rfl
  | h + 1 => by
    have ih := gw_all hf hab h
    obtain ⟨w, hw⟩ : ∃ w, w = gw f a b h := ⟨_, rfl⟩
    have e1 : su (gw f a b (h + 1)) 16 = su w 16 * (10 - a - b) + su w 15 * b + su (fun p => w (p + 1)) 15 * a := by
      have c1 : su (gw f a b (h + 1)) 16 = su (fun p => (w p * (10 - a - b) + (if p = 0 then 0 else w (p - 1)) * b) + (if p = 15 then 0 else w (p + 1)) * a) 16 := su_cong (fun p _ => by rw [hw]; rfl)
      rw [c1, su_add, su_add, su_mul, su_mul (fun p => if p = 0 then 0 else w (p - 1)), su_mul (fun p => if p = 15 then 0 else w (p + 1)), su_up w 15]
      have c2 : su (fun p => if p = 15 then 0 else w (p + 1)) 16 = su (fun p => w (p + 1)) 15 := by
        show su (fun p => if p = 15 then 0 else w (p + 1)) 15 + 0 = _
        rw [Nat.add_zero]
        exact su_cong (fun p hp => if_neg (by omega))
      rw [c2]
    have e2 : su w 16 = su w 15 + w 15 := rfl
    have e3 := su_dn w 15
    have e4 : gon f a b (h + 1) = 10 * gon f a b h + a * w 0 + b * w 15 := by rw [hw]; rfl
    rw [← hw] at ih
    rw [e1, e4, Nat.pow_succ, ← ih]
    obtain ⟨c, hc⟩ : ∃ c, 10 - a - b = c := ⟨_, rfl⟩
    rw [hc]
    have t1 : su w 16 * b = su w 15 * b + b * w 15 := by rw [e2, Nat.add_mul, Nat.mul_comm (w 15)]
    have t2 : su w 16 * a = su (fun p => w (p + 1)) 15 * a + a * w 0 := by rw [← e3, Nat.add_mul, Nat.mul_comm (w 0)]
    have t3 : su w 16 * c + su w 16 * b + su w 16 * a = su w 16 * 10 := by rw [← Nat.mul_add, ← Nat.mul_add]; congr 1; omega
    rw [Nat.add_mul]
    omega
def ptk (w : Nat → Nat) (o a b : Nat) : Nat → Nat → Nat
  | 0, q => if q = 16 then 10 * o else 0
  | k + 1, q => ptk w o a b k q + (if q = (if k = 0 then 16 else k - 1) then a * w k else 0) + (if q = k + 1 then b * w k else 0) + (if q = k then (10 - a - b) * w k else 0)
theorem ptk_lo {w : Nat → Nat} {o a b q : Nat} (hq : q < 16) : ∀ k, ptk w o a b k q = (if q < k then (10 - a - b) * w q else 0) + (if 1 ≤ q ∧ q - 1 < k then b * w (q - 1) else 0) + (if q + 1 < k then a * w (q + 1) else 0)
  | 0 => by
    unfold ptk
    rw [if_neg (by omega), if_neg (by omega), if_neg (by omega), if_neg (by omega)]
  | k + 1 => by
    have ih := ptk_lo (w := w) (o := o) (a := a) (b := b) hq k
    unfold ptk
    rw [ih]
    have es : (if q = (if k = 0 then 16 else k - 1) then a * w k else 0) = if q + 1 = k then a * w k else 0 := by
      by_cases hk : k = 0
      · rw [if_pos hk, if_neg (by omega), if_neg (by omega)]
      · rw [if_neg hk]
        by_cases e : q = k - 1
        · rw [if_pos e, if_pos (by omega)]
        · rw [if_neg e, if_neg (by omega)]
    rw [es]
    have x1 : (if q < k then (10 - a - b) * w q else 0) + (if q = k then (10 - a - b) * w k else 0) = if q < k + 1 then (10 - a - b) * w q else 0 := by
      by_cases e : q = k
      · subst e; rw [if_neg (by omega), if_pos rfl, if_pos (by omega), Nat.zero_add]
      · rw [if_neg e, Nat.add_zero]
        by_cases e2 : q < k
        · rw [if_pos e2, if_pos (by omega)]
        · rw [if_neg e2, if_neg (by omega)]
    have x2 : (if 1 ≤ q ∧ q - 1 < k then b * w (q - 1) else 0) + (if q = k + 1 then b * w k else 0) = if 1 ≤ q ∧ q - 1 < k + 1 then b * w (q - 1) else 0 := by
      by_cases e : q = k + 1
      · subst e; rw [if_neg (by omega), if_pos rfl, if_pos (by omega), Nat.zero_add, Nat.add_sub_cancel]
      · rw [if_neg e, Nat.add_zero]
        by_cases e2 : 1 ≤ q ∧ q - 1 < k
        · rw [if_pos e2, if_pos (by omega)]
        · rw [if_neg e2, if_neg (by omega)]
    have x3 : (if q + 1 < k then a * w (q + 1) else 0) + (if q + 1 = k then a * w k else 0) = if q + 1 < k + 1 then a * w (q + 1) else 0 := by
      by_cases e : q + 1 = k
      · rw [if_neg (by omega), if_pos e, if_pos (by omega), Nat.zero_add, e]
      · rw [if_neg e, Nat.add_zero]
        by_cases e2 : q + 1 < k
        · rw [if_pos e2, if_pos (by omega)]
        · rw [if_neg e2, if_neg (by omega)]
    rw [← x1, ← x2, ← x3]
    omega
theorem ptk_hi {w : Nat → Nat} {o a b : Nat} : ∀ k, k ≤ 16 → ptk w o a b k 16 = 10 * o + (if 1 ≤ k then a * w 0 else 0) + (if k = 16 then b * w 15 else 0)
  | 0, _ => rfl
  | k + 1, hk => by
    have ih := ptk_hi (w := w) (o := o) (a := a) (b := b) k (by omega)
    unfold ptk
    rw [ih, if_neg (show ¬ k = 16 by omega), if_neg (show ¬ 16 = k by omega), if_pos (show 1 ≤ k + 1 by omega)]
    by_cases h0 : k = 0
    · subst h0
      rw [if_neg (by omega), if_pos rfl, if_pos rfl, if_neg (by omega), if_neg (by omega)]
      omega
    · rw [if_pos (show 1 ≤ k by omega), if_neg (show ¬ 16 = (if k = 0 then 16 else k - 1) by rw [if_neg h0]; omega)]
      by_cases h1 : k + 1 = 16
      · have : k = 15 := by omega
        subst this
        rw [if_pos rfl]
        rfl
      · rw [if_neg h1, if_neg (by omega)]
theorem ptk_gw {f a b h q : Nat} (hq : q < 16) : ptk (gw f a b h) (gon f a b h) a b 16 q = gw f a b (h + 1) q := by
  rw [ptk_lo hq 16, if_pos hq]
  show _ = gw f a b h q * (10 - a - b) + (if q = 0 then 0 else gw f a b h (q - 1)) * b + (if q = 15 then 0 else gw f a b h (q + 1)) * a
  have y1 : (if 1 ≤ q ∧ q - 1 < 16 then b * gw f a b h (q - 1) else 0) = (if q = 0 then 0 else gw f a b h (q - 1)) * b := by
    by_cases e : q = 0
    · rw [if_neg (by omega), if_pos e, Nat.zero_mul]
    · rw [if_pos (by omega), if_neg e, Nat.mul_comm]
  have y2 : (if q + 1 < 16 then a * gw f a b h (q + 1) else 0) = (if q = 15 then 0 else gw f a b h (q + 1)) * a := by
    by_cases e : q = 15
    · rw [if_neg (by omega), if_pos e, Nat.zero_mul]
    · rw [if_pos (by omega), if_neg e, Nat.mul_comm]
  rw [y1, y2, Nat.mul_comm (10 - a - b)]
theorem ptk_go {f a b h : Nat} : ptk (gw f a b h) (gon f a b h) a b 16 16 = gon f a b (h + 1) := by
  rw [ptk_hi 16 (Nat.le_refl 16), if_pos (by decide), if_pos rfl]
  rfl
