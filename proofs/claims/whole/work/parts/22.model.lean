/-! rows rewritten place by place; the model's reads and acts -/
/-- the first k places new -/
def zup (f g : Nat → Int32) (k : Nat) : Nat → Int32 := fun j => if j < k then g j else f j
theorem zup_0 (f g : Nat → Int32) : zup f g 0 = f := by funext j; simp [zup]
theorem zup_at (f g : Nat → Int32) (k : Nat) : zup f g k k = f k := if_neg (Nat.lt_irrefl k)
theorem zup_in {f g : Nat → Int32} {k j : Nat} (h : j < k) : zup f g k j = g j := if_pos h
theorem zup_put (f g : Nat → Int32) (k : Nat) : upd (zup f g k) k (g k) = zup f g (k + 1) := by
  funext j
  unfold upd zup
  by_cases h : j = k
  · subst h; simp
  · by_cases h2 : j < k
    · simp [h, h2, Nat.lt_succ_of_lt h2]
    · simp [h, h2, show ¬ j < k + 1 by omega]
theorem zup_same {f g : Nat → Int32} {k : Nat} (h : g k = f k) : zup f g (k + 1) = zup f g k := by
  funext j
  unfold zup
  by_cases h1 : j = k
  · subst h1; simp [h]
  · by_cases h2 : j < k
    · simp [h2, Nat.lt_succ_of_lt h2]
    · simp [h2, show ¬ j < k + 1 by omega]
theorem zs_zr (M : Mm) (c : Nat) (f : Nat → Int32) (k : Nat) (v : Int32) : zs (zr M c f) c k v = zr M c (upd f k v) := by
  unfold zs
  rw [zr_eq, zr_zr]
theorem zr_comm {M : Mm} {c d : Nat} (h : c ≠ d) (f g : Nat → Int32) : zr (zr M c f) d g = zr (zr M d g) c f := by
  funext a
  unfold zr
  by_cases h1 : a = d
  · subst h1; simp [Ne.symm h]
  · simp [h1]
theorem zs_zr2 {M : Mm} {c d : Nat} (h : c ≠ d) (f g : Nat → Int32) (k : Nat) (v : Int32) : zs (zr (zr M c f) d g) c k v = zr (zr M c (upd f k v)) d g := by
  rw [zr_comm h, zs_zr, zr_comm (Ne.symm h)]
theorem zs_eq (M : Mm) (c k : Nat) (v : Int32) : zs M c k v c k = v := by unfold zs; rw [zr_eq]; simp [upd]
theorem zs_ne {M : Mm} {c a : Nat} (h : a ≠ c) (k : Nat) (v : Int32) : zs M c k v a = M a := by unfold zs; rw [zr_ne h]
theorem zs_nj {M : Mm} {c k j : Nat} (h : j ≠ k) (v : Int32) : zs M c k v c j = M c j := by unfold zs; rw [zr_eq]; simp [upd, h]
theorem zs_self (M : Mm) (c k : Nat) : zs M c k (M c k) = M := by
  unfold zs
  rw [show upd (M c) k (M c k) = M c from fa_upd_same rfl, zr_self]
theorem zs_zs (M : Mm) (c k : Nat) (v w : Int32) : zs (zs M c k v) c k w = zs M c k w := by
  unfold zs
  rw [zr_eq, zr_zr, fa_upd_twice]
/-- how many -/
def zct (P : Nat → Bool) : Nat → Nat
  | 0 => 0
  | k + 1 => (if P k then 1 else 0) + zct P k
theorem zct_t {P : Nat → Bool} {k : Nat} (h : P k = true) : zct P (k + 1) = 1 + zct P k := by rw [zct, if_pos h]
theorem zct_f {P : Nat → Bool} {k : Nat} (h : P k = false) : zct P (k + 1) = zct P k := by rw [zct, if_neg (by rw [h]; decide), Nat.zero_add]
theorem zct_cong {P Q : Nat → Bool} : ∀ {n : Nat}, (∀ k, k < n → P k = Q k) → zct P n = zct Q n
  | 0, _ => rfl
  | n + 1, h => by
    unfold zct
    rw [h n (by omega), zct_cong (fun k hk => h k (by omega))]
theorem zct_le (P : Nat → Bool) : ∀ n, zct P n ≤ n
  | 0 => Nat.le_refl 0
  | n + 1 => by
    have := zct_le P n
    unfold zct
    split <;> omega
theorem zpop_ct (t : Nat) : ∀ n, zpop t n = zct t.testBit n
  | 0 => rfl
  | n + 1 => by unfold zpop zct; rw [zpop_ct t n]
theorem zpop_bs (P : Nat → Bool) : zpop (zbs P 8) 8 = zct P 8 := by
  rw [zpop_ct]
  exact zct_cong (fun k hk => by rw [zbs_tb]; simp [hk])
theorem zbs_0 (P : Nat → Bool) : ∀ n, zbs P n = 0 ↔ zct P n = 0
  | 0 => by simp [zbs, zct]
  | n + 1 => by
    have := zbs_0 P n
    have h2 := Nat.two_pow_pos n
    unfold zbs zct
    split
    · constructor <;> intro h <;> omega
    · rw [this, Nat.zero_add]
theorem zct_0 {P : Nat → Bool} : ∀ {n : Nat}, zct P n = 0 ↔ ∀ k, k < n → P k = false
  | 0 => by simp [zct]
  | n + 1 => by
    have ih := zct_0 (P := P) (n := n)
    unfold zct
    constructor
    · intro h k hk
      by_cases hn : k = n
      · subst hn
        cases hP : P k with
        | false => rfl
        | true => rw [hP] at h; simp at h
      · exact ih.mp (by omega) k (by omega)
    · intro h
      rw [h n (by omega), ih.mpr (fun k hk => h k (by omega))]
      rfl
/-- an arm that grows, as an int -/
def zg32 (x w : Int32) : Int32 := nI (zgro x.toNatClampNeg w.toNatClampNeg)
theorem zg32_nI {a w : Nat} (ha : a < 256) (hw : w < 256) : zg32 (nI a) (nI w) = nI (zgro a w) := by
  unfold zg32
  rw [nI_clamp (by omega), nI_clamp (by omega)]
/-- an int below n -/
def zlt (n : Nat) (x : Int32) : Prop := ∃ a : Nat, a < n ∧ x = nI a
theorem sX3_grown32 {x w : Int32} {M : Mm} {L : Ml} {post : Int32 → Mm → Ml → Prop} (hx : zlt 256 x) (hw : zlt 256 w) (h : post (zg32 x w) M L) : wpX3_grown x w M L post := by
  obtain ⟨a, ha, rfl⟩ := hx
  obtain ⟨v, hv, rfl⟩ := hw
  rw [zg32_nI ha hv] at h
  exact sX3_grown ha hv h
theorem z_win (a i : Nat) : 4 * (2 * a / 2 ^ (i + 2) % 2) + 2 * (2 * a / 2 ^ (i + 1) % 2) + 2 * a / 2 ^ i % 2 = 2 * a / 2 ^ i % 8 := by
  have e1 : 2 * a / 2 ^ (i + 1) = 2 * a / 2 ^ i / 2 := by rw [Nat.pow_succ, Nat.div_div_eq_div_mul]
  have e2 : 2 * a / 2 ^ (i + 2) = 2 * a / 2 ^ i / 4 := by rw [Nat.pow_add, Nat.div_div_eq_div_mul]
  rw [e1, e2]
  omega
theorem sX9_grown {a w : Nat} {M : Mm} {L : Ml} {post : Int32 → Mm → Ml → Prop} (ha : a < 256) (hw : w < 256) (h : post (nI (zgro a w)) M L) : wpX9_grown (nI a) (nI w) M L post := by
  unfold wpX9_grown
  intro wide hwide
  have ew : wide = nI (2 * a) := by
    rw [hwide, pk_shlN ((1 : Int32) &&& 31) 1 (by decide) (by omega)]
    congr 1
    omega
  subst ew
  unfold wlX9_grown_9
  refine zlp_for 8 (fun k => (M, L, nI w, nI (zbs (fun i => w.testBit (2 * a / 2 ^ i % 8)) k), nI (2 * a), nI k)) ?_ ?_
  · intro k K hk hK
    show wpX9_grown_9 post _ M L (nI w) (nI _) (nI (2 * a)) (nI k)
    unfold wpX9_grown_9
    refine pk_le 8 k (fun h => by omega) (fun _ => ?_)
    have sh : ∀ j, j < 11 → nI (2 * a) >>> (nI j &&& 31) &&& (1 : Int32) = nI (2 * a / 2 ^ j % 2) := fun j hj => by
      rw [pk_shrN (by omega) _ j (z_sl j (by omega)), pk_andN (Nat.lt_of_le_of_lt (Nat.div_le_self _ _) (by omega)) 1 (by decide), Nat.pow_one]
    intro x hx y hy z hz
    rw [sh k (by omega)] at hx
    rw [show nI k + 1 = nI (k + 1) from nI_1 k, sh (k + 1) (by omega)] at hy
    rw [show nI k + 2 = nI (k + 2) from nI_add k 2, sh (k + 2) (by omega)] at hz
    have ei : ((4 : Int32) * z + (2 : Int32) * y) + x = nI (2 * a / 2 ^ k % 8) := by
      rw [hx, hy, hz, show (4 : Int32) = nI 4 from rfl, show (2 : Int32) = nI 2 from rfl, pk_mul, pk_mul, nI_add, nI_add, z_win]
    intro u hu v hv
    have hm : 2 * a / 2 ^ k % 8 < 8 := Nat.mod_lt _ (by decide)
    rw [ei, z_bit (by omega) (by omega)] at hu
    have e : u = nI (zbs (fun i => w.testBit (2 * a / 2 ^ i % 8)) (k + 1)) := by
      rw [hu]
      by_cases hb : w.testBit (2 * a / 2 ^ k % 8) = true
      · rw [if_pos hb, z_or_bs (by omega), zbs_t (P := fun i => w.testBit (2 * a / 2 ^ i % 8)) hb]
      · rw [if_neg hb, zbs_f (P := fun i => w.testBit (2 * a / 2 ^ i % 8)) (by simpa using hb), show (0 : Int32) <<< (nI k &&& 31) = nI 0 by rw [show (0 : Int32) = nI 0 from rfl, pk_shlN _ k (z_sl k (by omega)) (by rw [Nat.zero_mul]; decide), Nat.zero_mul], fa_or, Nat.or_zero]
    rw [e, hv, nI_1]
    exact hK
  · intro K
    exact pk_le 8 8 (fun _ => h) (fun h => by omega)
theorem sX9_grown32 {x w : Int32} {M : Mm} {L : Ml} {post : Int32 → Mm → Ml → Prop} (hx : zlt 256 x) (hw : zlt 256 w) (h : post (zg32 x w) M L) : wpX9_grown x w M L post := by
  obtain ⟨a, ha, rfl⟩ := hx
  obtain ⟨v, hv, rfl⟩ := hw
  rw [zg32_nI ha hv] at h
  exact sX9_grown ha hv h
section ZM
variable {M : Mm} {L : Ml} {post : Int32 → Mm → Ml → Prop} {t : Nat}
theorem sX9_isFlake (et : M 42 0 = nI t) (ht : t < 256) {x : Int32} (h1 : ∀ k, k < 8 → x = nI k → t.testBit k = true → post 1 M L) (h2 : ∀ k, k < 8 → x = nI k → t.testBit k = false → post 0 M L) (h0 : ¬ (0 ≤ x.toInt ∧ x.toInt < 8) → post 0 M L) : wpX9_isFlake x M L post := by
  unfold wpX9_isFlake wpX9_isFlake_28 wpX9_isFlake_29
  refine sX9_in 0 7 (fun h => ?_) (fun h => ?_)
  · obtain ⟨k, hk, rfl⟩ := z_rng (n := 8) (x := x) (by omega) (by decide)
    refine c1 ?_
    rw [et, z_bit (by omega) (by omega)]
    cases hb : t.testBit k with
    | true => exact nt_ rfl (z01t (P := fun r => post r M L) (h1 k hk rfl hb))
    | false => exact nf_ (by decide) (z01f (P := fun r => post r M L) (h2 k hk rfl hb))
  · exact c0 (z01f (P := fun r => post r M L) (h0 (by omega)))
theorem z_outk {k : Nat} (hk : k < 8) : 0 ≤ (nI k).toInt ∧ (nI k).toInt < 8 := by rw [nI_ti (by omega)]; omega
theorem nI_inj {a b : Nat} (ha : a < 2147483648) (hb : b < 2147483648) (h : nI a = nI b) : a = b := (nI_eq ha hb).mp h
theorem sX9_isFlake_k (et : M 42 0 = nI t) (ht : t < 256) {k : Nat} (hk : k < 8) (h1 : t.testBit k = true → post 1 M L) (h0 : t.testBit k = false → post 0 M L) : wpX9_isFlake (nI k) M L post :=
  sX9_isFlake et ht (fun j hj e hb => h1 (by rw [nI_inj (by omega) (by omega) e]; exact hb)) (fun j hj e hb => h0 (by rw [nI_inj (by omega) (by omega) e]; exact hb)) (fun h => absurd (z_outk hk) h)
/-- a flake that is there, above 0 -/
def zab (t : Nat) (M : Mm) (k : Nat) : Bool := t.testBit k && decide (¬ M 45 k ≤ 0)
theorem sX9_isAbove (et : M 42 0 = nI t) (ht : t < 256) {k : Nat} (hk : k < 8) (h1 : zab t M k = true → post 1 M L) (h0 : zab t M k = false → post 0 M L) : wpX9_isAbove (nI k) M L post := by
  unfold wpX9_isAbove wpX9_isAbove_21 wpX9_isAbove_22
  have ek : (nI k).toNatClampNeg = k := nI_clamp (by omega)
  refine sX9_isFlake_k et ht hk (fun hb => c1 ⟨vp_in_nI hk (by decide), ?_⟩) (fun hb => c0 (z01f (P := fun r => post r M L) (h0 (by simp [zab, hb]))))
  rw [ek]
  refine ⟨fun h => z01f (P := fun r => post r M L) (h0 (by simp [zab, h])), fun h => z01t (P := fun r => post r M L) (h1 (by simp [zab, hb, h]))⟩
theorem sX9_aboveMany (et : M 42 0 = nI t) (ht : t < 256) (h : post (nI (zct (zab t M) 8)) M L) : wpX9_aboveMany M L post := by
  unfold wpX9_aboveMany wlX9_aboveMany_4
  refine zlp_for 8 (fun k => (M, L, nI (zct (zab t M) k), nI k)) ?_ ?_
  · intro k K hk hK
    show wpX9_aboveMany_4 post _ M L (nI _) (nI k)
    unfold wpX9_aboveMany_4 wpX9_aboveMany_24
    refine pk_le 8 k (fun h => by omega) (fun _ => sX9_isAbove et ht hk (fun hb => c1 ?_) (fun hb => c0 ?_))
    · intro x hx y hy
      rw [zct_t hb, ← Nat.add_comm] at hK
      rw [hx, hy, nI_1, show (1 : Int32) = nI 1 from rfl, nI_add]
      exact hK
    · intro x hx y hy
      rw [zct_f hb] at hK
      rw [hx, hy, nI_1, Int32.add_zero]
      exact hK
  · intro K
    exact pk_le 8 8 (fun _ => h) (fun h => by omega)
theorem sX9_flakesOf (et : M 42 0 = nI t) (ht : t < 256) {x : Int32} (h : post (nI (zbs (fun k => t.testBit k && decide (M 47 k = x)) 8)) M L) : wpX9_flakesOf x M L post := by
  unfold wpX9_flakesOf wlX9_flakesOf_4
  refine zlp_for 8 (fun k => (M, L, x, nI (zbs (fun k => t.testBit k && decide (M 47 k = x)) k), nI k)) ?_ ?_
  · intro k K hk hK
    have ek : (nI k).toNatClampNeg = k := nI_clamp (by omega)
    show wpX9_flakesOf_4 post _ M L x (nI _) (nI k)
    unfold wpX9_flakesOf_4 wpX9_flakesOf_35 wpX9_flakesOf_36
    have no : (t.testBit k && decide (M 47 k = x)) = false → ∀ a : Int32, a = nI (zbs (fun k => t.testBit k && decide (M 47 k = x)) k) ||| 0 → ∀ b : Int32, b = nI k + 1 → K (M, L, x, a, b) := fun hb a ha b hb2 => by
      rw [zbs_f (P := fun k => t.testBit k && decide (M 47 k = x)) hb] at hK
      rw [ha, hb2, nI_1, Int32.or_zero]
      exact hK
    refine pk_le 8 k (fun h => by omega) (fun _ => sX9_isFlake_k et ht hk (fun hb => c1 ⟨vp_in_nI hk (by decide), ?_⟩) (fun hb => c0 (no (by simp [hb]))))
    rw [ek]
    refine ⟨fun hc => no (by simp [hc]), fun hc a ha b hb2 => ?_⟩
    rw [zbs_t (P := fun k => t.testBit k && decide (M 47 k = x)) (by simp [hb, hc]), ← z_or_bs (by omega)] at hK
    rw [ha, hb2, nI_1]
    exact hK
  · intro K
    exact pk_le 8 8 (fun _ => h) (fun h => by omega)
theorem sX9_postedNow (et : M 42 0 = nI t) (ht : t < 256) (h : post (nI (zbs (fun k => t.testBit k && decide (M 47 k = M 46 k)) 8)) M L) : wpX9_postedNow M L post := by
  unfold wpX9_postedNow wlX9_postedNow_4
  refine zlp_for 8 (fun k => (M, L, nI (zbs (fun k => t.testBit k && decide (M 47 k = M 46 k)) k), nI k)) ?_ ?_
  · intro k K hk hK
    have ek : (nI k).toNatClampNeg = k := nI_clamp (by omega)
    show wpX9_postedNow_4 post _ M L (nI _) (nI k)
    unfold wpX9_postedNow_4 wpX9_postedNow_40 wpX9_postedNow_41
    have no : (t.testBit k && decide (M 47 k = M 46 k)) = false → ∀ a : Int32, a = nI (zbs (fun k => t.testBit k && decide (M 47 k = M 46 k)) k) ||| 0 → ∀ b : Int32, b = nI k + 1 → K (M, L, a, b) := fun hb a ha b hb2 => by
      rw [zbs_f (P := fun k => t.testBit k && decide (M 47 k = M 46 k)) hb] at hK
      rw [ha, hb2, nI_1, Int32.or_zero]
      exact hK
    refine pk_le 8 k (fun h => by omega) (fun _ => sX9_isFlake_k et ht hk (fun hb => c1 ⟨vp_in_nI hk (by decide), vp_in_nI hk (by decide), ?_⟩) (fun hb => c0 (no (by simp [hb]))))
    rw [ek]
    refine ⟨fun hc => no (by simp [hc]), fun hc a ha b hb2 => ?_⟩
    rw [zbs_t (P := fun k => t.testBit k && decide (M 47 k = M 46 k)) (by simp [hb, hc]), ← z_or_bs (by omega)] at hK
    rw [ha, hb2, nI_1]
    exact hK
  · intro K
    exact pk_le 8 8 (fun _ => h) (fun h => by omega)
theorem sX9_riverNow (et : M 42 0 = nI t) (ht : t < 256) (h : post (nI (zbs (fun k => t.testBit k && decide (¬ 0 ≤ M 44 k)) 8)) M L) : wpX9_riverNow M L post := by
  unfold wpX9_riverNow wlX9_riverNow_4
  refine zlp_for 8 (fun k => (M, L, nI (zbs (fun k => t.testBit k && decide (¬ 0 ≤ M 44 k)) k), nI k)) ?_ ?_
  · intro k K hk hK
    have ek : (nI k).toNatClampNeg = k := nI_clamp (by omega)
    show wpX9_riverNow_4 post _ M L (nI _) (nI k)
    unfold wpX9_riverNow_4 wpX9_riverNow_34 wpX9_riverNow_35
    have no : (t.testBit k && decide (¬ 0 ≤ M 44 k)) = false → ∀ a : Int32, a = nI (zbs (fun k => t.testBit k && decide (¬ 0 ≤ M 44 k)) k) ||| 0 → ∀ b : Int32, b = nI k + 1 → K (M, L, a, b) := fun hb a ha b hb2 => by
      rw [zbs_f (P := fun k => t.testBit k && decide (¬ 0 ≤ M 44 k)) hb] at hK
      rw [ha, hb2, nI_1, Int32.or_zero]
      exact hK
    refine pk_le 8 k (fun h => by omega) (fun _ => sX9_isFlake_k et ht hk (fun hb => c1 ⟨vp_in_nI hk (by decide), ?_⟩) (fun hb => c0 (no (by simp [hb]))))
    rw [ek]
    refine ⟨fun hc => no (by simp [hc]), fun hc a ha b hb2 => ?_⟩
    rw [zbs_t (P := fun k => t.testBit k && decide (¬ 0 ≤ M 44 k)) (by simp [hb, hc]), ← z_or_bs (by omega)] at hK
    rw [ha, hb2, nI_1]
    exact hK
  · intro K
    exact pk_le 8 8 (fun _ => h) (fun h => by omega)
end ZM
