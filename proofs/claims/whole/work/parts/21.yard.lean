/-! ===== Int32 by its bits: bt x i ===== -/
def bt (x : Int32) (i : Nat) : Bool := x.toBitVec.getLsbD i
theorem b_ext {x y : Int32} (h : ∀ i, i < 32 → bt x i = bt y i) : x = y := Int32.toBitVec_inj.mp (BitVec.eq_of_getLsbD_eq (fun i hi => h i hi))
theorem b_or (x y : Int32) (i : Nat) : bt (x ||| y) i = (bt x i || bt y i) := by unfold bt; rw [Int32.toBitVec_or, BitVec.getLsbD_or]
theorem b_and (x y : Int32) (i : Nat) : bt (x &&& y) i = (bt x i && bt y i) := by unfold bt; rw [Int32.toBitVec_and, BitVec.getLsbD_and]
theorem b_xor (x y : Int32) (i : Nat) : bt (x ^^^ y) i = (bt x i ^^ bt y i) := by unfold bt; rw [Int32.toBitVec_xor, BitVec.getLsbD_xor]
theorem b_big {x : Int32} {i : Nat} (h : 32 ≤ i) : bt x i = false := BitVec.getLsbD_of_ge _ _ h
theorem b_255 (i : Nat) : bt 255 i = decide (i < 8) := by
  rcases Nat.lt_or_ge i 32 with h | h
  · exact (by decide +kernel : ∀ i, i < 32 → bt 255 i = decide (i < 8)) i h
  · rw [b_big h, decide_eq_false (by omega)]
theorem b_65535 (i : Nat) : bt 65535 i = decide (i < 16) := by
  rcases Nat.lt_or_ge i 32 with h | h
  · exact (by decide +kernel : ∀ i, i < 32 → bt 65535 i = decide (i < 16)) i h
  · rw [b_big h, decide_eq_false (by omega)]
theorem b_m1 : ∀ i, i < 32 → bt (-1) i = true := by decide +kernel
theorem b_0 (i : Nat) : bt 0 i = false := BitVec.getLsbD_zero
theorem s_l : ∀ n, n < 32 → ((nI n &&& 31).toBitVec.smod 32).toNat = n := by decide +kernel
theorem s_u : ∀ n, n < 32 → (((nI n).toUInt32 &&& Int32.toUInt32 31).toBitVec % 32).toNat = n := by decide +kernel
theorem b_shl (n : Nat) (hn : n < 32) (x : Int32) {i : Nat} (hi : i < 32) : bt (x <<< (nI n &&& 31)) i = (decide (n ≤ i) && bt x (i - n)) := by
  unfold bt
  rw [Int32.toBitVec_shiftLeft]
  show (x.toBitVec <<< ((nI n &&& 31).toBitVec.smod 32).toNat).getLsbD i = _
  rw [s_l n hn, BitVec.getLsbD_shiftLeft]
  rcases Nat.lt_or_ge i n with h | h
  · simp [h, Nat.not_le.mpr h]
  · simp [hi, h, Nat.not_lt.mpr h]
theorem b_ushr (n : Nat) (hn : n < 32) (x : Int32) (i : Nat) : bt ((x.toUInt32 >>> ((nI n).toUInt32 &&& Int32.toUInt32 31)).toInt32) i = bt x (n + i) := by
  show (x.toUInt32 >>> ((nI n).toUInt32 &&& Int32.toUInt32 31)).toBitVec.getLsbD i = x.toUInt32.toBitVec.getLsbD (n + i)
  rw [UInt32.toBitVec_shiftRight]
  show (x.toUInt32.toBitVec >>> (((nI n).toUInt32 &&& Int32.toUInt32 31).toBitVec % 32).toNat).getLsbD i = _
  rw [s_u n hn, BitVec.getLsbD_ushiftRight]
theorem b_sshr (n : Nat) (hn : n < 32) (x : Int32) {i : Nat} (hi : i < 32) : bt (x >>> (nI n &&& 31)) i = if n + i < 32 then bt x (n + i) else bt x 31 := by
  unfold bt
  rw [Int32.toBitVec_shiftRight]
  show (x.toBitVec.sshiftRight ((nI n &&& 31).toBitVec.smod 32).toNat).getLsbD i = _
  rw [s_l n hn, BitVec.getLsbD_sshiftRight, BitVec.msb_eq_getLsbD_last]
  simp [hi]
theorem b_shl8 (x : Int32) {i : Nat} (hi : i < 32) : bt (x <<< ((8 : Int32) &&& 31)) i = (decide (8 ≤ i) && bt x (i - 8)) := b_shl 8 (by omega) x hi
theorem b_shl16 (x : Int32) {i : Nat} (hi : i < 32) : bt (x <<< ((16 : Int32) &&& 31)) i = (decide (16 ≤ i) && bt x (i - 16)) := b_shl 16 (by omega) x hi
theorem b_shl24 (x : Int32) {i : Nat} (hi : i < 32) : bt (x <<< ((24 : Int32) &&& 31)) i = (decide (24 ≤ i) && bt x (i - 24)) := b_shl 24 (by omega) x hi
theorem b_sshr8 (x : Int32) {i : Nat} (hi : i < 32) : bt (x >>> ((8 : Int32) &&& 31)) i = if 8 + i < 32 then bt x (8 + i) else bt x 31 := b_sshr 8 (by omega) x hi
theorem z_bt (t i : Nat) : bt (nI t) i = (decide (i < 32) && t.testBit i) := by
  unfold bt
  show (BitVec.ofNat 32 t).getLsbD i = _
  rw [BitVec.getLsbD_ofNat]
theorem zbs_t {P : Nat → Bool} {k : Nat} (h : P k = true) : zbs P (k + 1) = 2 ^ k + zbs P k := by rw [zbs, if_pos h]
theorem zbs_f {P : Nat → Bool} {k : Nat} (h : P k = false) : zbs P (k + 1) = zbs P k := by rw [zbs, if_neg (by rw [h]; decide)]
theorem z_tb8 {t i : Nat} (ht : t < 256) (hi : ¬ i < 8) : t.testBit i = false := Nat.testBit_lt_two_pow (Nat.lt_of_lt_of_le ht (Nat.pow_le_pow_right (n := 2) (by decide) (show 8 ≤ i by omega)))
theorem z_and (P : Nat → Bool) (t : Nat) : nI (zbs P 8) &&& nI t = nI (zbs (fun k => P k && t.testBit k) 8) := by
  rw [fa_and]
  congr 1
  apply Nat.eq_of_testBit_eq
  intro i
  rw [Nat.testBit_and, zbs_tb, zbs_tb, Bool.and_assoc]
theorem z_andnot (P : Nat → Bool) {t : Nat} (ht : t < 256) : nI t &&& (nI (zbs P 8) ^^^ (-1 : Int32)) = nI (zbs (fun k => t.testBit k && !P k) 8) := by
  apply b_ext
  intro i hi
  rw [b_and, b_xor, b_m1 i hi, z_bt, z_bt, z_bt, zbs_tb, zbs_tb]
  by_cases h : i < 8
  · simp [h, hi]
  · simp [h, z_tb8 ht h]
/-- how an arm grows -/
def zgro (a w : Nat) : Nat := zbs (fun i => w.testBit (2 * a / 2 ^ i % 8)) 8
theorem zgro_lt (a w : Nat) : zgro a w < 256 := zbs_lt _ 8
theorem sX3_around {a c : Nat} {M : Mm} {L : Ml} {post : Int32 → Mm → Ml → Prop} (ha : a < 256) (hc : c < 8) (h : post (nI (2 * a / 2 ^ c % 8)) M L) : wpX3_around (nI a) (nI c) M L post := by
  unfold wpX3_around
  rw [pk_shlN ((1 : Int32) &&& 31) 1 (by decide) (by omega), pk_shrN (by omega) _ c (z_sl c (by omega)), pk_andN (Nat.lt_of_le_of_lt (Nat.div_le_self _ _) (by omega)) 3 (by decide), show a * 2 ^ 1 = 2 * a by omega]
  exact h
theorem sX3_grown {a w : Nat} {M : Mm} {L : Ml} {post : Int32 → Mm → Ml → Prop} (ha : a < 256) (hw : w < 256) (h : post (nI (zgro a w)) M L) : wpX3_grown (nI a) (nI w) M L post := by
  unfold wpX3_grown wlX3_grown_4
  refine zlp_for 8 (fun k => (M, L, nI a, nI w, nI (zbs (fun i => w.testBit (2 * a / 2 ^ i % 8)) k), nI k)) ?_ ?_
  · intro k K hk hK
    show wpX3_grown_4 post _ M L (nI a) (nI w) (nI _) (nI k)
    unfold wpX3_grown_4
    refine pk_le 8 k (fun h => by omega) (fun _ => sX3_around ha hk (sX8_bit (by omega) (Nat.lt_of_lt_of_le (Nat.mod_lt _ (by decide)) (by decide)) ?_))
    intro x hx y hy
    have e : x = nI (zbs (fun i => w.testBit (2 * a / 2 ^ i % 8)) (k + 1)) := by
      rw [hx]
      by_cases hb : w.testBit (2 * a / 2 ^ k % 8) = true
      · rw [if_pos hb, z_or_bs (by omega), zbs_t (P := fun i => w.testBit (2 * a / 2 ^ i % 8)) hb]
      · rw [if_neg hb, zbs_f (P := fun i => w.testBit (2 * a / 2 ^ i % 8)) (by simpa using hb), show (0 : Int32) <<< (nI k &&& 31) = nI 0 by rw [show (0 : Int32) = nI 0 from rfl, pk_shlN _ k (z_sl k (by omega)) (by rw [Nat.zero_mul]; decide), Nat.zero_mul], fa_or, Nat.or_zero]
    rw [e, hy, nI_1]
    exact hK
  · intro K
    exact pk_le 8 8 (fun _ => h) (fun h => by omega)
/-! the yard's reads -/
section ZY
variable {b : Nat} {M : Mm} {L : Ml} {post : Int32 → Mm → Ml → Prop}
theorem sX7_falling (h : post (nI (zbs (fun k => decide (¬ M (b + 3) k ≤ 0)) 8)) M L) : wpX7_falling b M L post := by
  unfold wpX7_falling wlX7_falling_4
  refine zlp_for 8 (fun k => (M, L, nI (zbs (fun k => decide (¬ M (b + 3) k ≤ 0)) k), nI k)) ?_ ?_
  · intro k K hk hK
    have ek : (nI k).toNatClampNeg = k := nI_clamp (by omega)
    show wpX7_falling_4 b post _ M L (nI _) (nI k)
    unfold wpX7_falling_4 wpX7_falling_25
    refine pk_le 8 k (fun h => by omega) (fun _ => ⟨vp_in_nI hk (by decide), ?_⟩)
    rw [ek]
    refine ⟨fun hc a ha => ?_, fun hc x hx a ha => ?_⟩
    · rw [zbs_f (by simpa using hc)] at hK
      rw [ha, nI_1]; exact hK
    · rw [zbs_t (by simpa using hc), ← z_or_bs (by omega)] at hK
      rw [ha, nI_1, hx]; exact hK
  · intro K
    exact pk_le 8 8 (fun _ => h) (fun h => by omega)
theorem sX7_inRiver (h : post (nI (zbs (fun k => decide (M (b + 2) k = -6)) 8) &&& M b 0) M L) : wpX7_inRiver b M L post := by
  unfold wpX7_inRiver wlX7_inRiver_4
  refine zlp_for 8 (fun k => (M, L, nI (zbs (fun k => decide (M (b + 2) k = -6)) k), nI k)) ?_ ?_
  · intro k K hk hK
    have ek : (nI k).toNatClampNeg = k := nI_clamp (by omega)
    show wpX7_inRiver_4 b post _ M L (nI _) (nI k)
    unfold wpX7_inRiver_4 wpX7_inRiver_27
    refine pk_le 8 k (fun h => by omega) (fun _ => ⟨vp_in_nI hk (by decide), ?_⟩)
    rw [ek]
    refine ⟨fun hc a ha => ?_, fun hc x hx a ha => ?_⟩
    · rw [zbs_f (by simpa using hc)] at hK
      rw [ha, nI_1]; exact hK
    · rw [zbs_t (by simpa using hc), ← z_or_bs (by omega)] at hK
      rw [ha, nI_1, hx]; exact hK
  · intro K
    exact pk_le 8 8 (fun _ => h) (fun h => by omega)
theorem sX7_flakesWith {x : Int32} (h : post (nI (zbs (fun k => decide (M (b + 5) k = x)) 8) &&& M b 0) M L) : wpX7_flakesWith b x M L post := by
  unfold wpX7_flakesWith wlX7_flakesWith_4
  refine zlp_for 8 (fun k => (M, L, x, nI (zbs (fun k => decide (M (b + 5) k = x)) k), nI k)) ?_ ?_
  · intro k K hk hK
    have ek : (nI k).toNatClampNeg = k := nI_clamp (by omega)
    show wpX7_flakesWith_4 b post _ M L x (nI _) (nI k)
    unfold wpX7_flakesWith_4 wpX7_flakesWith_26
    refine pk_le 8 k (fun h => by omega) (fun _ => ⟨vp_in_nI hk (by decide), ?_⟩)
    rw [ek]
    refine ⟨fun hc a ha => ?_, fun hc x hx a ha => ?_⟩
    · rw [zbs_f (by simpa using hc)] at hK
      rw [ha, nI_1]; exact hK
    · rw [zbs_t (by simpa using hc), ← z_or_bs (by omega)] at hK
      rw [ha, nI_1, hx]; exact hK
  · intro K
    exact pk_le 8 8 (fun _ => h) (fun h => by omega)
theorem sX7_delivered (h : post (nI (zbs (fun k => decide (M (b + 5) k = M (b + 4) k)) 8) &&& M b 0) M L) : wpX7_delivered b M L post := by
  unfold wpX7_delivered wlX7_delivered_4
  refine zlp_for 8 (fun k => (M, L, nI (zbs (fun k => decide (M (b + 5) k = M (b + 4) k)) k), nI k)) ?_ ?_
  · intro k K hk hK
    have ek : (nI k).toNatClampNeg = k := nI_clamp (by omega)
    show wpX7_delivered_4 b post _ M L (nI _) (nI k)
    unfold wpX7_delivered_4 wpX7_delivered_31
    refine pk_le 8 k (fun h => by omega) (fun _ => ⟨vp_in_nI hk (by decide), vp_in_nI hk (by decide), ?_⟩)
    rw [ek]
    refine ⟨fun hc a ha => ?_, fun hc x hx a ha => ?_⟩
    · rw [zbs_f (by simpa using hc)] at hK
      rw [ha, nI_1]; exact hK
    · rw [zbs_t (by simpa using hc), ← z_or_bs (by omega)] at hK
      rw [ha, nI_1, hx]; exact hK
  · intro K
    exact pk_le 8 8 (fun _ => h) (fun h => by omega)
theorem sX7_down (h : post ((M b 0 &&& (nI (zbs (fun k => decide (¬ M (b + 3) k ≤ 0)) 8) ^^^ (-1 : Int32))) &&& ((nI (zbs (fun k => decide (M (b + 2) k = -6)) 8) &&& M b 0) ^^^ (-1 : Int32))) M L) : wpX7_down b M L post := by
  unfold wpX7_down
  exact sX7_falling (sX7_inRiver h)
theorem sX7_has {x : Int32} {t : Nat} (et : M b 0 = nI t) (ht : t < 256) (h1 : ∀ k, k < 8 → x = nI k → t.testBit k = true → post 1 M L) (h0 : ¬ (0 ≤ x.toInt ∧ x.toInt < 8) → post 0 M L) (h2 : ∀ k, k < 8 → x = nI k → t.testBit k = false → post 0 M L) : wpX7_has b x M L post := by
  unfold wpX7_has wpX7_has_25 wpX7_has_26
  refine sX8_isBelow 8 (fun h => ?_) (fun h => ?_)
  · obtain ⟨k, hk, rfl⟩ := z_rng (n := 8) h (by decide)
    refine c1 ?_
    rw [et]
    refine sX8_bit (by omega) (by omega) ?_
    cases hb : t.testBit k with
    | true => exact nt_ rfl (z01t (P := fun r => post r M L) (h1 k hk rfl hb))
    | false => exact nf_ (by decide) (z01f (P := fun r => post r M L) (h2 k hk rfl hb))
  · exact c0 (z01f (P := fun r => post r M L) (h0 h))
/-- who catches: the least who stands there without an umbrella -/
def zCat (b : Nat) (M : Mm) (w : Int32) : Nat → Nat → Int32
  | 0, _ => -6
  | d + 1, e => if M (b + 6) e = w ∧ ((M b 7) >>> (nI e &&& 31)) &&& 1 = 0 then nI e else zCat b M w d (e + 1)
theorem sX7_catcherAt {w : Int32} (h : post (zCat b M w 6 0) M L) : wpX7_catcherAt b w M L post := by
  unfold wpX7_catcherAt wlX7_catcherAt_2
  refine zlp_forI 6 (fun k s => s = (M, L, w, nI k) ∧ zCat b M w (6 - k) k = zCat b M w 6 0) ⟨rfl, rfl⟩ ?_ ?_
  · rintro k K _ hk ⟨rfl, hz⟩ hK
    have ek : (nI k).toNatClampNeg = k := nI_clamp (by omega)
    show wpX7_catcherAt_2 b post _ M L w (nI k)
    unfold wpX7_catcherAt_2 wpX7_catcherAt_31 wpX8_bit
    refine pk_le 6 k (fun h => by omega) (fun _ => ⟨vp_in_nI hk (by decide), ?_⟩)
    rw [ek]
    rw [show 6 - k = (6 - (k + 1)) + 1 by omega, zCat] at hz
    refine ⟨fun hc a ha => ?_, fun hc => ⟨fun h2 a ha => ?_, fun h2 => ?_⟩⟩
    · rw [if_neg (fun q => hc q.1)] at hz
      rw [ha, nI_1]; exact hK _ ⟨rfl, hz⟩
    · rw [if_neg (fun q => h2 q.2)] at hz
      rw [ha, nI_1]; exact hK _ ⟨rfl, hz⟩
    · rw [if_pos ⟨hc, h2⟩] at hz
      rw [hz]; exact h
  · rintro K _ ⟨rfl, hz⟩
    refine pk_le 6 6 (fun _ => ?_) (fun h => by omega)
    show post (-6) M L
    rw [← hz] at h
    exact h
end ZY
