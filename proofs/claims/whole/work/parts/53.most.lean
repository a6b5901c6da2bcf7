/-! crowds as the bits of a long -/
def bL (x : Int64) (i : Nat) : Bool := x.toBitVec.getLsbD i
theorem bL_or (x y : Int64) (i : Nat) : bL (x ||| y) i = (bL x i || bL y i) := by unfold bL; rw [Int64.toBitVec_or, BitVec.getLsbD_or]
theorem bL_and (x y : Int64) (i : Nat) : bL (x &&& y) i = (bL x i && bL y i) := by unfold bL; rw [Int64.toBitVec_and, BitVec.getLsbD_and]
theorem sL_l : ∀ n, n < 64 → (((nI n).toInt64 &&& 63).toBitVec.smod 64).toNat = n := by decide +kernel
theorem bL_1 : ∀ i, i < 64 → bL 1 i = decide (i = 0) := by decide +kernel
theorem bL_0 : ∀ i, i < 64 → bL 0 i = false := by decide +kernel
theorem bL_ext {x y : Int64} (h : ∀ i, i < 64 → bL x i = bL y i) : x = y := Int64.toBitVec_inj.mp (BitVec.eq_of_getLsbD_eq (fun i hi => h i hi))
theorem bL_shl {n : Nat} (hn : n < 64) {i : Nat} (hi : i < 64) : bL ((1 : Int64) <<< ((nI n).toInt64 &&& 63)) i = decide (i = n) := by
  unfold bL
  rw [Int64.toBitVec_shiftLeft]
  show ((1 : Int64).toBitVec <<< (((nI n).toInt64 &&& 63).toBitVec.smod 64).toNat).getLsbD i = _
  rw [sL_l n hn, BitVec.getLsbD_shiftLeft]
  have h1 := bL_1 (i - n) (by omega)
  unfold bL at h1
  rw [h1]
  by_cases h : i < n
  · simp [h, show ¬ i = n by omega]
  · simp [h, hi, show (i - n = 0 ↔ i = n) by omega]
theorem bL_get {x : Int64} {n : Nat} (hn : n < 64) : (x >>> ((nI n).toInt64 &&& 63)) &&& 1 = if bL x n then 1 else 0 := by
  refine bL_ext (fun i hi => ?_)
  rw [bL_and, bL_1 i hi]
  have hs : bL (x >>> ((nI n).toInt64 &&& 63)) 0 = bL x n := by
    unfold bL
    rw [Int64.toBitVec_shiftRight]
    show (x.toBitVec.sshiftRight (((nI n).toInt64 &&& 63).toBitVec.smod 64).toNat).getLsbD 0 = _
    rw [sL_l n hn, BitVec.getLsbD_sshiftRight]
    simp [hn]
  by_cases h0 : i = 0
  · subst h0
    rw [hs]
    cases bL x n <;> rfl
  · rw [decide_eq_false h0, Bool.and_false]
    cases bL x n
    · exact (bL_0 i hi).symm
    · rw [if_pos rfl, bL_1 i hi, decide_eq_false h0]
theorem bL_is {x : Int64} {n : Nat} (hn : n < 64) : lg_cmp ((x >>> ((nI n).toInt64 &&& 63)) &&& 1) 1 = 0 ↔ bL x n = true := by
  rw [zcmp_eq, bL_get hn]
  cases bL x n
  · exact ⟨fun z => absurd z (by decide), fun z => absurd z (by decide)⟩
  · exact ⟨fun _ => rfl, fun _ => rfl⟩
/-- sets of ones: e out, e in -/
theorem set_fx : ∀ s, s < 64 → ∀ e, e < 6 → (s &&& (63 ^^^ 2 ^ e)) < 64 ∧ (s ||| 2 ^ e) < 64 ∧ ((s &&& (63 ^^^ 2 ^ e)).testBit e = false) ∧ ((s ||| 2 ^ e).testBit e = true) ∧ (s.testBit e = true → (s &&& (63 ^^^ 2 ^ e)) ||| 2 ^ e = s ∧ zpop s 8 = zpop (s &&& (63 ^^^ 2 ^ e)) 8 + 1 ∧ (s &&& (63 ^^^ 2 ^ e)) < s) ∧ (s.testBit e = false → (s ||| 2 ^ e) &&& (63 ^^^ 2 ^ e) = s) := by decide +kernel
theorem set_bit {s e i : Nat} (hs : s < 64) (he : e < 6) : (s &&& (63 ^^^ 2 ^ e)).testBit i = true ↔ s.testBit i = true ∧ ¬ i = e := by
  by_cases hi : i < 6
  · rw [(z_rem6 s hs e he).2.2 i hi]
    by_cases q : i = e
    · simp [q]
    · simp [q]
  · have b : ∀ v, v < 64 → v.testBit i = false := fun v hv => Nat.testBit_lt_two_pow (Nat.lt_of_lt_of_le hv (Nat.pow_le_pow_right (n := 2) (by decide) (show 6 ≤ i by omega)))
    rw [b _ (set_fx s hs e he).1, b _ hs]
    simp
theorem set_bitO {s e i : Nat} : (s ||| 2 ^ e).testBit i = true ↔ s.testBit i = true ∨ i = e := or_bit
/-- who can get: the class's words -/
def cgt (M : Mm) (e k : Nat) : Prop := ¬ M 17 k ≤ 0 ∧ ¬ M 17 k < M 20 e - M 16 k ∧ ¬ M 17 k < -(M 20 e - M 16 k)
/-- the sets that the first k can serve -/
def crd (g : Nat → Nat → Prop) : Nat → Nat → Prop
  | 0, s => s = 0
  | k + 1, s => crd g k s ∨ ∃ e, e < 6 ∧ g e k ∧ s.testBit e = true ∧ crd g k (s &&& (63 ^^^ 2 ^ e))
section GET
variable {M : Mm} {L : Ml} {post : Int32 → Mm → Ml → Prop}
theorem sX1_canGet0 {x : Int32} {k : Nat} (hk : k < 8) (h : M 17 k ≤ 0) (h0 : post 0 M L) : wpX1_canGet 14 x (nI k) M L post := by
  unfold wpX1_canGet wpX1_canGet_35 wpX1_canGet_36
  rw [nI_clamp (n := k) (by omega)]
  refine ⟨vp_in_nI hk (by decide), fun a ea => ?_⟩
  have ea : a = M 17 k := ea
  subst ea
  exact bt_ h ⟨Or.inl rfl, h0⟩
theorem sX1_canGet {e k t u : Nat} (hY : YD 14 (vM M) t u M) (he : e < 6) (hk : k < 8) (h1 : cgt M e k → post 1 M L) (h0 : ¬ cgt M e k → post 0 M L) : wpX1_canGet 14 (nI e) (nI k) M L post := by
  unfold wpX1_canGet wpX1_canGet_35 wpX1_canGet_36
  rw [nI_clamp (n := k) (by omega), nI_clamp (n := e) (by omega)]
  have vk : vp_in (nI k) 8 := vp_in_nI hk (by decide)
  refine ⟨vk, fun a ea => ?_⟩
  have ea : a = M 17 k := ea
  subst ea
  refine ⟨fun hz => ⟨Or.inl rfl, h0 (fun z => z.1 hz)⟩, fun hz => ⟨vp_in_nI he (by decide), vk, ?_⟩⟩
  have hb : t.testBit k = true := by
    cases hq : t.testBit k with
    | true => rfl
    | false =>
      have e3 : M 17 k = 0 := (hY.2.2.2.2.2.1 k hk).2 hq
      exact absurd (by rw [e3]; decide) hz
  have hf := (hY.2.2.2.2.2.1 k hk).1 hb
  have h2 : zlt 16 (M 16 k) ∨ M 16 k = -6 ∧ M 17 k = 0 := hf.2.2.1
  have h3 : zlt 10 (M 17 k) := hf.2.2.2.1
  obtain ⟨p, hp, ep⟩ := h2.resolve_right (fun z => hz (by rw [z.2]; decide))
  obtain ⟨s, hs, es⟩ : zlt 16 (M 20 e) := (hY.2.2.2.2.2.2.1 e he).2.1
  obtain ⟨g, hg, eg⟩ := h3
  have ed : (M 20 e - M 16 k).toInt = (s : Int) - p := by rw [es, ep]; exact pk_sub_toInt (by omega) (by omega)
  have en : (-(M 20 e - M 16 k)).toInt = (p : Int) - s := by
    rw [Int32.neg_sub, es, ep]
    exact pk_sub_toInt (by omega) (by omega)
  have eg2 : (M 17 k).toInt = g := by rw [eg]; exact nI_ti (by omega)
  have e00 : (0 : Int32).toInt = 0 := rfl
  have ez : (0 : Int32) - (M 20 e - M 16 k) = -(M 20 e - M 16 k) := Int32.zero_sub _
  show (M 17 k < (if 0 ≤ M 20 e - M 16 k then M 20 e - M 16 k else 0 - (M 20 e - M 16 k)) → _) ∧ (¬ (M 17 k < (if 0 ≤ M 20 e - M 16 k then M 20 e - M 16 k else 0 - (M 20 e - M 16 k))) → _)
  rw [ez]
  have key : M 17 k < (if 0 ≤ M 20 e - M 16 k then M 20 e - M 16 k else -(M 20 e - M 16 k)) ↔ ¬ cgt M e k := by
    unfold cgt
    rw [fa_le, e00, eg2] at hz
    by_cases q : 0 ≤ M 20 e - M 16 k
    · rw [if_pos q]
      rw [fa_le, e00, ed] at q
      rw [fa_le, fa_lt, fa_lt, ed, en, eg2, e00]
      omega
    · rw [if_neg q]
      rw [fa_le, e00, ed] at q
      rw [fa_le, fa_lt, fa_lt, ed, en, eg2, e00]
      omega
  exact ⟨fun z => ⟨Or.inl rfl, h0 (key.mp z)⟩, fun z => ⟨Or.inr rfl, h1 (Classical.not_not.mp (fun w => z (key.mpr w)))⟩⟩
theorem sX9_canGet {e k t u : Nat} (hY : YD 14 (vM M) t u M) (he : e < 6) (hk : k < 8) {N : Mm} (hN : ∀ a, 42 ≤ a → a ≤ 49 → N a = M a) (h1 : cgt M e k → post 1 N L) (h0 : ¬ cgt M e k → post 0 N L) : wpX9_canGet (nI e) (nI k) N L post := by
  unfold wpX9_canGet wpX9_canGet_47 wpX9_canGet_48
  rw [nI_clamp (n := k) (by omega), nI_clamp (n := e) (by omega)]
  have vk : vp_in (nI k) 8 := vp_in_nI hk (by decide)
  have e42 : N 42 0 = nI t := by rw [hN 42 (by decide) (by decide)]; exact hY.2.2.2.1
  have o1 : N 48 e = M 20 e := by rw [hN 48 (by decide) (by decide)]; exact (hY.2.2.2.2.2.2.1 e he).1
  refine ⟨vp_in_nI he (by decide), vk, fun a ea => ?_⟩
  have hF := hY.2.2.2.2.2.1 k hk
  have hz3 : zab t N k = true → t.testBit k = true ∧ ¬ N 45 k ≤ 0 := fun z => by
    unfold zab at z
    rw [Bool.and_eq_true] at z
    exact ⟨z.1, of_decide_eq_true z.2⟩
  refine sX9_isAbove e42 hY.1 hk (fun hz => c1 ⟨vk, ?_⟩) (fun hz => c0 ⟨Or.inl rfl, h0 (fun z => ?_)⟩)
  · obtain ⟨hb, -⟩ := hz3 hz
    have v2 : N 44 k = M 16 k := by rw [hN 44 (by decide) (by decide)]; exact (hF.1 hb).1.2.1
    have v3 : N 45 k = M 17 k := by rw [hN 45 (by decide) (by decide)]; exact (hF.1 hb).1.2.2.1
    have hp := (hz3 hz).2
    rw [v3] at hp
    rw [o1, v2] at ea
    subst ea
    rw [v3]
    exact ⟨fun q => ⟨Or.inl rfl, h0 (fun z => z.2.1 q)⟩, fun q => ⟨vk, fun q2 => ⟨Or.inl rfl, h0 (fun z => z.2.2 q2)⟩, fun q2 => ⟨Or.inr rfl, h1 ⟨hp, q, q2⟩⟩⟩⟩
  · cases hb : t.testBit k with
    | false =>
      have e3 : M 17 k = 0 := hF.2 hb
      exact z.1 (by rw [e3]; decide)
    | true =>
      have v3 : N 45 k = M 17 k := by rw [hN 45 (by decide) (by decide)]; exact (hF.1 hb).1.2.2.1
      unfold zab at hz
      rw [hb, v3, decide_eq_true z.1] at hz
      exact absurd hz (by decide)
end GET
