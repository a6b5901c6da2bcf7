/-! what holds between the calls; the days of both -/
def PD (c : Nat) (M : Mm) : Prop := c ≤ 60 ∧ M 2 1 = nI c ∧ M 42 13 = nI c ∧ ∀ i, i < c → M 3 i = M 53 i ∧ zlt 127 (M 3 i)
def tkW (l : List Nat) (j : Nat) : Nat := if 1 ≤ l.length ∧ ¬ j = 1 ∧ (l.getD 0 0).testBit 1 = false then 1 else if 2 ≤ l.length ∧ ¬ j = 2 ∧ (l.getD 1 0).testBit 2 = false then 2 else if 3 ≤ l.length ∧ ¬ j = 3 ∧ (l.getD 2 0).testBit 3 = false then 3 else 0
def wnW (l : List Nat) : Nat := zbs (fun j => decide (¬ tkW l j = 0)) 4
def wlW : Nat → List Nat
  | 0 => []
  | n + 1 => wnW (wlW n) :: wlW n
def WT (M : Mm) : Prop := ∀ n, n < 61 → M 13 n = nI (wnW (wlW n))
def voff (i : Nat) : Nat := if i = 0 then 0 else if i = 11 then 1 else if i ≤ 6 then 8 * i - 6 else if i = 7 then 48 else if i = 8 then 54 else if i = 9 then 56 else 64
def vK (k : Nat) (M : Mm) : Nat → Nat → Int32 := fun i j => M 65 (90 * k + (voff i + j))
def IM (M : Mm) : Prop := ∃ kb, kb < 4 ∧ M 0 2 = nI kb ∧ ∀ k, k < 2 → M 66 k = (if kb.testBit k then 1 else 0) ∧ (kb.testBit k = true → YR (21 + 7 * k) (vK k M) M)
def RI (M : Mm) : Prop := YR 14 (vM M) M ∧ (∃ c, PD c M) ∧ WT M ∧ IM M
def kp (a : Nat) : Prop := a = 0 ∨ a = 3 ∨ (13 ≤ a ∧ a ≤ 34) ∨ (50 ≤ a ∧ a ≤ 53) ∨ a = 65 ∨ a = 66
theorem IM_cong {M M' : Mm} (h : IM M) (h0 : M' 0 2 = M 0 2) (h65 : M' 65 = M 65) (h66 : M' 66 = M 66) (hy : ∀ a, 21 ≤ a → a ≤ 34 → M' a = M a) : IM M' := by
  obtain ⟨kb, k1, k2, k3⟩ := h
  refine ⟨kb, k1, by rw [h0]; exact k2, fun k hk => ?_⟩
  obtain ⟨a1, a2⟩ := k3 k hk
  refine ⟨by rw [h66]; exact a1, fun hb => ?_⟩
  obtain ⟨t, u, hY⟩ := a2 hb
  refine ⟨t, u, ?_⟩
  have e : vK k M' = vK k M := by unfold vK; rw [h65]
  rw [e]
  exact YD_same hY (fun i hi => hy _ (by omega) (by omega))
theorem RI_cong {M M' : Mm} (h : RI M) (hc : ∀ a, kp a → M' a = M a) (p1 : M' 2 1 = M 2 1) (p0 : M' 42 0 = M 42 0) (p11 : M' 42 11 = M 42 11) (p13 : M' 42 13 = M 42 13) (hv : ∀ i, 43 ≤ i → i ≤ 47 → ∀ k, k < 8 → M' i k = M i k) (hw : ∀ i, 48 ≤ i → i ≤ 49 → ∀ k, k < 6 → M' i k = M i k) : RI M' := by
  obtain ⟨⟨t, u, hY⟩, ⟨c, c1, c2, c3, c4⟩, hW, hI⟩ := h
  refine ⟨⟨t, u, ?_⟩, ⟨c, c1, by rw [p1]; exact c2, by rw [p13]; exact c3, fun i hi => ?_⟩, fun n hn => ?_, ?_⟩
  · have e1 : ∀ i, 1 ≤ i → i ≤ 7 → ∀ k, vM M' i k = M' (42 + i) k := fun i h1 h2 k => by unfold vM; rw [if_neg (by omega), if_neg (by omega)]
    have e2 : ∀ i, 1 ≤ i → i ≤ 7 → ∀ k, vM M i k = M (42 + i) k := fun i h1 h2 k => by unfold vM; rw [if_neg (by omega), if_neg (by omega)]
    have e3 : ∀ i, 8 ≤ i → i ≤ 10 → ∀ k, vM M' i k = vM M i k := fun i h1 h2 k => by unfold vM; rw [if_neg (by omega), if_neg (by omega), if_neg (by omega), if_neg (by omega), hc _ (by unfold kp; omega)]
    refine YD_view (V := vM M) (YD_same hY (fun i hi => hc _ (by unfold kp; omega))) p0 (fun i h1 h2 k hk => ?_) (fun i h1 h2 k hk => ?_) (fun k hk => e3 8 (by decide) (by decide) k) p11 (fun i h1 h2 k hk => e3 i (by omega) h2 k)
    · rw [e1 i h1 (by omega), e2 i h1 (by omega)]; exact hv _ (by omega) (by omega) k hk
    · rw [e1 i (by omega) (by omega), e2 i (by omega) (by omega)]; exact hw _ (by omega) (by omega) k hk
  · rw [hc 3 (by unfold kp; omega), hc 53 (by unfold kp; omega)]; exact c4 i hi
  · rw [hc 13 (by unfold kp; omega)]; exact hW n hn
  · exact IM_cong hI (by rw [hc 0 (by unfold kp; omega)]) (hc 65 (by unfold kp; omega)) (hc 66 (by unfold kp; omega)) (fun a h1 h2 => hc a (by unfold kp; omega))
/-- all cells that count as they were -/
theorem RI_same {M M' : Mm} (h : RI M) (hc : ∀ a, kp a ∨ (43 ≤ a ∧ a ≤ 49) → M' a = M a) (p1 : M' 2 1 = M 2 1) (p0 : M' 42 0 = M 42 0) (p11 : M' 42 11 = M 42 11) (p13 : M' 42 13 = M 42 13) : RI M' :=
  RI_cong h (fun a ha => hc a (Or.inl ha)) p1 p0 p11 p13 (fun i h1 h2 k _ => by rw [hc i (Or.inr (by omega))]) (fun i h1 h2 k _ => by rw [hc i (Or.inr (by omega))])
/-- behind the start of the days -/
def BEG (t : Nat) (M M1 : Mm) : Prop := (∀ a, a ≠ 6 → (a < 35 ∨ 41 < a) → M1 a = M a) ∧ M1 6 1 = -6 ∧ M1 6 2 = -6 ∧ M1 6 3 = -6 ∧ ∃ d0, d0 < 256 ∧ M1 6 4 = nI d0 ∧ ∀ k, k < 8 → d0.testBit k = dn t M1 k
theorem dn_val {b t : Nat} {M : Mm} (ht : t < 256) (h0 : M b 0 = nI t) : (M b 0 &&& (nI (zbs (fun k => decide (¬ M (b + 3) k ≤ 0)) 8) ^^^ (-1 : Int32))) &&& ((nI (zbs (fun k => decide (M (b + 2) k = -6)) 8) &&& M b 0) ^^^ (-1 : Int32)) = nI (zbs (fun k => t.testBit k && decide (M (b + 3) k ≤ 0) && decide (¬ M (b + 2) k = -6)) 8) := by
  rw [h0, z_andnot _ ht, z_and, z_andnot _ (zbs_lt _ 8)]
  congr 1
  refine zbs_cong (fun k hk => ?_)
  rw [zbs_tb]
  by_cases q : M (b + 3) k ≤ 0
  · by_cases q2 : M (b + 2) k = -6
    · cases t.testBit k <;> simp [hk, q, q2]
    · cases t.testBit k <;> simp [hk, q, q2]
  · cases t.testBit k <;> simp [hk, q]
section DAYS
variable {M : Mm} {L : Ml} {t u : Nat}
theorem sX2_begin {V : Nat → Nat → Int32} {post : Mm → Ml → Prop} (hY : YD 14 V t u M) (h : ∀ M1, YD 35 V t u M1 → BEG t M M1 → post M1 L) : wpX2_begin 14 M L post := by
  unfold wpX2_begin
  refine sX7_copy (Or.inr (by decide)) (fun M5 hc M11 e11 M17 e17 M23 e23 => sX7_down (fun M34 e34 => ?_))
  have n23 : ∀ a, a ≠ 6 → M23 a = M5 a := fun a ha => by rw [e23, zs_ne ha, e17, zs_ne ha, e11, zs_ne ha]
  have n34 : ∀ a, a ≠ 6 → M34 a = M5 a := fun a ha => by rw [e34, zs_ne ha, n23 a ha]
  have hY5 := YD_copy hc hY
  have hY34 : YD 35 V t u M34 := YD_same hY5 (fun i hi => n34 _ (by omega))
  have ht : t < 256 := hY5.1
  have h0 : M23 35 0 = nI t := by rw [n23 35 (by decide)]; exact hY5.2.2.1
  have h6 : ∀ i, M34 6 i = if i = 4 then nI (zbs (fun k => t.testBit k && decide (M23 38 k ≤ 0) && decide (¬ M23 37 k = -6)) 8) else M23 6 i := fun i => by
    rw [e34, zs_at]
    have := dn_val (b := 35) ht h0
    rw [← this]
  refine h M34 hY34 ⟨fun a ha hb => ?_, ?_, ?_, ?_, _, zbs_lt _ 8, by rw [h6, if_pos rfl], fun k hk => ?_⟩
  · rw [n34 a ha]; exact hc.1 a hb
  · rw [h6, if_neg (by decide), e23, zs_nj (by decide), e17, zs_nj (by decide), e11, zs_eq]
  · rw [h6, if_neg (by decide), e23, zs_nj (by decide), e17, zs_eq]
  · rw [h6, if_neg (by decide), e23, zs_eq]
  · rw [zbs_tb, decide_eq_true hk, Bool.true_and]
    unfold dn
    rw [n34 38 (by decide), n34 37 (by decide), n23 38 (by decide), n23 37 (by decide)]
/-- the model's days are to begin -/
def MBG (A : List (Int32 × Int32)) (N B : Mm) : Prop := (∀ a, a ≠ 42 → a ≠ 54 → a ≠ 55 → a ≠ 56 → B a = N a) ∧ (∀ j, j ≠ 16 → j ≠ 17 → j ≠ 18 → j ≠ 21 → j ≠ 22 → B 42 j = N 42 j) ∧ B 42 16 = nI A.length ∧ B 42 17 = 0 ∧ B 42 18 = -6 ∧ B 42 21 = -6 ∧ B 42 22 = -6 ∧ (∀ i p, A[i]? = some p → B 54 i = p.1 ∧ (¬ p.2 = -6 → B 55 i = p.2)) ∧ HAD N (B 56)
theorem JJ_start {M1 N B : Mm} {A : List (Int32 × Int32)} (hA : ∀ p, p ∈ A → aOk p) (hY1 : YD 35 (vM N) t u M1) (h1 : M1 6 1 = -6 ∧ M1 6 2 = -6 ∧ M1 6 3 = -6 ∧ ∃ d0, d0 < 256 ∧ M1 6 4 = nI d0 ∧ ∀ k, k < 8 → d0.testBit k = dn t M1 k) (hp : ∀ i p, A[i]? = some p → M1 4 i = p.1 ∧ M1 5 i = p.2) (hB : (∀ a, 43 ≤ a → a ≤ 52 → B a = N a) ∧ B 42 0 = N 42 0 ∧ B 42 11 = N 42 11 ∧ B 42 17 = 0 ∧ B 42 18 = -6 ∧ B 42 21 = -6 ∧ B 42 22 = -6 ∧ (∀ i p, A[i]? = some p → B 54 i = p.1 ∧ (¬ p.2 = -6 → B 55 i = p.2))) : ∃ d0, JJ t d0 A.length (mix M1 B) := by
  obtain ⟨a1, a2, a3, d0, d1, d2, d3⟩ := h1
  obtain ⟨b0, b1, b2, b3, b4, b5, b6, b7⟩ := hB
  refine ⟨d0, ⟨u, ?_⟩, ?_, ⟨?_, ?_, Or.inl a1, fun _ => a2⟩, ⟨?_, Or.inl a3⟩, d2, d1, ?_, ?_⟩
  · have e : vM (mix M1 B) = fun i k => if i = 0 then B 42 0 else if i = 11 then B 42 11 else B (42 + i) k := by
      funext i k
      unfold vM
      rw [show mix M1 B 42 = B 42 from mix_ge (by decide), show mix M1 B (42 + i) = B (42 + i) from mix_ge (by omega)]
    have hs : YD 35 (vM N) t u (mix M1 B) := YD_same hY1 (fun i hi => mix_lt (by omega))
    have ev : ∀ i, 1 ≤ i → i ≤ 10 → ∀ k, vM (mix M1 B) i k = vM N i k := fun i h1 h2 k => by
      rw [e]; unfold vM
      show (if i = 0 then B 42 0 else if i = 11 then B 42 11 else B (42 + i) k) = _
      rw [if_neg (by omega), if_neg (by omega), if_neg (by omega), if_neg (by omega), b0 _ (by omega) (by omega)]
    exact YD_view hs (by rw [e]; exact b1) (fun i h1 h2 k _ => ev i h1 (by omega) k) (fun i h1 h2 k _ => ev i (by omega) (by omega) k) (fun k _ => ev 8 (by decide) (by decide) k) (by rw [e]; exact b2) (fun i h1 h2 k _ => ev i (by omega) (by omega) k)
  · intro i hi
    obtain ⟨p, hq⟩ : ∃ p, A[i]? = some p := ⟨_, List.getElem?_eq_getElem hi⟩
    obtain ⟨q1, q2⟩ := hp i p hq
    obtain ⟨q3, q4⟩ := b7 i p hq
    obtain ⟨j, hj, e1, e2⟩ := hA p (List.mem_of_getElem? hq)
    refine ⟨j, hj, q1.trans e1, q3.trans e1, fun h5 => ?_⟩
    have e2 := e2 h5
    have e55 : mix M1 B 55 i = p.2 := q4 (nlt_m6 (by decide) e2)
    have e5 : mix M1 B 5 i = p.2 := q2
    rw [e55, e5]
    exact ⟨rfl, e2⟩
  · show M1 6 1 = B 42 21
    rw [a1, b5]
  · show M1 6 2 = B 42 22
    rw [a2, b6]
  · show M1 6 3 = B 42 18
    rw [a3, b4]
  · show B 42 17 = _
    rw [b3]
    have e : zct (fun k => dn t (mix M1 B) k && !d0.testBit k) 8 = zct (fun _ => false) 8 := zct_cong (fun k hk => by
      rw [d3 k hk, show dn t (mix M1 B) k = dn t M1 k from rfl]
      cases dn t M1 k <;> rfl)
    rw [e]
    rfl
  · intro k hk hd
    rw [d3 k hk] at hd
    exact hd
end DAYS
