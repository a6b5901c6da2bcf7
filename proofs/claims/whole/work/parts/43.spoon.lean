/-! spoons -/
theorem wlW_len : ∀ n, (wlW n).length = n
  | 0 => rfl
  | n + 1 => by
    show (wnW (wlW n) :: wlW n).length = n + 1
    rw [List.length_cons, wlW_len n]
theorem wlW_at : ∀ n t, t < n → (wlW n).getD t 0 = wnW (wlW (n - 1 - t))
  | 0, t, h => absurd h (by omega)
  | n + 1, 0, _ => rfl
  | n + 1, t + 1, h => by
    show (wnW (wlW n) :: wlW n).getD (t + 1) 0 = _
    rw [List.getD_cons_succ, wlW_at n t (by omega)]
    congr 2
    omega
/-- to take t wins -/
def okW (n j t : Nat) : Prop := t ≤ n ∧ ¬ t = j ∧ (wnW (wlW (n - t))).testBit t = false
theorem okW_iff {n j t : Nat} (ht : 1 ≤ t) : (t ≤ (wlW n).length ∧ ¬ j = t ∧ ((wlW n).getD (t - 1) 0).testBit t = false) ↔ okW n j t := by
  rw [wlW_len]
  unfold okW
  constructor
  · rintro ⟨h1, h2, h3⟩
    rw [wlW_at n (t - 1) (by omega), show n - 1 - (t - 1) = n - t by omega] at h3
    exact ⟨h1, fun z => h2 z.symm, h3⟩
  · rintro ⟨h1, h2, h3⟩
    refine ⟨h1, fun z => h2 z.symm, ?_⟩
    rw [wlW_at n (t - 1) (by omega), show n - 1 - (t - 1) = n - t by omega]
    exact h3
theorem tkW_1 {n j : Nat} (h : okW n j 1) : tkW (wlW n) j = 1 := if_pos ((okW_iff (t := 1) (by decide)).mpr h)
theorem tkW_2 {n j : Nat} (h1 : ¬ okW n j 1) (h : okW n j 2) : tkW (wlW n) j = 2 := by
  unfold tkW
  rw [if_neg (fun z => h1 ((okW_iff (t := 1) (by decide)).mp z))]
  exact if_pos ((okW_iff (t := 2) (by decide)).mpr h)
theorem tkW_3 {n j : Nat} (h1 : ¬ okW n j 1) (h2 : ¬ okW n j 2) (h : okW n j 3) : tkW (wlW n) j = 3 := by
  unfold tkW
  rw [if_neg (fun z => h1 ((okW_iff (t := 1) (by decide)).mp z)), if_neg (fun z => h2 ((okW_iff (t := 2) (by decide)).mp z))]
  exact if_pos ((okW_iff (t := 3) (by decide)).mpr h)
theorem tkW_0 {n j : Nat} (h1 : ¬ okW n j 1) (h2 : ¬ okW n j 2) (h : ¬ okW n j 3) : tkW (wlW n) j = 0 := by
  unfold tkW
  rw [if_neg (fun z => h1 ((okW_iff (t := 1) (by decide)).mp z)), if_neg (fun z => h2 ((okW_iff (t := 2) (by decide)).mp z))]
  exact if_neg (fun z => h ((okW_iff (t := 3) (by decide)).mp z))
theorem tkW_lt (n j : Nat) : tkW (wlW n) j < 4 := by
  unfold tkW
  split
  · decide
  split
  · decide
  split
  · decide
  · decide
theorem wnW_lt (l : List Nat) : wnW l < 16 := zbs_lt _ 4
theorem wnW_bit {n t : Nat} (ht : t < 4) : (wnW (wlW n)).testBit t = false ↔ tkW (wlW n) t = 0 := by
  unfold wnW
  rw [zbs_tb, decide_eq_true ht, Bool.true_and]
  simp
section SPOON
variable {M : Mm} {L : Ml} {post : Int32 → Mm → Ml → Prop}
theorem sX6_winningTake {n j : Nat} (hn : n ≤ 60) (hj : j < 4) (hW : ∀ i, i < n → M 13 i = nI (wnW (wlW i))) (h : post (if tkW (wlW n) j = 0 then -6 else nI (tkW (wlW n) j)) M L) : wpX6_winningTake (nI n) (nI j) M L post := by
  unfold wpX6_winningTake wlX6_winningTake_2
  refine zlp_forI 3 (fun k s => s = (M, L, nI n, nI j, nI (k + 1)) ∧ ∀ t, 1 ≤ t → t ≤ k → ¬ okW n j t) ⟨rfl, fun t h1 h2 => absurd h2 (by omega)⟩ ?_ ?_
  · rintro k K _ hk ⟨rfl, ho⟩ hK
    show wpX6_winningTake_2 post _ M L (nI n) (nI j) (nI (k + 1))
    unfold wpX6_winningTake_2 wpX6_winningTake_34 wpX6_winningTake_40
    have hno : ¬ okW n j (k + 1) → ∀ a_34 : Int32, a_34 = nI (k + 1) + (1 : Int32) → K (M, L, nI n, nI j, a_34) := fun hn a ha => hK _ ⟨by rw [ha, nI_1], fun t h1 h2 => by
      by_cases q : t = k + 1
      · rw [q]; exact hn
      · exact ho t h1 (by omega)⟩
    refine pk_lt 3 (k + 1) (fun h => by omega) (fun _ => ?_)
    refine pk_lt n (k + 1) (fun hlt => ?_) (fun hle => ⟨fun q => hno ?_, fun q => ?_⟩)
    · have e : tkW (wlW n) j = 0 := by
        refine tkW_0 ?_ ?_ ?_
        · by_cases q : 1 ≤ k
          · exact ho 1 (by decide) q
          · exact fun z => by have := z.1; omega
        · by_cases q : 2 ≤ k
          · exact ho 2 (by decide) q
          · exact fun z => by have := z.1; omega
        · exact fun z => by have := z.1; omega
      rw [if_pos e] at h
      exact h
    · have q := nI_inj (by omega) (by omega) q
      exact fun z => z.2.1 q
    · have q : ¬ k + 1 = j := fun z => q (by rw [z])
      rw [pk_sub hle, nI_clamp (by omega), hW (n - (k + 1)) (by omega)]
      refine ⟨vp_in_nI (by omega) (by decide), sX8_bit (by have := wnW_lt (wlW (n - (k + 1))); omega) (by omega) ?_⟩
      cases hb : (wnW (wlW (n - (k + 1)))).testBit (k + 1) with
      | true => exact nf_ (by decide) (hno (fun z => by have := z.2.2; rw [hb] at this; exact absurd this (by decide)))
      | false =>
        refine nt_ rfl ?_
        have hok : okW n j (k + 1) := ⟨hle, q, hb⟩
        have e : tkW (wlW n) j = k + 1 := by
          rcases (show k = 0 ∨ k = 1 ∨ k = 2 by omega) with rfl | rfl | rfl
          · exact tkW_1 hok
          · exact tkW_2 (ho 1 (by decide) (by decide)) hok
          · exact tkW_3 (ho 1 (by decide) (by decide)) (ho 2 (by decide) (by decide)) hok
        rw [e, if_neg (by omega)] at h
        exact h
  · rintro K _ ⟨rfl, ho⟩
    show wpX6_winningTake_2 post _ M L (nI n) (nI j) (nI (3 + 1))
    unfold wpX6_winningTake_2 wpX6_winningTake_40
    refine pk_lt 3 (3 + 1) (fun _ => ?_) (fun h => by omega)
    rw [if_pos (tkW_0 (ho 1 (by decide) (by decide)) (ho 2 (by decide) (by decide)) (ho 3 (by decide) (by decide)))] at h
    exact h
/-- the least that wins of those looked at, from the most on -/
def bsW (n j : Nat) : Nat → Nat → Prop := fun k v => (v = 0 ∧ ∀ t, 4 - k ≤ t → t ≤ 3 → ¬ okW n j t) ∨ (4 - k ≤ v ∧ v ≤ 3 ∧ okW n j v ∧ ∀ t, 4 - k ≤ t → t < v → ¬ okW n j t)
theorem sX9_bestTake {n j : Nat} (hn : n ≤ 60) (hj : j < 4) (hT : ∀ i, i < n → ∀ t, t < 4 → M 64 (4 * i + t) = nI (tkW (wlW i) t)) (h : post (nI (tkW (wlW n) j)) M L) : wpX9_bestTake (nI n) (nI j) M L post := by
  unfold wpX9_bestTake wlX9_bestTake_5
  refine zlp_forI 3 (fun k s => ∃ v, s = (M, L, nI n, nI j, nI v, nI (3 - k)) ∧ bsW n j k v) ⟨0, rfl, Or.inl ⟨rfl, fun t h1 h2 => absurd h1 (by omega)⟩⟩ ?_ ?_
  · rintro k K _ hk ⟨v, rfl, hv⟩ hK
    show wpX9_bestTake_5 post _ M L (nI n) (nI j) (nI v) (nI (3 - k))
    unfold wpX9_bestTake_5 wpX9_bestTake_26 wpX9_bestTake_27 wpX9_bestTake_51 wpX9_bestTake_65 wpX9_bestTake_66
    obtain ⟨t, et⟩ : ∃ t, t = 3 - k := ⟨_, rfl⟩
    rw [← et]
    have t1 : 1 ≤ t := by omega
    have t3 : t ≤ 3 := by omega
    have em1 : nI t + (-1 : Int32) = nI (3 - (k + 1)) := by
      rcases (show k = 0 ∨ k = 1 ∨ k = 2 by omega) with rfl | rfl | rfl <;> subst et <;> rfl
    have hno : ¬ okW n j t → ∀ a : Int32, a = nI t + (-1 : Int32) → K (M, L, nI n, nI j, nI v, a) := fun hn a ha => hK _ ⟨v, by rw [ha, em1], by
      rcases hv with ⟨h1, h2⟩ | ⟨h1, h2, h3, h4⟩
      · refine Or.inl ⟨h1, fun s s1 s2 => ?_⟩
        by_cases q : s = t
        · rw [q]; exact hn
        · exact h2 s (by omega) s2
      · refine Or.inr ⟨by omega, h2, h3, fun s s1 s2 => ?_⟩
        by_cases q : s = t
        · rw [q]; exact hn
        · exact h4 s (by omega) s2⟩
    have hyes : okW n j t → ∀ a : Int32, a = nI t + (-1 : Int32) → K (M, L, nI n, nI j, nI t, a) := fun hn a ha => hK _ ⟨t, by rw [ha, em1], Or.inr ⟨by omega, t3, hn, fun s s1 s2 => absurd s1 (by omega)⟩⟩
    refine pk_le t 0 (fun h => by omega) (fun _ => ⟨fun q => ?_, fun q => ?_⟩)
    · have q := nI_inj (by omega) (by omega) q
      exact bt_ rfl (hno (fun z => z.2.1 q))
    · have q : ¬ t = j := fun z => q (by rw [z])
      refine pk_lt n t (fun hlt => bt_ rfl (hno (fun z => absurd z.1 (by omega)))) (fun hle => bf_ (by decide) (bf_ (by decide) ?_))
      have eix : (4 : Int32) * (nI n - nI t) + nI t = nI (4 * (n - t) + t) := by rw [pk_sub hle, show (4 : Int32) = nI 4 from rfl, pk_mul, nI_add]
      rw [eix, nI_clamp (by omega), hT (n - t) (by omega) t (by omega)]
      have hlt : tkW (wlW (n - t)) t < 4 := tkW_lt _ _
      refine ⟨vp_in_nI (by omega) (by decide), fun hz => hno (fun z => hz (by rw [(wnW_bit (by omega)).mp z.2.2]; rfl)), fun hz => hyes ⟨hle, q, (wnW_bit (by omega)).mpr (nI_inj (b := 0) (by omega) (by decide) hz)⟩⟩
  · rintro K _ ⟨v, rfl, hv⟩
    show wpX9_bestTake_5 post _ M L (nI n) (nI j) (nI v) (nI (3 - 3))
    unfold wpX9_bestTake_5
    refine pk_le 0 0 (fun _ => ?_) (fun h => by omega)
    have e : v = tkW (wlW n) j := by
      rcases hv with ⟨h1, h2⟩ | ⟨h1, h2, h3, h4⟩
      · rw [tkW_0 (h2 1 (by decide) (by decide)) (h2 2 (by decide) (by decide)) (h2 3 (by decide) (by decide)), h1]
      · rcases (show v = 1 ∨ v = 2 ∨ v = 3 by omega) with rfl | rfl | rfl
        · exact (tkW_1 h3).symm
        · exact (tkW_2 (h4 1 (by decide) (by decide)) h3).symm
        · exact (tkW_3 (h4 1 (by decide) (by decide)) (h4 2 (by decide) (by decide)) h3).symm
    rw [e]
    exact h
theorem pr_spoon (hR : RI M) {x y : Int32} (h : ∀ r M1 L1, agr (wpX9_spoon x y) r M1 L1 → post r M1 L1) : wpX8_spoon x y M L post := by
  obtain ⟨-, -, hW, -⟩ := id hR
  unfold wpX8_spoon wpX8_spoon_17 wpX8_spoon_45
  refine sX8_isBelow 61 (fun hx => c1 ?_) (fun hout => c0 (h _ _ _ (fun p2 hp => ?_)))
  rotate_left
  · unfold wpX9_spoon wpX9_spoon_22
    exact sX9_in 0 60 (fun z => absurd ⟨z.1, by omega⟩ hout) (fun _ => c0 (hp _ _ hR))
  refine sX8_isBelow 2 (fun hy => b1 ?_) (fun hout => b0 (h _ _ _ (fun p2 hp => ?_)))
  rotate_left
  · unfold wpX9_spoon wpX9_spoon_22
    exact sX9_in 0 60 (fun _ => c1 (sX9_in 0 1 (fun z => absurd ⟨z.1, by omega⟩ hout) (fun _ => b0 (hp _ _ hR)))) (fun z => absurd ⟨hx.1, by omega⟩ z)
  obtain ⟨n, hn, rfl⟩ := z_rng (n := 61) hx (by decide)
  have hlt : tkW (wlW n) 0 < 4 := tkW_lt _ _
  have key : ∀ v, (∀ (p2 : Int32 → Mm → Ml → Prop), (∀ M2, RI M2 → p2 v M2 L) → ∀ M', RI M' → ((¬ y = 0 → (nI (tkW (wlW n) 0) ≤ 0 → p2 (-6 : Int32) M' L) ∧ (¬ (nI (tkW (wlW n) 0) ≤ 0) → p2 (nI (tkW (wlW n) 0)) M' L)) ∧ (y = 0 → (nI (tkW (wlW n) 0) ≤ 0 → p2 (0 : Int32) M' L) ∧ (¬ (nI (tkW (wlW n) 0) ≤ 0) → p2 (1 : Int32) M' L)))) → agr (wpX9_spoon (nI n) y) v M L := by
    intro v hv p2 hp
    unfold wpX9_spoon
    refine sX9_in 0 60 (fun _ => c1 (sX9_in 0 1 (fun _ => b1 ?_) (fun z => absurd ⟨hy.1, by omega⟩ z))) (fun z => absurd ⟨hx.1, by omega⟩ z)
    unfold wlX9_spoon_27
    refine zlp_forI (n + 1) (fun k s => ∃ M', s = (M', L, nI n, y, nI k) ∧ (∀ i, i ≠ 64 → M' i = M i) ∧ ∀ i, i < k → ∀ t, t < 4 → M' 64 (4 * i + t) = nI (tkW (wlW i) t)) ⟨M, rfl, fun _ _ => rfl, fun i hi => absurd hi (by omega)⟩ ?_ ?_
    · rintro k K _ hk ⟨M', rfl, h1, h2⟩ hK
      show wpX9_spoon_27 p2 _ M' L (nI n) y (nI k)
      unfold wpX9_spoon_27
      refine pk_lt n k (fun h => by omega) (fun _ => ?_)
      unfold wlX9_spoon_35
      refine zlp_forI 4 (fun l s => ∃ M', s = (M', L, nI n, y, nI k, nI l) ∧ (∀ i, i ≠ 64 → M' i = M i) ∧ (∀ i, i < k → ∀ t, t < 4 → M' 64 (4 * i + t) = nI (tkW (wlW i) t)) ∧ ∀ t, t < l → M' 64 (4 * k + t) = nI (tkW (wlW k) t)) ⟨M', rfl, h1, h2, fun t ht => absurd ht (by omega)⟩ ?_ ?_
      · rintro l K2 _ hl ⟨M', rfl, h1, h2, h3⟩ hK2
        show wpX9_spoon_35 p2 _ _ M' L (nI n) y (nI k) (nI l)
        unfold wpX9_spoon_35
        refine pk_le 4 l (fun h => by omega) (fun _ => sX9_bestTake (by omega) hl h2 ?_)
        have eix : (4 : Int32) * nI k + nI l = nI (4 * k + l) := by rw [show (4 : Int32) = nI 4 from rfl, pk_mul, nI_add]
        rw [eix, nI_clamp (by omega)]
        refine ⟨vp_in_nI (by omega) (by decide), fun M2 e2 w ew => hK2 _ ⟨M2, by show (M2, L, nI n, y, nI k, w) = _; rw [ew, nI_1], fun i hi => by rw [e2, zs_ne hi]; exact h1 i hi, fun i hi t ht => ?_, fun t ht => ?_⟩⟩
        · rw [e2, zs_nj (by omega)]; exact h2 i hi t ht
        · rw [e2, zs_at]
          by_cases q : t = l
          · rw [if_pos (by omega), q]
          · rw [if_neg (by omega)]; exact h3 t (by omega)
      · rintro K2 _ ⟨M', rfl, h1, h2, h3⟩
        show wpX9_spoon_35 p2 _ _ M' L (nI n) y (nI k) (nI 4)
        unfold wpX9_spoon_35
        refine pk_le 4 4 (fun _ w ew => hK _ ⟨M', by rw [ew, nI_1], h1, fun i hi t ht => ?_⟩) (fun h => by omega)
        by_cases q : i = k
        · rw [q]; exact h3 t ht
        · exact h2 i (by omega) t ht
    · rintro K _ ⟨M', rfl, h1, h2⟩
      show wpX9_spoon_27 p2 _ M' L (nI n) y (nI (n + 1))
      unfold wpX9_spoon_27 wpX9_spoon_106
      have eix : (4 : Int32) * nI n = nI (4 * n) := by rw [show (4 : Int32) = nI 4 from rfl, pk_mul]
      rw [eix, nI_clamp (by omega)]
      refine pk_lt n (n + 1) (fun _ => ⟨vp_in_nI (by omega) (by decide), fun a ea => ?_⟩) (fun h => by omega)
      have hz := h2 n (by omega) 0 (by decide)
      rw [Nat.add_zero] at hz
      rw [hz] at ea
      subst ea
      exact hv p2 (fun M2 hR2 => hp M2 L hR2) M' (RI_same hR (fun a ha => h1 a (by unfold kp at ha; omega)) (by rw [h1 2 (by decide)]) (by rw [h1 42 (by decide)]) (by rw [h1 42 (by decide)]) (by rw [h1 42 (by decide)]))
  refine sX6_winningTake (j := 0) (by omega) (by decide) (fun i hi => hW i (by omega)) ?_
  by_cases e0 : tkW (wlW n) 0 = 0
  · rw [if_pos e0]
    have hle : nI (tkW (wlW n) 0) ≤ 0 := by rw [e0]; decide
    refine ⟨fun ny => h _ _ _ (key _ (fun p2 hp M' hR' => nf_ ny (bt_ hle (hp M' hR')))), fun ny => nt_ rfl (h _ _ _ (key _ (fun p2 hp M' hR' => nt_ ny (bt_ hle (hp M' hR')))))⟩
  · rw [if_neg e0]
    have hle : ¬ nI (tkW (wlW n) 0) ≤ 0 := nI_nle (by omega) (by omega)
    refine ⟨fun ny => h _ _ _ (key _ (fun p2 hp M' hR' => nf_ ny (bf_ hle (hp M' hR')))), fun ny => nf_ (nlt_m6 (n := 4) (by decide) ⟨_, hlt, rfl⟩) (h _ _ _ (key _ (fun p2 hp M' hR' => nt_ ny (bf_ hle (hp M' hR')))))⟩
end SPOON
