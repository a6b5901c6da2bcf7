/-! images -/
section IMG
variable {M : Mm} {L : Ml}
/-- the model passes: it writes, it reads -/
theorem sX9_passW {post : Int32 → Mm → Ml → Prop} {x : Int32} {P : Nat} (hP : P < 180) (e33 : M 42 33 = nI P) (e34 : ¬ M 42 34 = 0) (h : post x (zs (zs M 65 P x) 42 33 (nI (P + 1))) L) : wpX9_pass x M L post := by
  unfold wpX9_pass wpX9_pass_20
  refine nf_ e34 ?_ |> fun z => ⟨z.2, z.1⟩
  rw [e33, nI_clamp (by omega)]
  refine ⟨vp_in_nI hP (by decide), fun M1 e1 M2 e2 => ?_⟩
  rw [e1, zs_ne (by decide), e33, nI_1] at e2
  rw [e2]
  exact h
theorem sX9_passR {post : Int32 → Mm → Ml → Prop} {x : Int32} {P : Nat} (hP : P < 180) (e33 : M 42 33 = nI P) (e34 : M 42 34 = 0) (h : post (M 65 P) (zs M 42 33 (nI (P + 1))) L) : wpX9_pass x M L post := by
  unfold wpX9_pass wpX9_pass_20
  refine bt_ e34 ?_
  rw [e33, nI_clamp (by omega)]
  refine ⟨vp_in_nI hP (by decide), vp_in_nI hP (by decide), fun M1 e1 M2 e2 => ?_⟩
  rw [zs_self] at e1
  rw [e1, e33, nI_1] at e2
  rw [e2]
  exact h
theorem sX9_passRowW {post : Mm → Ml → Prop} {r n c P : Nat} (hr : r ≠ 42 ∧ r ≠ 65) (hcn : c ≤ n) (hn : n < 256) (hP : P + c ≤ 180) (e33 : M 42 33 = nI P) (e34 : ¬ M 42 34 = 0) (h : ∀ M', (∀ a, a ≠ 42 → a ≠ 65 → M' a = M a) → (∀ j, j ≠ 33 → M' 42 j = M 42 j) → M' 42 33 = nI (P + c) → (∀ j, j < c → M' 65 (P + j) = M r j) → (∀ j, (j < P ∨ P + c ≤ j) → M' 65 j = M 65 j) → post M' L) : wpX9_passRow r n (nI c) M L post := by
  unfold wpX9_passRow wlX9_passRow_2
  refine zlp_forI c (fun k s => ∃ M', s = (M', L, nI c, nI k) ∧ (∀ a, a ≠ 42 → a ≠ 65 → M' a = M a) ∧ (∀ j, j ≠ 33 → M' 42 j = M 42 j) ∧ M' 42 33 = nI (P + k) ∧ (∀ j, j < k → M' 65 (P + j) = M r j) ∧ (∀ j, (j < P ∨ P + k ≤ j) → M' 65 j = M 65 j)) ⟨M, rfl, fun _ _ _ => rfl, fun _ _ => rfl, e33, fun j hj => absurd hj (by omega), fun _ _ => rfl⟩ ?_ ?_
  · rintro k K _ hk ⟨M', rfl, h1, h2, h3, h4, h5⟩ hK
    show wpX9_passRow_2 r n post _ M' L (nI c) (nI k)
    unfold wpX9_passRow_2
    have ek : (nI k).toNatClampNeg = k := nI_clamp (by omega)
    have vk : vp_in (nI k) n := vp_in_nI (by omega) (by omega)
    rw [ek]
    refine pk_le c k (fun h => by omega) (fun _ => ⟨vk, sX9_passW (P := P + k) (by omega) h3 (by rw [h2 34 (by decide)]; exact e34) ⟨vk, fun M2 e2 w ew => ?_⟩⟩)
    have q : zs (zs M' 65 (P + k) (M' r k)) 42 33 (nI (P + k + 1)) r k = M' r k := by rw [zs_ne hr.1, zs_ne hr.2]
    have e2' : M2 = zs (zs M' 65 (P + k) (M' r k)) 42 33 (nI (P + k + 1)) := by
      rw [e2]
      have := zs_self (zs (zs M' 65 (P + k) (M' r k)) 42 33 (nI (P + k + 1))) r k
      rw [q] at this
      exact this
    refine hK _ ⟨M2, by show (M2, L, nI c, w) = _; rw [ew, nI_1], fun a a1 a2 => by rw [e2', zs_ne a1, zs_ne a2]; exact h1 a a1 a2, fun j hj => by rw [e2', zs_nj hj, zs_ne (by decide)]; exact h2 j hj, by rw [e2', zs_eq]; rfl, fun j hj => ?_, fun j hj => ?_⟩
    · rw [e2', zs_ne (by decide), zs_at, h1 r hr.1 hr.2]
      by_cases e : j = k
      · rw [if_pos (by omega), e]
      · rw [if_neg (by omega)]; exact h4 j (by omega)
    · rw [e2', zs_ne (by decide), zs_nj (by omega)]; exact h5 j (by omega)
  · rintro K _ ⟨M', rfl, h1, h2, h3, h4, h5⟩
    show wpX9_passRow_2 r n post _ M' L (nI c) (nI c)
    unfold wpX9_passRow_2
    exact pk_le c c (fun _ => h M' h1 h2 h3 h4 h5) (fun h => by omega)
theorem sX9_passRowR {post : Mm → Ml → Prop} {r n c P : Nat} (hr : r ≠ 42 ∧ r ≠ 65) (hcn : c ≤ n) (hn : n < 256) (hP : P + c ≤ 180) (e33 : M 42 33 = nI P) (e34 : M 42 34 = 0) (h : ∀ M', (∀ a, a ≠ 42 → a ≠ r → M' a = M a) → (∀ j, j ≠ 33 → M' 42 j = M 42 j) → M' 42 33 = nI (P + c) → (∀ j, j < c → M' r j = M 65 (P + j)) → post M' L) : wpX9_passRow r n (nI c) M L post := by
  unfold wpX9_passRow wlX9_passRow_2
  refine zlp_forI c (fun k s => ∃ M', s = (M', L, nI c, nI k) ∧ (∀ a, a ≠ 42 → a ≠ r → M' a = M a) ∧ (∀ j, j ≠ 33 → M' 42 j = M 42 j) ∧ M' 42 33 = nI (P + k) ∧ (∀ j, j < k → M' r j = M 65 (P + j))) ⟨M, rfl, fun _ _ _ => rfl, fun _ _ => rfl, e33, fun j hj => absurd hj (by omega)⟩ ?_ ?_
  · rintro k K _ hk ⟨M', rfl, h1, h2, h3, h4⟩ hK
    show wpX9_passRow_2 r n post _ M' L (nI c) (nI k)
    unfold wpX9_passRow_2
    have ek : (nI k).toNatClampNeg = k := nI_clamp (by omega)
    have vk : vp_in (nI k) n := vp_in_nI (by omega) (by omega)
    rw [ek]
    refine pk_le c k (fun h => by omega) (fun _ => ⟨vk, sX9_passR (P := P + k) (by omega) h3 (by rw [h2 34 (by decide)]; exact e34) ⟨vk, fun M2 e2 w ew => ?_⟩⟩)
    refine hK _ ⟨M2, by show (M2, L, nI c, w) = _; rw [ew, nI_1], fun a a1 a2 => by rw [e2, zs_ne a2, zs_ne a1]; exact h1 a a1 a2, fun j hj => by rw [e2, zs_ne (Ne.symm hr.1), zs_nj hj]; exact h2 j hj, by rw [e2, zs_ne (Ne.symm hr.1), zs_eq]; rfl, fun j hj => ?_⟩
    rw [e2, zs_at, zs_ne hr.1, h1 65 (by decide) (Ne.symm hr.2)]
    by_cases e : j = k
    · rw [if_pos e, e]
    · rw [if_neg e]; exact h4 j (by omega)
  · rintro K _ ⟨M', rfl, h1, h2, h3, h4⟩
    show wpX9_passRow_2 r n post _ M' L (nI c) (nI c)
    unfold wpX9_passRow_2
    exact pk_le c c (fun _ => h M' h1 h2 h3 h4) (fun h => by omega)
/-- where a row lies in an image: cell, length, place -/
theorem sX9_passAllW {post : Mm → Ml → Prop} {q : Nat} (hq : q + 72 ≤ 180) (e33 : M 42 33 = nI q) (e34 : ¬ M 42 34 = 0) (h : ∀ M', (∀ a, a ≠ 42 → a ≠ 65 → M' a = M a) → (∀ j, j ≠ 33 → M' 42 j = M 42 j) → (M' 65 q = M 42 0 ∧ M' 65 (q + 1) = M 42 11) → (∀ i, 1 ≤ i → i ≤ 10 → ∀ j, j < (if i ≤ 5 then 8 else if i ≤ 7 then 6 else if i = 8 then 2 else 8) → M' 65 (q + voff i + j) = M (42 + i) j) → (∀ j, (j < q ∨ q + 72 ≤ j) → M' 65 j = M 65 j) → post M' L) : wpX9_passAll M L post := by
  unfold wpX9_passAll
  refine sX9_passW (P := q) (by omega) e33 e34 (fun A1 f1 => ?_)
  have A1e : A1 = zs (zs M 65 q (M 42 0)) 42 33 (nI (q + 1)) := by
    rw [f1]
    have := zs_self (zs (zs M 65 q (M 42 0)) 42 33 (nI (q + 1))) 42 0
    rw [show zs (zs M 65 q (M 42 0)) 42 33 (nI (q + 1)) 42 0 = M 42 0 by rw [zs_nj (by decide), zs_ne (by decide)]] at this
    exact this
  have A1n : ∀ a, a ≠ 42 → a ≠ 65 → A1 a = M a := fun a h1 h2 => by rw [A1e, zs_ne h1, zs_ne h2]
  have A1j : ∀ j, j ≠ 33 → A1 42 j = M 42 j := fun j hj => by rw [A1e, zs_nj hj, zs_ne (by decide)]
  have A1k : A1 42 33 = nI (q + 1) := by rw [A1e, zs_eq]
  have A1v : ∀ j, A1 65 j = if j = q then M 42 0 else M 65 j := fun j => by rw [A1e, zs_ne (by decide), zs_at]
  refine sX9_passW (P := q + 1) (by omega) A1k (by rw [A1j 34 (by decide)]; exact e34) (fun A2 f2 => ?_)
  rw [A1j 11 (by decide)] at f2
  have A2e : A2 = zs (zs A1 65 (q + 1) (M 42 11)) 42 33 (nI (q + 1 + 1)) := by
    rw [f2]
    have := zs_self (zs (zs A1 65 (q + 1) (M 42 11)) 42 33 (nI (q + 1 + 1))) 42 11
    rw [show zs (zs A1 65 (q + 1) (M 42 11)) 42 33 (nI (q + 1 + 1)) 42 11 = M 42 11 by rw [zs_nj (by decide), zs_ne (by decide)]; exact A1j 11 (by decide)] at this
    exact this
  have n2 : ∀ a, a ≠ 42 → a ≠ 65 → A2 a = M a := fun a h1 h2 => by rw [A2e, zs_ne h1, zs_ne h2]; exact A1n a h1 h2
  have j2 : ∀ j, j ≠ 33 → A2 42 j = M 42 j := fun j hj => by rw [A2e, zs_nj hj, zs_ne (by decide)]; exact A1j j hj
  have k2 : A2 42 33 = nI (q + 2) := by rw [A2e, zs_eq]
  have v2 : ∀ j, A2 65 j = if j = q + 1 then M 42 11 else if j = q then M 42 0 else M 65 j := fun j => by rw [A2e, zs_ne (by decide), zs_at, A1v]
  have ne34 : ∀ X : Mm, (∀ j, j ≠ 33 → X 42 j = M 42 j) → ¬ X 42 34 = 0 := fun X hX => by rw [hX 34 (by decide)]; exact e34
  refine sX9_passRowW (c := 8) (P := q + 2) (by decide) (by decide) (by decide) (by omega) k2 (ne34 _ j2) (fun B1 n3 j3 k3 v3 w3 => ?_)
  have n3 : ∀ a, a ≠ 42 → a ≠ 65 → B1 a = M a := fun a h1 h2 => (n3 a h1 h2).trans (n2 a h1 h2)
  have j3 : ∀ j, j ≠ 33 → B1 42 j = M 42 j := fun j hj => (j3 j hj).trans (j2 j hj)
  refine sX9_passRowW (c := 8) (P := q + 10) (by decide) (by decide) (by decide) (by omega) k3 (ne34 _ j3) (fun B2 n4 j4 k4 v4 w4 => ?_)
  have n4 : ∀ a, a ≠ 42 → a ≠ 65 → B2 a = M a := fun a h1 h2 => (n4 a h1 h2).trans (n3 a h1 h2)
  have j4 : ∀ j, j ≠ 33 → B2 42 j = M 42 j := fun j hj => (j4 j hj).trans (j3 j hj)
  refine sX9_passRowW (c := 8) (P := q + 18) (by decide) (by decide) (by decide) (by omega) k4 (ne34 _ j4) (fun B3 n5 j5 k5 v5 w5 => ?_)
  have n5 : ∀ a, a ≠ 42 → a ≠ 65 → B3 a = M a := fun a h1 h2 => (n5 a h1 h2).trans (n4 a h1 h2)
  have j5 : ∀ j, j ≠ 33 → B3 42 j = M 42 j := fun j hj => (j5 j hj).trans (j4 j hj)
  refine sX9_passRowW (c := 8) (P := q + 26) (by decide) (by decide) (by decide) (by omega) k5 (ne34 _ j5) (fun B4 n6 j6 k6 v6 w6 => ?_)
  have n6 : ∀ a, a ≠ 42 → a ≠ 65 → B4 a = M a := fun a h1 h2 => (n6 a h1 h2).trans (n5 a h1 h2)
  have j6 : ∀ j, j ≠ 33 → B4 42 j = M 42 j := fun j hj => (j6 j hj).trans (j5 j hj)
  refine sX9_passRowW (c := 8) (P := q + 34) (by decide) (by decide) (by decide) (by omega) k6 (ne34 _ j6) (fun B5 n7 j7 k7 v7 w7 => ?_)
  have n7 : ∀ a, a ≠ 42 → a ≠ 65 → B5 a = M a := fun a h1 h2 => (n7 a h1 h2).trans (n6 a h1 h2)
  have j7 : ∀ j, j ≠ 33 → B5 42 j = M 42 j := fun j hj => (j7 j hj).trans (j6 j hj)
  refine sX9_passRowW (c := 6) (P := q + 42) (by decide) (by decide) (by decide) (by omega) k7 (ne34 _ j7) (fun B6 n8 j8 k8 v8 w8 => ?_)
  have n8 : ∀ a, a ≠ 42 → a ≠ 65 → B6 a = M a := fun a h1 h2 => (n8 a h1 h2).trans (n7 a h1 h2)
  have j8 : ∀ j, j ≠ 33 → B6 42 j = M 42 j := fun j hj => (j8 j hj).trans (j7 j hj)
  refine sX9_passRowW (c := 6) (P := q + 48) (by decide) (by decide) (by decide) (by omega) k8 (ne34 _ j8) (fun B7 n9 j9 k9 v9 w9 => ?_)
  have n9 : ∀ a, a ≠ 42 → a ≠ 65 → B7 a = M a := fun a h1 h2 => (n9 a h1 h2).trans (n8 a h1 h2)
  have j9 : ∀ j, j ≠ 33 → B7 42 j = M 42 j := fun j hj => (j9 j hj).trans (j8 j hj)
  refine sX9_passRowW (c := 2) (P := q + 54) (by decide) (by decide) (by decide) (by omega) k9 (ne34 _ j9) (fun B8 n10 j10 k10 v10 w10 => ?_)
  have n10 : ∀ a, a ≠ 42 → a ≠ 65 → B8 a = M a := fun a h1 h2 => (n10 a h1 h2).trans (n9 a h1 h2)
  have j10 : ∀ j, j ≠ 33 → B8 42 j = M 42 j := fun j hj => (j10 j hj).trans (j9 j hj)
  refine sX9_passRowW (c := 8) (P := q + 56) (by decide) (by decide) (by decide) (by omega) k10 (ne34 _ j10) (fun B9 n11 j11 k11 v11 w11 => ?_)
  have n11 : ∀ a, a ≠ 42 → a ≠ 65 → B9 a = M a := fun a h1 h2 => (n11 a h1 h2).trans (n10 a h1 h2)
  have j11 : ∀ j, j ≠ 33 → B9 42 j = M 42 j := fun j hj => (j11 j hj).trans (j10 j hj)
  refine sX9_passRowW (c := 8) (P := q + 64) (by decide) (by decide) (by decide) (by omega) k11 (ne34 _ j11) (fun B10 n12 j12 k12 v12 w12 => ?_)
  have n12 : ∀ a, a ≠ 42 → a ≠ 65 → B10 a = M a := fun a h1 h2 => (n12 a h1 h2).trans (n11 a h1 h2)
  have j12 : ∀ j, j ≠ 33 → B10 42 j = M 42 j := fun j hj => (j12 j hj).trans (j11 j hj)
  refine h B10 n12 j12 ⟨?_, ?_⟩ (fun i h1 h2 j hj => ?_) (fun j hj => ?_)
  · rw [w12 _ (by omega), w11 _ (by omega), w10 _ (by omega), w9 _ (by omega), w8 _ (by omega), w7 _ (by omega), w6 _ (by omega), w5 _ (by omega), w4 _ (by omega), w3 _ (by omega), v2, if_neg (by omega), if_pos rfl]
  · rw [w12 _ (by omega), w11 _ (by omega), w10 _ (by omega), w9 _ (by omega), w8 _ (by omega), w7 _ (by omega), w6 _ (by omega), w5 _ (by omega), w4 _ (by omega), w3 _ (by omega), v2, if_pos rfl]
  · rcases (show i = 1 ∨ i = 2 ∨ i = 3 ∨ i = 4 ∨ i = 5 ∨ i = 6 ∨ i = 7 ∨ i = 8 ∨ i = 9 ∨ i = 10 by omega) with rfl | rfl | rfl | rfl | rfl | rfl | rfl | rfl | rfl | rfl
    · have hj : j < 8 := hj
      show B10 65 (q + 2 + j) = M 43 j
      rw [w12 _ (by omega), w11 _ (by omega), w10 _ (by omega), w9 _ (by omega), w8 _ (by omega), w7 _ (by omega), w6 _ (by omega), w5 _ (by omega), w4 _ (by omega), v3 j hj, n2 43 (by decide) (by decide)]
    · have hj : j < 8 := hj
      show B10 65 (q + 10 + j) = M 44 j
      rw [w12 _ (by omega), w11 _ (by omega), w10 _ (by omega), w9 _ (by omega), w8 _ (by omega), w7 _ (by omega), w6 _ (by omega), w5 _ (by omega), v4 j hj, n3 44 (by decide) (by decide)]
    · have hj : j < 8 := hj
      show B10 65 (q + 18 + j) = M 45 j
      rw [w12 _ (by omega), w11 _ (by omega), w10 _ (by omega), w9 _ (by omega), w8 _ (by omega), w7 _ (by omega), w6 _ (by omega), v5 j hj, n4 45 (by decide) (by decide)]
    · have hj : j < 8 := hj
      show B10 65 (q + 26 + j) = M 46 j
      rw [w12 _ (by omega), w11 _ (by omega), w10 _ (by omega), w9 _ (by omega), w8 _ (by omega), w7 _ (by omega), v6 j hj, n5 46 (by decide) (by decide)]
    · have hj : j < 8 := hj
      show B10 65 (q + 34 + j) = M 47 j
      rw [w12 _ (by omega), w11 _ (by omega), w10 _ (by omega), w9 _ (by omega), w8 _ (by omega), v7 j hj, n6 47 (by decide) (by decide)]
    · have hj : j < 6 := hj
      show B10 65 (q + 42 + j) = M 48 j
      rw [w12 _ (by omega), w11 _ (by omega), w10 _ (by omega), w9 _ (by omega), v8 j hj, n7 48 (by decide) (by decide)]
    · have hj : j < 6 := hj
      show B10 65 (q + 48 + j) = M 49 j
      rw [w12 _ (by omega), w11 _ (by omega), w10 _ (by omega), v9 j hj, n8 49 (by decide) (by decide)]
    · have hj : j < 2 := hj
      show B10 65 (q + 54 + j) = M 50 j
      rw [w12 _ (by omega), w11 _ (by omega), v10 j hj, n9 50 (by decide) (by decide)]
    · have hj : j < 8 := hj
      show B10 65 (q + 56 + j) = M 51 j
      rw [w12 _ (by omega), v11 j hj, n10 51 (by decide) (by decide)]
    · have hj : j < 8 := hj
      show B10 65 (q + 64 + j) = M 52 j
      rw [v12 j hj, n11 52 (by decide) (by decide)]
  · rw [w12 _ (by omega), w11 _ (by omega), w10 _ (by omega), w9 _ (by omega), w8 _ (by omega), w7 _ (by omega), w6 _ (by omega), w5 _ (by omega), w4 _ (by omega), w3 _ (by omega), v2, if_neg (by omega), if_neg (by omega)]
end IMG
