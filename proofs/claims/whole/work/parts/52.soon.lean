/-! the fewest airs: the pair -/
section SOONC
variable {M : Mm} {L : Ml}
theorem StO_fin {c d b n a : Nat} {v : Int32} (h : StO c d b (n + 1) a v) (ha : a < 256) (hno : ∀ x, x < 256 → ¬ lst c d b x (n + 1)) : soonA c d a b v := by
  have up : ∀ m, n + 1 ≤ m → ∀ x, x < 256 → ¬ lst c d b x m := by
    intro m
    induction m with
    | zero => intro hm; omega
    | succ m ih =>
      intro hm x hx hl
      by_cases e : n + 1 = m + 1
      · rw [← e] at hl; exact hno x hx hl
      · have hl2 := (lst_up (c := c) (d := d) (b := b) (n := m) (x := x) (fun m' hm' => hl.2 m' (by omega))).mp hl
        rcases hl2 with z | z
        · exact ih (by omega) _ (zgro_lt _ _) z
        · exact ih (by omega) _ (zgro_lt _ _) z
  rcases h with ⟨e, hn⟩ | ⟨m, hm, e, hl⟩
  · refine Or.inl ⟨e, fun m => ?_⟩
    have key : ∀ N m, m ≤ N → ¬ pth c d m a b := by
      intro N
      induction N with
      | zero => intro m hm; exact hn m (by omega)
      | succ N ih =>
        intro m hm
        by_cases hmn : m ≤ n + 1
        · exact hn m hmn
        · by_cases hm2 : m ≤ N
          · exact ih m hm2
          · intro hp
            exact up m (by omega) a ha ⟨hp, fun m' hm' => ih m' (by omega)⟩
    exact key m m (Nat.le_refl m)
  · exact Or.inr ⟨m, e, hl.1, hl.2⟩
theorem sX9_soonRun {c d a b : Nat} {post : Int32 → Mm → Ml → Prop} (hc : c < 256) (hd : d < 256) (ha : a < 256) (hb : b < 256) (e0 : M 50 0 = nI c) (e1 : M 50 1 = nI d) (h : ∀ v M', soonA c d a b v → (∀ i, i ≠ 58 → M' i = M i) → post v M' L) : ∃ j9 : Nat, wlX9_soon_19 post j9 (M, L, nI a, nI b, (0 : Int32)) := by
  unfold wlX9_soon_19
  refine zlp_forI 256 (fun k s => ∃ M', s = (M', L, nI a, nI b, nI k) ∧ (∀ i, i ≠ 58 → M' i = M i) ∧ ∀ x, x < k → M' 58 x = if x = b then 0 else -6) ⟨M, rfl, fun _ _ => rfl, fun x hx => absurd hx (by omega)⟩ ?_ ?_
  · rintro k K _ hk ⟨M', rfl, h1, h2⟩ hK
    show wpX9_soon_19 post _ M' L (nI a) (nI b) (nI k)
    unfold wpX9_soon_19 wpX9_soon_42
    rw [nI_clamp (n := k) (by omega)]
    have go : ∀ v : Int32, v = (if k = b then 0 else -6) → vp_in (nI k) 256 ∧ (∀ M_42 : Mm, M_42 = zs M' 58 k v → (∀ a_43 : Int32, a_43 = nI k + (1 : Int32) → K (M_42, L, nI a, nI b, a_43))) := fun v ev => ⟨vp_in_nI hk (by decide), fun M2 e2 w ew => hK _ ⟨M2, by rw [ew, nI_1], fun i hi => by rw [e2, zs_ne hi]; exact h1 i hi, fun x hx => by
      rw [e2, zs_at]
      by_cases q : x = k
      · rw [if_pos q, ev, q]
      · rw [if_neg q]; exact h2 x (by omega)⟩⟩
    refine pk_le 256 k (fun h => by omega) (fun _ => ⟨fun q => go _ ?_, fun q => go _ ?_⟩)
    · rw [if_neg (fun z => q (by rw [z]))]
    · rw [if_pos (nI_inj (by omega) (by omega) q)]
  · rintro K _ ⟨M', rfl, h1, h2⟩
    show wpX9_soon_19 post _ M' L (nI a) (nI b) (nI 256)
    unfold wpX9_soon_19
    refine pk_le 256 256 (fun _ => ?_) (fun h => by omega)
    unfold wlX9_soon_51
    have st0 : ∀ x, x < 256 → StO c d b 0 x (M' 58 x) := by
      intro x hx
      rw [h2 x hx]
      by_cases e : x = b
      · rw [if_pos e]
        exact Or.inr ⟨0, Nat.le_refl 0, rfl, e, fun m' hm => absurd hm (by omega)⟩
      · rw [if_neg e]
        refine Or.inl ⟨rfl, fun m hm => ?_⟩
        have : m = 0 := by omega
        subst this
        exact e
    refine zlp_ok (fun s => ∃ M' n, s = (M', L, nI a, nI n) ∧ (∀ i, i ≠ 58 → M' i = M i) ∧ (∀ x, x < 256 → StO c d b n x (M' 58 x)) ∧ n + zct (fun x => decide (M' 58 x = -6)) 256 ≤ 256) (fun (s : Mm × Ml × Int32 × Int32) => zct (fun x => decide (s.1 58 x = -6)) 256) ?_ ⟨M', 0, rfl, h1, st0, by have := zct_le (fun x => decide (M' 58 x = -6)) 256; omega⟩
    rintro K2 _ ⟨M', n, rfl, h1, h3, h4⟩ hK
    show wpX9_soon_51 post _ M' L (nI a) (nI n)
    unfold wpX9_soon_51
    refine sX9_findOff hc hd (by omega) (by rw [h1 50 (by decide)]; exact e0) (by rw [h1 50 (by decide)]; exact e1) h3 (fun r M2 g1 g2 g3 => ?_)
    have hn : ∀ i, i ≠ 58 → M2 i = M i := fun i hi => (g1 i hi).trans (h1 i hi)
    rcases g3 with ⟨rfl, g3⟩ | ⟨rfl, g3⟩
    · refine c0 ⟨vp_in_nI ha (by decide), ?_⟩
      rw [nI_clamp (n := a) (by omega)]
      exact h _ M2 (StO_fin (g2 a ha) ha g3) hn
    · refine c1 (fun w ew => hK _ ⟨M2, n + 1, by rw [ew, nI_1], hn, g2, by omega⟩ ?_)
      show zct (fun x => decide (M2 58 x = -6)) 256 < zct (fun x => decide (M' 58 x = -6)) 256
      exact g3
theorem pr_soon {post : Int32 → Mm → Ml → Prop} (hR : RI M) {x y : Int32} (h : ∀ r M1 L1, agr (wpX9_soon x y) r M1 L1 → post r M1 L1) : wpX8_soon x y M L post := by
  obtain ⟨⟨t, u, hY⟩, -⟩ := id hR
  obtain ⟨a1, a2, ⟨c, hc, a3⟩, ⟨d, hd, a4⟩⟩ := hY.2.2.2.2.2.2.2.1
  have a1 : M 50 0 = M 14 8 := a1
  have a2 : M 50 1 = M 14 9 := a2
  rw [a3] at a1
  rw [a4] at a2
  unfold wpX8_soon wpX8_soon_20
  refine sX8_isBelow 256 (fun hx => c1 ?_) (fun hout => c0 (h _ _ _ (fun p2 hp => ?_)))
  rotate_left
  · unfold wpX9_soon wpX9_soon_14
    exact sX9_isArm (fun z => absurd z hout) (fun _ => c0 (hp _ _ hR))
  refine sX8_isBelow 256 (fun hy => b1 ?_) (fun hout => b0 (h _ _ _ (fun p2 hp => ?_)))
  rotate_left
  · unfold wpX9_soon wpX9_soon_14
    exact sX9_isArm (fun _ => c1 (sX9_isArm (fun z => absurd z hout) (fun _ => b0 (hp _ _ hR)))) (fun z => absurd hx z)
  obtain ⟨a, ha, rfl⟩ := z_rng (n := 256) hx (by decide)
  obtain ⟨b, hb, rfl⟩ := z_rng (n := 256) hy (by decide)
  rw [a3, a4]
  refine sX0_fewestAirs hc hd ha hb (fun v A hv hA => h _ _ _ (fun p2 hp => ?_))
  unfold wpX9_soon
  refine sX9_isArm (fun _ => c1 (sX9_isArm (fun _ => b1 ?_) (fun z => absurd hy z))) (fun z => absurd hx z)
  refine sX9_soonRun hc hd ha hb (by rw [hA 50 (by decide) (by decide) (by decide)]; exact a1) (by rw [hA 50 (by decide) (by decide) (by decide)]; exact a2) (fun v' B hv' hB => ?_)
  rw [soonA_one hv' hv]
  have hn : ∀ i, i ≠ 7 → i ≠ 8 → i ≠ 9 → i ≠ 58 → B i = M i := fun i h1 h2 h3 h4 => (hB i h4).trans (hA i h1 h2 h3)
  exact hp _ _ (RI_same hR (fun i hi => hn i (by unfold kp at hi; omega) (by unfold kp at hi; omega) (by unfold kp at hi; omega) (by unfold kp at hi; omega)) (by rw [hn 2 (by decide) (by decide) (by decide) (by decide)]) (by rw [hn 42 (by decide) (by decide) (by decide) (by decide)]) (by rw [hn 42 (by decide) (by decide) (by decide) (by decide)]) (by rw [hn 42 (by decide) (by decide) (by decide) (by decide)]))
end SOONC
