/-! the acts, of the class on the yard b, of the model -/
theorem zup_put' {f g : Nat → Int32} {k : Nat} {v : Int32} (h : g k = v) : upd (zup f g k) k v = zup f g (k + 1) := by subst h; exact zup_put f g k
theorem zr0 {M : Mm} {c : Nat} (f : Nat → Int32) (h : f = M c) : zr M c f = M := by subst h; exact zr_self M c
section ZY2
variable {b : Nat} {M : Mm} {L : Ml} {post : Mm → Ml → Prop}
def cGrowR (b : Nat) (w : Int32) (M : Mm) : Nat → Int32 := fun j => if M (b + 3) j ≤ 0 then M (b + 1) j else zg32 (M (b + 1) j) w
def cGrow (b : Nat) (w : Int32) (M : Mm) : Mm := zr M (b + 1) (zup (M (b + 1)) (cGrowR b w M) 8)
theorem sX7_growAll {w : Int32} (hw : zlt 256 w) (ha : ∀ k, k < 8 → ¬ M (b + 3) k ≤ 0 → zlt 256 (M (b + 1) k)) (h : post (cGrow b w M) L) : wpX7_growAll b w M L post := by
  unfold wpX7_growAll wlX7_growAll_2
  have key := zlp_for (F := fun K s => wpX7_growAll_2 b post (fun M L v1 v2 => K (M, L, v1, v2)) s.1 s.2.1 s.2.2.1 s.2.2.2) 8 (fun k => (zr M (b + 1) (zup (M (b + 1)) (cGrowR b w M) k), L, w, nI k)) ?_ ?_
  · rw [zup_0, zr_self] at key
    exact key
  · intro k K hk hK
    have ek : (nI k).toNatClampNeg = k := nI_clamp (by omega)
    show wpX7_growAll_2 b post _ (zr M (b + 1) (zup (M (b + 1)) (cGrowR b w M) k)) L w (nI k)
    unfold wpX7_growAll_2 wpX7_growAll_33
    refine pk_le 8 k (fun h => by omega) (fun _ => ⟨vp_in_nI hk (by decide), ?_⟩)
    rw [ek, zr_ne (by omega), zr_eq, zup_at]
    refine ⟨fun hc a ha => ?_, fun hc => ⟨vp_in_nI hk (by decide), sX3_grown32 (ha k hk hc) hw ⟨vp_in_nI hk (by decide), ?_⟩⟩⟩
    · rw [zup_same (by simp [cGrowR, hc])] at hK
      rw [ha, nI_1]; exact hK
    · intro M1 hM1 a ha
      rw [hM1, zs_zr, zup_put' (by simp [cGrowR, hc]), ha, nI_1]
      exact hK
  · intro K
    exact pk_le 8 8 (fun _ => h) (fun h => by omega)
theorem sX7_blow {k : Nat} {x : Int32} (hk : k < 8) (h1 : 0 ≤ x.toInt ∧ x.toInt < 16 → post (zs M (b + 2) k x) L) (h0 : ¬ (0 ≤ x.toInt ∧ x.toInt < 16) → post (zs (zs M (b + 2) k (-6)) (b + 3) k 0) L) : wpX7_blow b (nI k) x M L post := by
  unfold wpX7_blow wpX7_blow_34
  have ek : (nI k).toNatClampNeg = k := nI_clamp (by omega)
  rw [ek]
  refine sX8_isBelow 16 (fun h => c1 ⟨vp_in_nI hk (by decide), fun M1 e1 => ?_⟩) (fun h => c0 ⟨vp_in_nI hk (by decide), fun M1 e1 => ⟨vp_in_nI hk (by decide), fun M2 e2 => ?_⟩⟩)
  · rw [e1]; exact h1 h
  · rw [e2, e1]; exact h0 h
/-- where a wind brings one; whether he is still up -/
def zwind (p d : Int32) : Int32 := if 0 ≤ (p + d).toInt ∧ (p + d).toInt < 16 then p + d else -6
def zwindH (p d h : Int32) : Int32 := if 0 ≤ (p + d).toInt ∧ (p + d).toInt < 16 then h else 0
def cBlowP (b : Nat) (d : Int32) (M : Mm) : Nat → Int32 := fun j => if M (b + 3) j ≤ 0 then M (b + 2) j else zwind (M (b + 2) j) d
def cBlowH (b : Nat) (d : Int32) (M : Mm) : Nat → Int32 := fun j => if M (b + 3) j ≤ 0 then M (b + 3) j else zwindH (M (b + 2) j) d (M (b + 3) j)
def cBlow (b : Nat) (d : Int32) (M : Mm) : Mm := zr (zr M (b + 2) (zup (M (b + 2)) (cBlowP b d M) 8)) (b + 3) (zup (M (b + 3)) (cBlowH b d M) 8)
theorem zr2_0 {M : Mm} {c e : Nat} {g h : Nat → Int32} (hce : c ≠ e) : zr (zr M c (zup (M c) g 0)) e (zup (M e) h 0) = M := by
  rw [zup_0, zup_0, zr_self, zr_self]
theorem sX7_blowAll {d : Int32} (h : post (cBlow b d M) L) : wpX7_blowAll b d M L post := by
  unfold wpX7_blowAll wlX7_blowAll_2
  have key := zlp_for (F := fun K s => wpX7_blowAll_2 b post (fun M L v1 v2 => K (M, L, v1, v2)) s.1 s.2.1 s.2.2.1 s.2.2.2) 8 (fun k => (zr (zr M (b + 2) (zup (M (b + 2)) (cBlowP b d M) k)) (b + 3) (zup (M (b + 3)) (cBlowH b d M) k), L, d, nI k)) ?_ ?_
  · rw [zr2_0 (by omega)] at key
    exact key
  · intro k K hk hK
    have ek : (nI k).toNatClampNeg = k := nI_clamp (by omega)
    show wpX7_blowAll_2 b post _ (zr (zr M (b + 2) (zup (M (b + 2)) (cBlowP b d M) k)) (b + 3) (zup (M (b + 3)) (cBlowH b d M) k)) L d (nI k)
    unfold wpX7_blowAll_2 wpX7_blowAll_30
    refine pk_le 8 k (fun h => by omega) (fun _ => ⟨vp_in_nI hk (by decide), ?_⟩)
    have e3 : ∀ A B : Nat → Int32, zr (zr M (b + 2) A) (b + 3) B (b + 2) = A := fun A B => by rw [zr_ne (by omega), zr_eq]
    rw [ek, zr_eq, e3, zup_at, zup_at]
    refine ⟨fun hc a ha => ?_, fun hc => ⟨vp_in_nI hk (by decide), sX7_blow hk (fun hi a ha => ?_) (fun hi a ha => ?_)⟩⟩
    · rw [zup_same (by simp [cBlowP, hc]), zup_same (by simp [cBlowH, hc])] at hK
      rw [ha, nI_1]; exact hK
    · rw [zup_same (g := cBlowH b d M) (by unfold cBlowH zwindH; rw [if_neg hc, if_pos hi])] at hK
      rw [zs_zr2 (by omega), zup_put' (by unfold cBlowP zwind; rw [if_neg hc, if_pos hi]), ha, nI_1]
      exact hK
    · rw [zs_zr2 (by omega), zs_zr, zup_put' (by unfold cBlowP zwind; rw [if_neg hc, if_neg hi]), zup_put' (by unfold cBlowH zwindH; rw [if_neg hc, if_neg hi]), ha, nI_1]
      exact hK
  · intro K
    exact pk_le 8 8 (fun _ => h) (fun h => by omega)
theorem zCat_cong {b : Nat} {M M' : Mm} {w : Int32} (h6 : M' (b + 6) = M (b + 6)) (h7 : M' b 7 = M b 7) : ∀ d e, zCat b M' w d e = zCat b M w d e
  | 0, _ => rfl
  | d + 1, e => by
    unfold zCat
    rw [h6, h7, zCat_cong h6 h7 d (e + 1)]
def cFallH (b : Nat) (M : Mm) : Nat → Int32 := fun j => if M (b + 3) j ≤ 0 then M (b + 3) j else M (b + 3) j - 1
def cFallW (b : Nat) (M : Mm) : Nat → Int32 := fun j => if M (b + 3) j ≤ 0 then M (b + 5) j else if M (b + 3) j - 1 = 0 then zCat b M (M (b + 2) j) 6 0 else -6
def cFall (b : Nat) (M : Mm) : Mm := zr (zr M (b + 3) (zup (M (b + 3)) (cFallH b M) 8)) (b + 5) (zup (M (b + 5)) (cFallW b M) 8)
theorem sX7_lowerAll (h : post (cFall b M) L) : wpX7_lowerAll b M L post := by
  unfold wpX7_lowerAll wlX7_lowerAll_2
  have key := zlp_for (F := fun K s => wpX7_lowerAll_2 b post (fun M L v1 => K (M, L, v1)) s.1 s.2.1 s.2.2) 8 (fun k => (zr (zr M (b + 3) (zup (M (b + 3)) (cFallH b M) k)) (b + 5) (zup (M (b + 5)) (cFallW b M) k), L, nI k)) ?_ ?_
  · rw [zr2_0 (by omega)] at key
    exact key
  · intro k K hk hK
    have ek : (nI k).toNatClampNeg = k := nI_clamp (by omega)
    show wpX7_lowerAll_2 b post _ (zr (zr M (b + 3) (zup (M (b + 3)) (cFallH b M) k)) (b + 5) (zup (M (b + 5)) (cFallW b M) k)) L (nI k)
    unfold wpX7_lowerAll_2 wpX7_lowerAll_57 wpX7_lowerAll_56
    refine pk_le 8 k (fun h => by omega) (fun _ => ⟨vp_in_nI hk (by decide), ?_⟩)
    have e3 : ∀ A B : Nat → Int32, zr (zr M (b + 3) A) (b + 5) B (b + 3) = A := fun A B => by rw [zr_ne (by omega), zr_eq]
    rw [ek, e3, zup_at]
    refine ⟨fun hc a ha => ?_, fun hc => ⟨vp_in_nI hk (by decide), vp_in_nI hk (by decide), fun M1 hM1 => ⟨vp_in_nI hk (by decide), ?_⟩⟩⟩
    · rw [zup_same (by simp [cFallH, hc]), zup_same (by simp [cFallW, hc])] at hK
      rw [ha, nI_1]; exact hK
    · rw [zs_zr2 (by omega), zup_put' (by simp [cFallH, hc])] at hM1
      have e1 : M1 (b + 3) k = M (b + 3) k - 1 := by rw [hM1, e3, zup_in (by omega)]; simp [cFallH, hc]
      have e2 : M1 (b + 2) k = M (b + 2) k := by rw [hM1, zr_ne (by omega), zr_ne (by omega)]
      rw [e1]
      refine ⟨fun h1 => ⟨vp_in_nI hk (by decide), fun M2 hM2 a ha => ?_⟩, fun h1 => ⟨vp_in_nI hk (by decide), ?_⟩⟩
      · rw [hM2, hM1, zs_zr, zup_put' (by simp [cFallW, hc, h1]), ha, nI_1]
        exact hK
      · rw [e2]
        refine sX7_catcherAt ⟨vp_in_nI hk (by decide), fun M2 hM2 a ha => ?_⟩
        rw [zCat_cong (M' := M1) (M := M) (by rw [hM1, zr_ne (by omega), zr_ne (by omega)]) (by rw [hM1, zr_ne (by omega), zr_ne (by omega)])] at hM2
        rw [hM2, hM1, zs_zr, zup_put' (by simp [cFallW, hc, h1]), ha, nI_1]
        exact hK
  · intro K
    exact pk_le 8 8 (fun _ => h) (fun h => by omega)
end ZY2
/-- why an act can not be: of the class, of the model -/
def zwy (b : Nat) (M : Mm) (j : Nat) (x : Int32) : Int32 := if j = 5 then (if M (b + 6) x.toNatClampNeg = 0 then 1 else 0) else if j = 6 then (if M (b + 6) x.toNatClampNeg = 15 then 1 else 0) else if j = 7 then 0 else if zct (fun k => decide (¬ M (b + 3) k ≤ 0)) 8 = 0 then 2 else 0
def zwm (t : Nat) (M : Mm) (j : Nat) (x : Int32) : Int32 := if j = 5 then (if M 48 x.toNatClampNeg = 0 then 1 else 0) else if j = 6 then (if M 48 x.toNatClampNeg = 15 then 1 else 0) else if j = 7 then 0 else if zct (zab t M) 8 = 0 then 2 else 0
theorem z_nI0 {n : Nat} (hn : n < 2147483648) : nI n = 0 ↔ n = 0 := by
  rw [show (0 : Int32) = nI 0 from rfl, nI_eq hn (by decide)]
theorem sX7_whyNot {b : Nat} {M : Mm} {L : Ml} {post : Int32 → Mm → Ml → Prop} {j : Nat} (hj : j < 8) {x : Int32} (hx : 5 ≤ j → zlt 6 x) (h : post (zwy b M j x) M L) : wpX7_whyNot b (nI j) x M L post := by
  unfold wpX7_whyNot wpX7_whyNot_42 wpX7_whyNot_59 wpX7_whyNot_74
  have hd : j < 5 → wpX7_falling b M L (fun r_63 M_63 L_63 => (¬ r_63 = 0 → post (0 : Int32) M_63 L_63) ∧ (r_63 = 0 → post (2 : Int32) M_63 L_63)) := fun hj5 => by
    refine sX7_falling ?_
    unfold zwy at h
    rw [if_neg (by omega), if_neg (by omega), if_neg (by omega)] at h
    have hl := zbs_lt (fun k => decide (¬ M (b + 3) k ≤ 0)) 8
    have hz := zbs_0 (fun k => decide (¬ M (b + 3) k ≤ 0)) 8
    rw [z_nI0 (by omega)]
    by_cases h0 : zct (fun k => decide (¬ M (b + 3) k ≤ 0)) 8 = 0
    · rw [if_pos h0] at h
      exact nt_ (hz.mpr h0) h
    · rw [if_neg h0] at h
      exact nf_ (fun q => h0 (hz.mp q)) h
  match j, hj with
  | 0, _ => exact bf_ (by decide) (bf_ (by decide) (bf_ (by decide) (hd (by decide))))
  | 1, _ => exact bf_ (by decide) (bf_ (by decide) (bf_ (by decide) (hd (by decide))))
  | 2, _ => exact bf_ (by decide) (bf_ (by decide) (bf_ (by decide) (hd (by decide))))
  | 3, _ => exact bf_ (by decide) (bf_ (by decide) (bf_ (by decide) (hd (by decide))))
  | 4, _ => exact bf_ (by decide) (bf_ (by decide) (bf_ (by decide) (hd (by decide))))
  | 5, _ =>
    obtain ⟨e, he, rfl⟩ := hx (by decide)
    refine bt_ rfl ⟨vp_in_nI he (by decide), ?_⟩
    unfold zwy at h
    rw [if_pos rfl] at h
    by_cases h0 : M (b + 6) (nI e).toNatClampNeg = 0
    · rw [if_pos h0] at h; exact nt_ h0 h
    · rw [if_neg h0] at h; exact nf_ h0 h
  | 6, _ =>
    obtain ⟨e, he, rfl⟩ := hx (by decide)
    refine bf_ (by decide) (bt_ rfl ⟨vp_in_nI he (by decide), ?_⟩)
    unfold zwy at h
    rw [if_neg (by decide), if_pos rfl] at h
    by_cases h0 : M (b + 6) (nI e).toNatClampNeg = 15
    · rw [if_pos h0] at h; exact nt_ h0 h
    · rw [if_neg h0] at h; exact nf_ h0 h
  | 7, _ =>
    refine bf_ (by decide) (bf_ (by decide) (bt_ rfl ?_))
    exact h
theorem sX9_whyNot {M : Mm} {L : Ml} {post : Int32 → Mm → Ml → Prop} {t : Nat} (et : M 42 0 = nI t) (ht : t < 256) {j : Nat} (hj : j < 8) {x : Int32} (hx : 5 ≤ j → zlt 6 x) (h : post (zwm t M j x) M L) : wpX9_whyNot (nI j) x M L post := by
  unfold wpX9_whyNot wpX9_whyNot_42 wpX9_whyNot_59 wpX9_whyNot_74
  have hd : j < 5 → wpX9_aboveMany M L (fun r_63 M_63 L_63 => (¬ r_63 = 0 → post (0 : Int32) M_63 L_63) ∧ (r_63 = 0 → post (2 : Int32) M_63 L_63)) := fun hj5 => by
    refine sX9_aboveMany et ht ?_
    unfold zwm at h
    rw [if_neg (by omega), if_neg (by omega), if_neg (by omega)] at h
    have hl := zct_le (zab t M) 8
    rw [z_nI0 (by omega)]
    by_cases h0 : zct (zab t M) 8 = 0
    · rw [if_pos h0] at h
      exact nt_ h0 h
    · rw [if_neg h0] at h
      exact nf_ h0 h
  match j, hj with
  | 0, _ => exact bf_ (by decide) (bf_ (by decide) (bf_ (by decide) (hd (by decide))))
  | 1, _ => exact bf_ (by decide) (bf_ (by decide) (bf_ (by decide) (hd (by decide))))
  | 2, _ => exact bf_ (by decide) (bf_ (by decide) (bf_ (by decide) (hd (by decide))))
  | 3, _ => exact bf_ (by decide) (bf_ (by decide) (bf_ (by decide) (hd (by decide))))
  | 4, _ => exact bf_ (by decide) (bf_ (by decide) (bf_ (by decide) (hd (by decide))))
  | 5, _ =>
    obtain ⟨e, he, rfl⟩ := hx (by decide)
    refine bt_ rfl ⟨vp_in_nI he (by decide), ?_⟩
    unfold zwm at h
    rw [if_pos rfl] at h
    by_cases h0 : M 48 (nI e).toNatClampNeg = 0
    · rw [if_pos h0] at h; exact nt_ h0 h
    · rw [if_neg h0] at h; exact nf_ h0 h
  | 6, _ =>
    obtain ⟨e, he, rfl⟩ := hx (by decide)
    refine bf_ (by decide) (bt_ rfl ⟨vp_in_nI he (by decide), ?_⟩)
    unfold zwm at h
    rw [if_neg (by decide), if_pos rfl] at h
    by_cases h0 : M 48 (nI e).toNatClampNeg = 15
    · rw [if_pos h0] at h; exact nt_ h0 h
    · rw [if_neg h0] at h; exact nf_ h0 h
  | 7, _ =>
    refine bf_ (by decide) (bf_ (by decide) (bt_ rfl ?_))
    exact h
/-- one act, done: of the class -/
def cAct (b : Nat) (j : Nat) (x : Int32) (M : Mm) : Mm := if j = 0 then cGrow b (M b 8) M else if j = 1 then cGrow b (M b 9) M else if j = 2 then cBlow b (-1) M else if j = 3 then cBlow b 1 M else if j = 4 then cFall b M else if j = 5 then zs M (b + 6) x.toNatClampNeg (M (b + 6) x.toNatClampNeg - 1) else if j = 6 then zs M (b + 6) x.toNatClampNeg (M (b + 6) x.toNatClampNeg + 1) else zs M b 7 (M b 7 ^^^ ((1 : Int32) <<< (x &&& 31)))
theorem sX7_carryOut {b : Nat} {M : Mm} {L : Ml} {post : Mm → Ml → Prop} {j : Nat} (hj : j < 8) {x : Int32} (hx : 5 ≤ j → zlt 6 x) (h8 : zlt 256 (M b 8)) (h9 : zlt 256 (M b 9)) (ha : ∀ k, k < 8 → ¬ M (b + 3) k ≤ 0 → zlt 256 (M (b + 1) k)) (h : post (cAct b j x M) L) : wpX7_carryOut b (nI j) x M L post := by
  unfold wpX7_carryOut wpX7_carryOut_127 wpX7_carryOut_131
  match j, hj with
  | 0, _ => exact bt_ rfl (sX7_growAll h8 ha h)
  | 1, _ => exact bf_ (by decide) (bt_ rfl (sX7_growAll h9 ha h))
  | 2, _ => exact bf_ (by decide) (bf_ (by decide) (bt_ rfl (sX7_blowAll h)))
  | 3, _ => exact bf_ (by decide) (bf_ (by decide) (bf_ (by decide) (bt_ rfl (sX7_blowAll h))))
  | 4, _ => exact bf_ (by decide) (bf_ (by decide) (bf_ (by decide) (bf_ (by decide) (bt_ rfl (sX7_lowerAll h)))))
  | 5, _ =>
    obtain ⟨e, he, rfl⟩ := hx (by decide)
    exact bf_ (by decide) (bf_ (by decide) (bf_ (by decide) (bf_ (by decide) (bf_ (by decide) (bt_ rfl ⟨vp_in_nI he (by decide), vp_in_nI he (by decide), fun M1 e1 => by rw [e1]; exact h⟩)))))
  | 6, _ =>
    obtain ⟨e, he, rfl⟩ := hx (by decide)
    exact bf_ (by decide) (bf_ (by decide) (bf_ (by decide) (bf_ (by decide) (bf_ (by decide) (bf_ (by decide) (bt_ rfl ⟨vp_in_nI he (by decide), vp_in_nI he (by decide), fun M1 e1 => by rw [e1]; exact h⟩))))))
  | 7, _ =>
    exact bf_ (by decide) (bf_ (by decide) (bf_ (by decide) (bf_ (by decide) (bf_ (by decide) (bf_ (by decide) (bf_ (by decide) (bt_ rfl (fun M1 e1 => by rw [e1]; exact h))))))))
