/-! what each walk asks, out of the bytecode, by program -/
def wpJ7_fill_53178_5 (r : Nat) (n : Nat) (post : Mm → Ml → Prop) (K5 : Mm → Ml → Int32 → Int32 → Int32 → Prop) (M : Mm) (L : Ml) (v1 : Int32) (v2 : Int32) (v3 : Int32) : Prop :=
  (v3 ≤ v2 → post M L) ∧ (¬ (v3 ≤ v2) → vp_in v2 n ∧ (∀ M_13 : Mm, M_13 = zs M r v2.toNatClampNeg v1 → (∀ a_14 : Int32, a_14 = v2 + (1 : Int32) → (K5 M_13 L v1 a_14 v3))))
def wlJ7_fill_53178_5 (r : Nat) (n : Nat) (post : Mm → Ml → Prop) : Nat → (Mm × Ml × Int32 × Int32 × Int32) → Prop := zlp (fun K s => wpJ7_fill_53178_5 r n post (fun M L v1 v2 v3 => K (M, L, v1, v2, v3)) s.1 s.2.1 s.2.2.1 s.2.2.2.1 s.2.2.2.2)
def wpJ7_fill_53178 (r : Nat) (n : Nat) (x1 : Int32) (M : Mm) (L : Ml) (post : Mm → Ml → Prop) : Prop :=
  ∀ a_4 : Int32, a_4 = (Int32.ofNat n) → (∃ j9 : Nat, wlJ7_fill_53178_5 r n post j9 (M, L, x1, (0 : Int32), a_4))
def wpX0_reach_48 (post : Mm → Ml → Prop) (M : Mm) (L : Ml) : Prop :=
  post M L
def wpX0_reach (x1 : Int32) (x2 : Int32) (M : Mm) (L : Ml) (post : Mm → Ml → Prop) : Prop :=
  vp_in x1 256 ∧ ((¬ (M 8 x1.toNatClampNeg) = (-6 : Int32) → wpX0_reach_48 post M L) ∧ ((M 8 x1.toNatClampNeg) = (-6 : Int32) → ((256 : Int32) ≤ (M 7 2) → wpX0_reach_48 post M L) ∧ (¬ ((256 : Int32) ≤ (M 7 2)) → vp_in x1 256 ∧ (∀ M_27 : Mm, M_27 = zs M 8 x1.toNatClampNeg x2 → (vp_in (M_27 7 2) 256 ∧ (∀ M_37 : Mm, M_37 = zs M_27 9 (M_27 7 2).toNatClampNeg x1 → (∀ M_45 : Mm, M_45 = zs M_37 7 2 ((M_37 7 2) + (1 : Int32)) → (wpX0_reach_48 post M_45 L))))))))
def wpX3_around (x1 : Int32) (x2 : Int32) (M : Mm) (L : Ml) (post : Int32 → Mm → Ml → Prop) : Prop :=
  post (((x1 <<< ((1 : Int32) &&& 31)) >>> (x2 &&& 31)) &&& (7 : Int32)) M L
def wpX8_bit (x1 : Int32) (x2 : Int32) (M : Mm) (L : Ml) (post : Int32 → Mm → Ml → Prop) : Prop :=
  post ((x1 >>> (x2 &&& 31)) &&& (1 : Int32)) M L
def wpX3_grown_4 (post : Int32 → Mm → Ml → Prop) (K4 : Mm → Ml → Int32 → Int32 → Int32 → Int32 → Prop) (M : Mm) (L : Ml) (v0 : Int32) (v1 : Int32) (v2 : Int32) (v3 : Int32) : Prop :=
  ((8 : Int32) ≤ v3 → post v2 M L) ∧ (¬ ((8 : Int32) ≤ v3) → wpX3_around v0 v3 M L (fun r_14 M_14 L_14 => wpX8_bit v1 r_14 M_14 L_14 (fun r_17 M_17 L_17 => ∀ a_23 : Int32, a_23 = v2 ||| (r_17 <<< (v3 &&& 31)) → (∀ a_24 : Int32, a_24 = v3 + (1 : Int32) → (K4 M_17 L_17 v0 v1 a_23 a_24)))))
def wlX3_grown_4 (post : Int32 → Mm → Ml → Prop) : Nat → (Mm × Ml × Int32 × Int32 × Int32 × Int32) → Prop := zlp (fun K s => wpX3_grown_4 post (fun M L v0 v1 v2 v3 => K (M, L, v0, v1, v2, v3)) s.1 s.2.1 s.2.2.1 s.2.2.2.1 s.2.2.2.2.1 s.2.2.2.2.2)
def wpX3_grown (x1 : Int32) (x2 : Int32) (M : Mm) (L : Ml) (post : Int32 → Mm → Ml → Prop) : Prop :=
  ∃ j9 : Nat, wlX3_grown_4 post j9 (M, L, x1, x2, (0 : Int32), (0 : Int32))
def wpX0_fewestAirs_105 (post : Int32 → Mm → Ml → Prop) (M : Mm) (L : Ml) (v2 : Int32) : Prop :=
  vp_in v2 256 ∧ (post (M 8 v2.toNatClampNeg) M L)
def wpX0_fewestAirs_23 (post : Int32 → Mm → Ml → Prop) (K23 : Mm → Ml → Int32 → Int32 → Int32 → Int32 → Prop) (M : Mm) (L : Ml) (v2 : Int32) (v3 : Int32) (v4 : Int32) (v5 : Int32) : Prop :=
  ((256 : Int32) ≤ v5 → wpX0_fewestAirs_105 post M L v2) ∧ (¬ ((256 : Int32) ≤ v5) → ((M 7 2) ≤ v5 → wpX0_fewestAirs_105 post M L v2) ∧ (¬ ((M 7 2) ≤ v5) → vp_in v2 256 ∧ ((¬ (M 8 v2.toNatClampNeg) = (-6 : Int32) → wpX0_fewestAirs_105 post M L v2) ∧ ((M 8 v2.toNatClampNeg) = (-6 : Int32) → vp_in v5 256 ∧ (∀ a_58 : Int32, a_58 = M 9 v5.toNatClampNeg → (wpX3_grown a_58 v3 M L (fun r_64 M_64 L_64 => vp_in a_58 256 ∧ (wpX0_reach r_64 ((M_64 8 a_58.toNatClampNeg) + (1 : Int32)) M_64 L_64 (fun M_76 L_76 => wpX3_grown a_58 v4 M_76 L_76 (fun r_84 M_84 L_84 => vp_in a_58 256 ∧ (wpX0_reach r_84 ((M_84 8 a_58.toNatClampNeg) + (1 : Int32)) M_84 L_84 (fun M_96 L_96 => ∀ a_99 : Int32, a_99 = v5 + (1 : Int32) → (K23 M_96 L_96 v2 v3 v4 a_99)))))))))))))
def wlX0_fewestAirs_23 (post : Int32 → Mm → Ml → Prop) : Nat → (Mm × Ml × Int32 × Int32 × Int32 × Int32) → Prop := zlp (fun K s => wpX0_fewestAirs_23 post (fun M L v2 v3 v4 v5 => K (M, L, v2, v3, v4, v5)) s.1 s.2.1 s.2.2.1 s.2.2.2.1 s.2.2.2.2.1 s.2.2.2.2.2)
def wpX0_fewestAirs (x1 : Int32) (x2 : Int32) (x3 : Int32) (x4 : Int32) (M : Mm) (L : Ml) (post : Int32 → Mm → Ml → Prop) : Prop :=
  wpJ7_fill_53178 8 256 (-6 : Int32) M L (fun M_6 L_6 => ∀ M_11 : Mm, M_11 = zs M_6 7 2 (0 : Int32) → (wpX0_reach x1 (0 : Int32) M_11 L_6 (fun M_17 L_17 => ∃ j9 : Nat, wlX0_fewestAirs_23 post j9 (M_17, L_17, x2, x3, x4, (0 : Int32)))))
def wpX1_canGet_36 (b : Nat) (post : Int32 → Mm → Ml → Prop) (M : Mm) (L : Ml) (s0 : Int32) : Prop :=
  (s0 = 0 ∨ s0 = 1) ∧ post s0 M L
def wpX1_canGet_35 (b : Nat) (post : Int32 → Mm → Ml → Prop) (M : Mm) (L : Ml) : Prop :=
  wpX1_canGet_36 b post M L (0 : Int32)
def wpX1_canGet (b : Nat) (x1 : Int32) (x2 : Int32) (M : Mm) (L : Ml) (post : Int32 → Mm → Ml → Prop) : Prop :=
  vp_in x2 8 ∧ (∀ a_6 : Int32, a_6 = M (b + 3) x2.toNatClampNeg → ((a_6 ≤ 0 → wpX1_canGet_35 b post M L) ∧ (¬ (a_6 ≤ 0) → vp_in x1 6 ∧ (vp_in x2 8 ∧ ((a_6 < ((if 0 ≤ ((M (b + 6) x1.toNatClampNeg) - (M (b + 2) x2.toNatClampNeg)) then ((M (b + 6) x1.toNatClampNeg) - (M (b + 2) x2.toNatClampNeg)) else 0 - ((M (b + 6) x1.toNatClampNeg) - (M (b + 2) x2.toNatClampNeg)))) → wpX1_canGet_35 b post M L) ∧ (¬ (a_6 < ((if 0 ≤ ((M (b + 6) x1.toNatClampNeg) - (M (b + 2) x2.toNatClampNeg)) then ((M (b + 6) x1.toNatClampNeg) - (M (b + 2) x2.toNatClampNeg)) else 0 - ((M (b + 6) x1.toNatClampNeg) - (M (b + 2) x2.toNatClampNeg))))) → wpX1_canGet_36 b post M L (1 : Int32)))))))
def wpJ6_bitCount_0f7a4 (x1 : Int32) (M : Mm) (L : Ml) (post : Int32 → Mm → Ml → Prop) : Prop :=
  ∀ a_9 : Int32, a_9 = x1 - (((x1.toUInt32 >>> ((1 : Int32).toUInt32 &&& Int32.toUInt32 31)).toInt32) &&& (1431655765 : Int32)) → (∀ a_23 : Int32, a_23 = (a_9 &&& (858993459 : Int32)) + (((a_9.toUInt32 >>> ((2 : Int32).toUInt32 &&& Int32.toUInt32 31)).toInt32) &&& (858993459 : Int32)) → (∀ a_33 : Int32, a_33 = (a_23 + ((a_23.toUInt32 >>> ((4 : Int32).toUInt32 &&& Int32.toUInt32 31)).toInt32)) &&& (252645135 : Int32) → (∀ a_40 : Int32, a_40 = a_33 + ((a_33.toUInt32 >>> ((8 : Int32).toUInt32 &&& Int32.toUInt32 31)).toInt32) → (∀ a_47 : Int32, a_47 = a_40 + ((a_40.toUInt32 >>> ((16 : Int32).toUInt32 &&& Int32.toUInt32 31)).toInt32) → (post (a_47 &&& (63 : Int32)) M L)))))
def wpX1_byAddressees_32 (b : Nat) (post : Int32 → Mm → Ml → Prop) (K4 : Mm → Ml → Int32 → Int32 → Prop) (M : Mm) (L : Ml) (v1 : Int32) (v2 : Int32) : Prop :=
  ∀ a_32 : Int32, a_32 = v2 + (1 : Int32) → (K4 M L v1 a_32)
def wpX1_byAddressees_4 (b : Nat) (post : Int32 → Mm → Ml → Prop) (K4 : Mm → Ml → Int32 → Int32 → Prop) (M : Mm) (L : Ml) (v1 : Int32) (v2 : Int32) : Prop :=
  ((8 : Int32) ≤ v2 → wpJ6_bitCount_0f7a4 v1 M L (fun r_39 M_39 L_39 => post r_39 M_39 L_39)) ∧ (¬ ((8 : Int32) ≤ v2) → vp_in v2 8 ∧ (∀ a_16 : Int32, a_16 = M (b + 4) v2.toNatClampNeg → (wpX1_canGet b a_16 v2 M L (fun r_20 M_20 L_20 => (r_20 = 0 → wpX1_byAddressees_32 b post K4 M_20 L_20 v1 v2) ∧ (¬ (r_20 = 0) → ∀ a_31 : Int32, a_31 = v1 ||| ((1 : Int32) <<< (a_16 &&& 31)) → (wpX1_byAddressees_32 b post K4 M_20 L_20 a_31 v2))))))
def wlX1_byAddressees_4 (b : Nat) (post : Int32 → Mm → Ml → Prop) : Nat → (Mm × Ml × Int32 × Int32) → Prop := zlp (fun K s => wpX1_byAddressees_4 b post (fun M L v1 v2 => K (M, L, v1, v2)) s.1 s.2.1 s.2.2.1 s.2.2.2)
def wpX1_byAddressees (b : Nat) (M : Mm) (L : Ml) (post : Int32 → Mm → Ml → Prop) : Prop :=
  ∃ j9 : Nat, wlX1_byAddressees_4 b post j9 (M, L, (0 : Int32), (0 : Int32))
def wpX1_joinedBy_43 (post : Int64 → Mm → Ml → Prop) (K5 : Mm → Ml → Int32 → Int64 → Int64 → Int32 → Prop) (M : Mm) (L : Ml) (v0 : Int32) (v1 : Int64) (v3 : Int64) (v5 : Int32) : Prop :=
  ∀ a_43 : Int32, a_43 = v5 + (1 : Int32) → (K5 M L v0 v1 v3 a_43)
def wpX1_joinedBy_5 (post : Int64 → Mm → Ml → Prop) (K5 : Mm → Ml → Int32 → Int64 → Int64 → Int32 → Prop) (M : Mm) (L : Ml) (v0 : Int32) (v1 : Int64) (v3 : Int64) (v5 : Int32) : Prop :=
  ((64 : Int32) ≤ v5 → post v3 M L) ∧ (¬ ((64 : Int32) ≤ v5) → (¬ (lg_cmp ((v1 >>> (v5.toInt64 &&& 63)) &&& (1 : Int64)) (1 : Int64)) = 0 → wpX1_joinedBy_43 post K5 M L v0 v1 v3 v5) ∧ ((lg_cmp ((v1 >>> (v5.toInt64 &&& 63)) &&& (1 : Int64)) (1 : Int64)) = 0 → wpX8_bit v5 v0 M L (fun r_26 M_26 L_26 => (¬ r_26 = 0 → wpX1_joinedBy_43 post K5 M_26 L_26 v0 v1 v3 v5) ∧ (r_26 = 0 → ∀ a_42 : Int64, a_42 = v3 ||| ((1 : Int64) <<< ((v5 ||| ((1 : Int32) <<< (v0 &&& 31))).toInt64 &&& 63)) → (wpX1_joinedBy_43 post K5 M_26 L_26 v0 v1 a_42 v5)))))
def wlX1_joinedBy_5 (post : Int64 → Mm → Ml → Prop) : Nat → (Mm × Ml × Int32 × Int64 × Int64 × Int32) → Prop := zlp (fun K s => wpX1_joinedBy_5 post (fun M L v0 v1 v3 v5 => K (M, L, v0, v1, v3, v5)) s.1 s.2.1 s.2.2.1 s.2.2.2.1 s.2.2.2.2.1 s.2.2.2.2.2)
def wpX1_joinedBy (x1 : Int32) (x2 : Int64) (M : Mm) (L : Ml) (post : Int64 → Mm → Ml → Prop) : Prop :=
  ∃ j9 : Nat, wlX1_joinedBy_5 post j9 (M, L, x1, x2, (0 : Int64), (0 : Int32))
def wpX1_byWhoever_44 (b : Nat) (post : Int32 → Mm → Ml → Prop) (K4 : Mm → Ml → Int64 → Int32 → Prop) (K16 : Mm → Ml → Int64 → Int32 → Int64 → Int32 → Prop) (M : Mm) (L : Ml) (v1 : Int64) (v3 : Int32) (v4 : Int64) (v6 : Int32) : Prop :=
  ∀ a_44 : Int32, a_44 = v6 + (1 : Int32) → (K16 M L v1 v3 v4 a_44)
def wpX1_byWhoever_16 (b : Nat) (post : Int32 → Mm → Ml → Prop) (K4 : Mm → Ml → Int64 → Int32 → Prop) (K16 : Mm → Ml → Int64 → Int32 → Int64 → Int32 → Prop) (M : Mm) (L : Ml) (v1 : Int64) (v3 : Int32) (v4 : Int64) (v6 : Int32) : Prop :=
  ((6 : Int32) ≤ v6 → ∀ a_53 : Int32, a_53 = v3 + (1 : Int32) → (K4 M L v4 a_53)) ∧ (¬ ((6 : Int32) ≤ v6) → wpX1_canGet b v6 v3 M L (fun r_27 M_27 L_27 => (r_27 = 0 → wpX1_byWhoever_44 b post K4 K16 M_27 L_27 v1 v3 v4 v6) ∧ (¬ (r_27 = 0) → wpX1_joinedBy v6 v1 M_27 L_27 (fun r_38 M_38 L_38 => ∀ a_42 : Int64, a_42 = v4 ||| r_38 → (wpX1_byWhoever_44 b post K4 K16 M_38 L_38 v1 v3 a_42 v6)))))
def wlX1_byWhoever_16 (b : Nat) (post : Int32 → Mm → Ml → Prop) (K4 : Mm → Ml → Int64 → Int32 → Prop) : Nat → (Mm × Ml × Int64 × Int32 × Int64 × Int32) → Prop := zlp (fun K s => wpX1_byWhoever_16 b post K4 (fun M L v1 v3 v4 v6 => K (M, L, v1, v3, v4, v6)) s.1 s.2.1 s.2.2.1 s.2.2.2.1 s.2.2.2.2.1 s.2.2.2.2.2)
def wpX1_byWhoever_92 (b : Nat) (post : Int32 → Mm → Ml → Prop) (K64 : Mm → Ml → Int64 → Int32 → Int32 → Prop) (M : Mm) (L : Ml) (v1 : Int64) (v3 : Int32) (v4 : Int32) : Prop :=
  ∀ a_92 : Int32, a_92 = v4 + (1 : Int32) → (K64 M L v1 v3 a_92)
def wpX1_byWhoever_64 (b : Nat) (post : Int32 → Mm → Ml → Prop) (K64 : Mm → Ml → Int64 → Int32 → Int32 → Prop) (M : Mm) (L : Ml) (v1 : Int64) (v3 : Int32) (v4 : Int32) : Prop :=
  ((64 : Int32) ≤ v4 → post v3 M L) ∧ (¬ ((64 : Int32) ≤ v4) → (¬ (lg_cmp ((v1 >>> (v4.toInt64 &&& 63)) &&& (1 : Int64)) (1 : Int64)) = 0 → wpX1_byWhoever_92 b post K64 M L v1 v3 v4) ∧ ((lg_cmp ((v1 >>> (v4.toInt64 &&& 63)) &&& (1 : Int64)) (1 : Int64)) = 0 → wpJ6_bitCount_0f7a4 v4 M L (fun r_85 M_85 L_85 => ∀ a_91 : Int32, a_91 = (if v3 < r_85 then r_85 else v3) → (wpX1_byWhoever_92 b post K64 M_85 L_85 v1 a_91 v4))))
def wlX1_byWhoever_64 (b : Nat) (post : Int32 → Mm → Ml → Prop) : Nat → (Mm × Ml × Int64 × Int32 × Int32) → Prop := zlp (fun K s => wpX1_byWhoever_64 b post (fun M L v1 v3 v4 => K (M, L, v1, v3, v4)) s.1 s.2.1 s.2.2.1 s.2.2.2.1 s.2.2.2.2)
def wpX1_byWhoever_4 (b : Nat) (post : Int32 → Mm → Ml → Prop) (K4 : Mm → Ml → Int64 → Int32 → Prop) (M : Mm) (L : Ml) (v1 : Int64) (v3 : Int32) : Prop :=
  ((8 : Int32) ≤ v3 → ∃ j9 : Nat, wlX1_byWhoever_64 b post j9 (M, L, v1, (0 : Int32), (0 : Int32))) ∧ (¬ ((8 : Int32) ≤ v3) → ∃ j9 : Nat, wlX1_byWhoever_16 b post K4 j9 (M, L, v1, v3, v1, (0 : Int32)))
def wlX1_byWhoever_4 (b : Nat) (post : Int32 → Mm → Ml → Prop) : Nat → (Mm × Ml × Int64 × Int32) → Prop := zlp (fun K s => wpX1_byWhoever_4 b post (fun M L v1 v3 => K (M, L, v1, v3)) s.1 s.2.1 s.2.2.1 s.2.2.2)
def wpX1_byWhoever (b : Nat) (M : Mm) (L : Ml) (post : Int32 → Mm → Ml → Prop) : Prop :=
  ∃ j9 : Nat, wlX1_byWhoever_4 b post j9 (M, L, (1 : Int64), (0 : Int32))
def wpX7_copy (b : Nat) (b2 : Nat) (M : Mm) (L : Ml) (post : Mm → Ml → Prop) : Prop :=
  ∀ M_5 : Mm, M_5 = zs M b 0 (M b2 0) → (∀ M_20 : Mm, M_20 = zr M_5 (b + 1) (va_cpy (M_5 (b2 + 1)) (M_5 (b + 1)) 0 0 8) → (∀ M_35 : Mm, M_35 = zr M_20 (b + 2) (va_cpy (M_20 (b2 + 2)) (M_20 (b + 2)) 0 0 8) → (∀ M_50 : Mm, M_50 = zr M_35 (b + 3) (va_cpy (M_35 (b2 + 3)) (M_35 (b + 3)) 0 0 8) → (∀ M_65 : Mm, M_65 = zr M_50 (b + 4) (va_cpy (M_50 (b2 + 4)) (M_50 (b + 4)) 0 0 8) → (∀ M_80 : Mm, M_80 = zr M_65 (b + 5) (va_cpy (M_65 (b2 + 5)) (M_65 (b + 5)) 0 0 8) → (∀ M_95 : Mm, M_95 = zr M_80 (b + 6) (va_cpy (M_80 (b2 + 6)) (M_80 (b + 6)) 0 0 6) → (∀ M_103 : Mm, M_103 = zs M_95 b 7 (M_95 b2 7) → (∀ M_111 : Mm, M_111 = zs M_103 b 8 (M_103 b2 8) → (∀ M_119 : Mm, M_119 = zs M_111 b 9 (M_111 b2 9) → (∀ M_127 : Mm, M_127 = zs M_119 b 10 (M_119 b2 10) → (∀ M_135 : Mm, M_135 = zs M_127 b 11 (M_127 b2 11) → (∀ M_143 : Mm, M_143 = zs M_135 b 12 (M_135 b2 12) → (post M_143 L)))))))))))))
def wpX7_falling_25 (b : Nat) (post : Int32 → Mm → Ml → Prop) (K4 : Mm → Ml → Int32 → Int32 → Prop) (M : Mm) (L : Ml) (v1 : Int32) (v2 : Int32) : Prop :=
  ∀ a_25 : Int32, a_25 = v2 + (1 : Int32) → (K4 M L v1 a_25)
def wpX7_falling_4 (b : Nat) (post : Int32 → Mm → Ml → Prop) (K4 : Mm → Ml → Int32 → Int32 → Prop) (M : Mm) (L : Ml) (v1 : Int32) (v2 : Int32) : Prop :=
  ((8 : Int32) ≤ v2 → post v1 M L) ∧ (¬ ((8 : Int32) ≤ v2) → vp_in v2 8 ∧ (((M (b + 3) v2.toNatClampNeg) ≤ 0 → wpX7_falling_25 b post K4 M L v1 v2) ∧ (¬ ((M (b + 3) v2.toNatClampNeg) ≤ 0) → ∀ a_24 : Int32, a_24 = v1 ||| ((1 : Int32) <<< (v2 &&& 31)) → (wpX7_falling_25 b post K4 M L a_24 v2))))
def wlX7_falling_4 (b : Nat) (post : Int32 → Mm → Ml → Prop) : Nat → (Mm × Ml × Int32 × Int32) → Prop := zlp (fun K s => wpX7_falling_4 b post (fun M L v1 v2 => K (M, L, v1, v2)) s.1 s.2.1 s.2.2.1 s.2.2.2)
def wpX7_falling (b : Nat) (M : Mm) (L : Ml) (post : Int32 → Mm → Ml → Prop) : Prop :=
  ∃ j9 : Nat, wlX7_falling_4 b post j9 (M, L, (0 : Int32), (0 : Int32))
def wpX7_inRiver_27 (b : Nat) (post : Int32 → Mm → Ml → Prop) (K4 : Mm → Ml → Int32 → Int32 → Prop) (M : Mm) (L : Ml) (v1 : Int32) (v2 : Int32) : Prop :=
  ∀ a_27 : Int32, a_27 = v2 + (1 : Int32) → (K4 M L v1 a_27)
def wpX7_inRiver_4 (b : Nat) (post : Int32 → Mm → Ml → Prop) (K4 : Mm → Ml → Int32 → Int32 → Prop) (M : Mm) (L : Ml) (v1 : Int32) (v2 : Int32) : Prop :=
  ((8 : Int32) ≤ v2 → post (v1 &&& (M b 0)) M L) ∧ (¬ ((8 : Int32) ≤ v2) → vp_in v2 8 ∧ ((¬ (M (b + 2) v2.toNatClampNeg) = (-6 : Int32) → wpX7_inRiver_27 b post K4 M L v1 v2) ∧ ((M (b + 2) v2.toNatClampNeg) = (-6 : Int32) → ∀ a_26 : Int32, a_26 = v1 ||| ((1 : Int32) <<< (v2 &&& 31)) → (wpX7_inRiver_27 b post K4 M L a_26 v2))))
def wlX7_inRiver_4 (b : Nat) (post : Int32 → Mm → Ml → Prop) : Nat → (Mm × Ml × Int32 × Int32) → Prop := zlp (fun K s => wpX7_inRiver_4 b post (fun M L v1 v2 => K (M, L, v1, v2)) s.1 s.2.1 s.2.2.1 s.2.2.2)
def wpX7_inRiver (b : Nat) (M : Mm) (L : Ml) (post : Int32 → Mm → Ml → Prop) : Prop :=
  ∃ j9 : Nat, wlX7_inRiver_4 b post j9 (M, L, (0 : Int32), (0 : Int32))
def wpX7_down (b : Nat) (M : Mm) (L : Ml) (post : Int32 → Mm → Ml → Prop) : Prop :=
  wpX7_falling b M L (fun r_5 M_5 L_5 => wpX7_inRiver b M_5 L_5 (fun r_12 M_12 L_12 => post (((M b 0) &&& (r_5 ^^^ (-1 : Int32))) &&& (r_12 ^^^ (-1 : Int32))) M_12 L_12))
def wpX2_begin (b : Nat) (M : Mm) (L : Ml) (post : Mm → Ml → Prop) : Prop :=
  wpX7_copy 35 b M L (fun M_5 L_5 => ∀ M_11 : Mm, M_11 = zs M_5 6 1 (-6 : Int32) → (∀ M_17 : Mm, M_17 = zs M_11 6 2 (-6 : Int32) → (∀ M_23 : Mm, M_23 = zs M_17 6 3 (-6 : Int32) → (wpX7_down 35 M_23 L_5 (fun r_31 M_31 L_31 => ∀ M_34 : Mm, M_34 = zs M_31 6 4 r_31 → (post M_34 L_31))))))
def wpX8_isBelow_14 (post : Int32 → Mm → Ml → Prop) (M : Mm) (L : Ml) (s0 : Int32) : Prop :=
  (s0 = 0 ∨ s0 = 1) ∧ post s0 M L
def wpX8_isBelow_13 (post : Int32 → Mm → Ml → Prop) (M : Mm) (L : Ml) : Prop :=
  wpX8_isBelow_14 post M L (0 : Int32)
def wpX8_isBelow (x1 : Int32) (x2 : Int32) (M : Mm) (L : Ml) (post : Int32 → Mm → Ml → Prop) : Prop :=
  (x1 < 0 → wpX8_isBelow_13 post M L) ∧ (¬ (x1 < 0) → (x2 ≤ x1 → wpX8_isBelow_13 post M L) ∧ (¬ (x2 ≤ x1) → wpX8_isBelow_14 post M L (1 : Int32)))
def wpX7_blow_34 (b : Nat) (post : Mm → Ml → Prop) (M : Mm) (L : Ml) : Prop :=
  post M L
def wpX7_blow (b : Nat) (x1 : Int32) (x2 : Int32) (M : Mm) (L : Ml) (post : Mm → Ml → Prop) : Prop :=
  wpX8_isBelow x2 (16 : Int32) M L (fun r_3 M_3 L_3 => (r_3 = 0 → vp_in x1 8 ∧ (∀ M_26 : Mm, M_26 = zs M_3 (b + 2) x1.toNatClampNeg (-6 : Int32) → (vp_in x1 8 ∧ (∀ M_33 : Mm, M_33 = zs M_26 (b + 3) x1.toNatClampNeg (0 : Int32) → (wpX7_blow_34 b post M_33 L_3))))) ∧ (¬ (r_3 = 0) → vp_in x1 8 ∧ (∀ M_15 : Mm, M_15 = zs M_3 (b + 2) x1.toNatClampNeg x2 → (wpX7_blow_34 b post M_15 L_3))))
def wpX7_blowAll_30 (b : Nat) (post : Mm → Ml → Prop) (K2 : Mm → Ml → Int32 → Int32 → Prop) (M : Mm) (L : Ml) (v1 : Int32) (v2 : Int32) : Prop :=
  ∀ a_30 : Int32, a_30 = v2 + (1 : Int32) → (K2 M L v1 a_30)
def wpX7_blowAll_2 (b : Nat) (post : Mm → Ml → Prop) (K2 : Mm → Ml → Int32 → Int32 → Prop) (M : Mm) (L : Ml) (v1 : Int32) (v2 : Int32) : Prop :=
  ((8 : Int32) ≤ v2 → post M L) ∧ (¬ ((8 : Int32) ≤ v2) → vp_in v2 8 ∧ (((M (b + 3) v2.toNatClampNeg) ≤ 0 → wpX7_blowAll_30 b post K2 M L v1 v2) ∧ (¬ ((M (b + 3) v2.toNatClampNeg) ≤ 0) → vp_in v2 8 ∧ (wpX7_blow b v2 ((M (b + 2) v2.toNatClampNeg) + v1) M L (fun M_27 L_27 => wpX7_blowAll_30 b post K2 M_27 L_27 v1 v2)))))
def wlX7_blowAll_2 (b : Nat) (post : Mm → Ml → Prop) : Nat → (Mm × Ml × Int32 × Int32) → Prop := zlp (fun K s => wpX7_blowAll_2 b post (fun M L v1 v2 => K (M, L, v1, v2)) s.1 s.2.1 s.2.2.1 s.2.2.2)
def wpX7_blowAll (b : Nat) (x1 : Int32) (M : Mm) (L : Ml) (post : Mm → Ml → Prop) : Prop :=
  ∃ j9 : Nat, wlX7_blowAll_2 b post j9 (M, L, x1, (0 : Int32))
def wpX7_growAll_33 (b : Nat) (post : Mm → Ml → Prop) (K2 : Mm → Ml → Int32 → Int32 → Prop) (M : Mm) (L : Ml) (v1 : Int32) (v2 : Int32) : Prop :=
  ∀ a_33 : Int32, a_33 = v2 + (1 : Int32) → (K2 M L v1 a_33)
def wpX7_growAll_2 (b : Nat) (post : Mm → Ml → Prop) (K2 : Mm → Ml → Int32 → Int32 → Prop) (M : Mm) (L : Ml) (v1 : Int32) (v2 : Int32) : Prop :=
  ((8 : Int32) ≤ v2 → post M L) ∧ (¬ ((8 : Int32) ≤ v2) → vp_in v2 8 ∧ (((M (b + 3) v2.toNatClampNeg) ≤ 0 → wpX7_growAll_33 b post K2 M L v1 v2) ∧ (¬ ((M (b + 3) v2.toNatClampNeg) ≤ 0) → vp_in v2 8 ∧ (wpX3_grown (M (b + 1) v2.toNatClampNeg) v1 M L (fun r_29 M_29 L_29 => vp_in v2 8 ∧ (∀ M_32 : Mm, M_32 = zs M_29 (b + 1) v2.toNatClampNeg r_29 → (wpX7_growAll_33 b post K2 M_32 L_29 v1 v2)))))))
def wlX7_growAll_2 (b : Nat) (post : Mm → Ml → Prop) : Nat → (Mm × Ml × Int32 × Int32) → Prop := zlp (fun K s => wpX7_growAll_2 b post (fun M L v1 v2 => K (M, L, v1, v2)) s.1 s.2.1 s.2.2.1 s.2.2.2)
def wpX7_growAll (b : Nat) (x1 : Int32) (M : Mm) (L : Ml) (post : Mm → Ml → Prop) : Prop :=
  ∃ j9 : Nat, wlX7_growAll_2 b post j9 (M, L, x1, (0 : Int32))
def wpX7_catcherAt_31 (b : Nat) (post : Int32 → Mm → Ml → Prop) (K2 : Mm → Ml → Int32 → Int32 → Prop) (M : Mm) (L : Ml) (v1 : Int32) (v2 : Int32) : Prop :=
  ∀ a_31 : Int32, a_31 = v2 + (1 : Int32) → (K2 M L v1 a_31)
def wpX7_catcherAt_2 (b : Nat) (post : Int32 → Mm → Ml → Prop) (K2 : Mm → Ml → Int32 → Int32 → Prop) (M : Mm) (L : Ml) (v1 : Int32) (v2 : Int32) : Prop :=
  ((6 : Int32) ≤ v2 → post (-6 : Int32) M L) ∧ (¬ ((6 : Int32) ≤ v2) → vp_in v2 6 ∧ ((¬ (M (b + 6) v2.toNatClampNeg) = v1 → wpX7_catcherAt_31 b post K2 M L v1 v2) ∧ ((M (b + 6) v2.toNatClampNeg) = v1 → wpX8_bit (M b 7) v2 M L (fun r_23 M_23 L_23 => (¬ r_23 = 0 → wpX7_catcherAt_31 b post K2 M_23 L_23 v1 v2) ∧ (r_23 = 0 → post v2 M_23 L_23)))))
def wlX7_catcherAt_2 (b : Nat) (post : Int32 → Mm → Ml → Prop) : Nat → (Mm × Ml × Int32 × Int32) → Prop := zlp (fun K s => wpX7_catcherAt_2 b post (fun M L v1 v2 => K (M, L, v1, v2)) s.1 s.2.1 s.2.2.1 s.2.2.2)
def wpX7_catcherAt (b : Nat) (x1 : Int32) (M : Mm) (L : Ml) (post : Int32 → Mm → Ml → Prop) : Prop :=
  ∃ j9 : Nat, wlX7_catcherAt_2 b post j9 (M, L, x1, (0 : Int32))
def wpX7_lowerAll_57 (b : Nat) (post : Mm → Ml → Prop) (K2 : Mm → Ml → Int32 → Prop) (M : Mm) (L : Ml) (v1 : Int32) : Prop :=
  ∀ a_57 : Int32, a_57 = v1 + (1 : Int32) → (K2 M L a_57)
def wpX7_lowerAll_56 (b : Nat) (post : Mm → Ml → Prop) (K2 : Mm → Ml → Int32 → Prop) (M : Mm) (L : Ml) (v1 : Int32) (s0 : Int32) (s1 : Int32) : Prop :=
  vp_in s1 8 ∧ (∀ M_56 : Mm, M_56 = zs M (b + 5) s1.toNatClampNeg s0 → (wpX7_lowerAll_57 b post K2 M_56 L v1))
def wpX7_lowerAll_2 (b : Nat) (post : Mm → Ml → Prop) (K2 : Mm → Ml → Int32 → Prop) (M : Mm) (L : Ml) (v1 : Int32) : Prop :=
  ((8 : Int32) ≤ v1 → post M L) ∧ (¬ ((8 : Int32) ≤ v1) → vp_in v1 8 ∧ (((M (b + 3) v1.toNatClampNeg) ≤ 0 → wpX7_lowerAll_57 b post K2 M L v1) ∧ (¬ ((M (b + 3) v1.toNatClampNeg) ≤ 0) → vp_in v1 8 ∧ (vp_in v1 8 ∧ (∀ M_26 : Mm, M_26 = zs M (b + 3) v1.toNatClampNeg ((M (b + 3) v1.toNatClampNeg) - (1 : Int32)) → (vp_in v1 8 ∧ ((¬ (M_26 (b + 3) v1.toNatClampNeg) = 0 → wpX7_lowerAll_56 b post K2 M_26 L v1 (-6 : Int32) v1) ∧ ((M_26 (b + 3) v1.toNatClampNeg) = 0 → vp_in v1 8 ∧ (wpX7_catcherAt b (M_26 (b + 2) v1.toNatClampNeg) M_26 L (fun r_48 M_48 L_48 => wpX7_lowerAll_56 b post K2 M_48 L_48 v1 r_48 v1))))))))))
def wlX7_lowerAll_2 (b : Nat) (post : Mm → Ml → Prop) : Nat → (Mm × Ml × Int32) → Prop := zlp (fun K s => wpX7_lowerAll_2 b post (fun M L v1 => K (M, L, v1)) s.1 s.2.1 s.2.2)
def wpX7_lowerAll (b : Nat) (M : Mm) (L : Ml) (post : Mm → Ml → Prop) : Prop :=
  ∃ j9 : Nat, wlX7_lowerAll_2 b post j9 (M, L, (0 : Int32))
def wpX7_carryOut_131 (b : Nat) (post : Mm → Ml → Prop) (M : Mm) (L : Ml) : Prop :=
  post M L
def wpX7_carryOut_127 (b : Nat) (post : Mm → Ml → Prop) (M : Mm) (L : Ml) : Prop :=
  wpX7_lowerAll b M L (fun M_128 L_128 => wpX7_carryOut_131 b post M_128 L_128)
def wpX7_carryOut (b : Nat) (x1 : Int32) (x2 : Int32) (M : Mm) (L : Ml) (post : Mm → Ml → Prop) : Prop :=
  ((x1 = (0 : Int32) → wpX7_growAll b (M b 8) M L (fun M_94 L_94 => wpX7_carryOut_131 b post M_94 L_94)) ∧ (¬ (x1 = (0 : Int32)) → (x1 = (1 : Int32) → wpX7_growAll b (M b 9) M L (fun M_105 L_105 => wpX7_carryOut_131 b post M_105 L_105)) ∧ (¬ (x1 = (1 : Int32)) → (x1 = (2 : Int32) → wpX7_blowAll b (-1 : Int32) M L (fun M_113 L_113 => wpX7_carryOut_131 b post M_113 L_113)) ∧ (¬ (x1 = (2 : Int32)) → (x1 = (3 : Int32) → wpX7_blowAll b (1 : Int32) M L (fun M_121 L_121 => wpX7_carryOut_131 b post M_121 L_121)) ∧ (¬ (x1 = (3 : Int32)) → (x1 = (4 : Int32) → wpX7_carryOut_127 b post M L) ∧ (¬ (x1 = (4 : Int32)) → (x1 = (5 : Int32) → vp_in x2 6 ∧ (vp_in x2 6 ∧ (∀ M_57 : Mm, M_57 = zs M (b + 6) x2.toNatClampNeg ((M (b + 6) x2.toNatClampNeg) - (1 : Int32)) → (wpX7_carryOut_131 b post M_57 L)))) ∧ (¬ (x1 = (5 : Int32)) → (x1 = (6 : Int32) → vp_in x2 6 ∧ (vp_in x2 6 ∧ (∀ M_70 : Mm, M_70 = zs M (b + 6) x2.toNatClampNeg ((M (b + 6) x2.toNatClampNeg) + (1 : Int32)) → (wpX7_carryOut_131 b post M_70 L)))) ∧ (¬ (x1 = (6 : Int32)) → (x1 = (7 : Int32) → ∀ M_83 : Mm, M_83 = zs M b 7 ((M b 7) ^^^ ((1 : Int32) <<< (x2 &&& 31))) → (wpX7_carryOut_131 b post M_83 L)) ∧ (¬ (x1 = (7 : Int32)) → wpX7_carryOut_127 b post M L)))))))))
def wpX7_delivered_31 (b : Nat) (post : Int32 → Mm → Ml → Prop) (K4 : Mm → Ml → Int32 → Int32 → Prop) (M : Mm) (L : Ml) (v1 : Int32) (v2 : Int32) : Prop :=
  ∀ a_31 : Int32, a_31 = v2 + (1 : Int32) → (K4 M L v1 a_31)
def wpX7_delivered_4 (b : Nat) (post : Int32 → Mm → Ml → Prop) (K4 : Mm → Ml → Int32 → Int32 → Prop) (M : Mm) (L : Ml) (v1 : Int32) (v2 : Int32) : Prop :=
  ((8 : Int32) ≤ v2 → post (v1 &&& (M b 0)) M L) ∧ (¬ ((8 : Int32) ≤ v2) → vp_in v2 8 ∧ (vp_in v2 8 ∧ ((¬ (M (b + 5) v2.toNatClampNeg) = (M (b + 4) v2.toNatClampNeg) → wpX7_delivered_31 b post K4 M L v1 v2) ∧ ((M (b + 5) v2.toNatClampNeg) = (M (b + 4) v2.toNatClampNeg) → ∀ a_30 : Int32, a_30 = v1 ||| ((1 : Int32) <<< (v2 &&& 31)) → (wpX7_delivered_31 b post K4 M L a_30 v2)))))
def wlX7_delivered_4 (b : Nat) (post : Int32 → Mm → Ml → Prop) : Nat → (Mm × Ml × Int32 × Int32) → Prop := zlp (fun K s => wpX7_delivered_4 b post (fun M L v1 v2 => K (M, L, v1, v2)) s.1 s.2.1 s.2.2.1 s.2.2.2)
def wpX7_delivered (b : Nat) (M : Mm) (L : Ml) (post : Int32 → Mm → Ml → Prop) : Prop :=
  ∃ j9 : Nat, wlX7_delivered_4 b post j9 (M, L, (0 : Int32), (0 : Int32))
def wpX7_whyNot_42 (b : Nat) (post : Int32 → Mm → Ml → Prop) (M : Mm) (L : Ml) (s0 : Int32) : Prop :=
  post s0 M L
def wpX7_whyNot_59 (b : Nat) (post : Int32 → Mm → Ml → Prop) (M : Mm) (L : Ml) (s0 : Int32) : Prop :=
  post s0 M L
def wpX7_whyNot_74 (b : Nat) (post : Int32 → Mm → Ml → Prop) (M : Mm) (L : Ml) (s0 : Int32) : Prop :=
  post s0 M L
def wpX7_whyNot (b : Nat) (x1 : Int32) (x2 : Int32) (M : Mm) (L : Ml) (post : Int32 → Mm → Ml → Prop) : Prop :=
  ((x1 = (5 : Int32) → vp_in x2 6 ∧ ((¬ (M (b + 6) x2.toNatClampNeg) = 0 → wpX7_whyNot_42 b post M L (0 : Int32)) ∧ ((M (b + 6) x2.toNatClampNeg) = 0 → wpX7_whyNot_42 b post M L (1 : Int32)))) ∧ (¬ (x1 = (5 : Int32)) → (x1 = (6 : Int32) → vp_in x2 6 ∧ ((¬ (M (b + 6) x2.toNatClampNeg) = (15 : Int32) → wpX7_whyNot_59 b post M L (0 : Int32)) ∧ ((M (b + 6) x2.toNatClampNeg) = (15 : Int32) → wpX7_whyNot_59 b post M L (1 : Int32)))) ∧ (¬ (x1 = (6 : Int32)) → (x1 = (7 : Int32) → post (0 : Int32) M L) ∧ (¬ (x1 = (7 : Int32)) → wpX7_falling b M L (fun r_63 M_63 L_63 => (¬ r_63 = 0 → wpX7_whyNot_74 b post M_63 L_63 (0 : Int32)) ∧ (r_63 = 0 → wpX7_whyNot_74 b post M_63 L_63 (2 : Int32)))))))
def wpX2_live_118 (b : Nat) (post : Mm → Ml → Prop) (K7 : Mm → Ml → Int32 → Prop) (M : Mm) (L : Ml) (v3 : Int32) : Prop :=
  ∀ a_118 : Int32, a_118 = v3 + (1 : Int32) → (K7 M L a_118)
def wpX2_live_104 (b : Nat) (post : Mm → Ml → Prop) (K7 : Mm → Ml → Int32 → Prop) (M : Mm) (L : Ml) (v3 : Int32) : Prop :=
  wpX2_live_118 b post K7 M L v3
def wpX2_live_124 (b : Nat) (post : Mm → Ml → Prop) (M : Mm) (L : Ml) : Prop :=
  post M L
def wpX2_live_7 (b : Nat) (post : Mm → Ml → Prop) (K7 : Mm → Ml → Int32 → Prop) (M : Mm) (L : Ml) (v3 : Int32) : Prop :=
  ((M 2 4) ≤ v3 → wpX2_live_124 b post M L) ∧ (¬ ((M 2 4) ≤ v3) → (¬ (M 6 1) = (-6 : Int32) → wpX2_live_124 b post M L) ∧ ((M 6 1) = (-6 : Int32) → vp_in v3 60 ∧ (vp_in v3 60 ∧ (wpX7_whyNot 35 (M 4 v3.toNatClampNeg) (M 5 v3.toNatClampNeg) M L (fun r_40 M_40 L_40 => (¬ r_40 = 0 → ∀ M_109 : Mm, M_109 = zs M_40 6 1 v3 → (∀ M_115 : Mm, M_115 = zs M_109 6 2 r_40 → (wpX2_live_118 b post K7 M_115 L_40 v3))) ∧ (r_40 = 0 → wpX7_delivered 35 M_40 L_40 (fun r_54 M_54 L_54 => vp_in v3 60 ∧ (vp_in v3 60 ∧ (wpX7_carryOut 35 (M_54 4 v3.toNatClampNeg) (M_54 5 v3.toNatClampNeg) M_54 L_54 (fun M_75 L_75 => (¬ (M_75 6 3) = (-6 : Int32) → wpX2_live_104 b post K7 M_75 L_75 v3) ∧ ((M_75 6 3) = (-6 : Int32) → wpX7_delivered 35 M_75 L_75 (fun r_91 M_91 L_91 => (r_91 = r_54 → wpX2_live_104 b post K7 M_91 L_91 v3) ∧ (¬ (r_91 = r_54) → ∀ M_101 : Mm, M_101 = zs M_91 6 3 v3 → (wpX2_live_104 b post K7 M_101 L_91 v3))))))))))))))
def wlX2_live_7 (b : Nat) (post : Mm → Ml → Prop) : Nat → (Mm × Ml × Int32) → Prop := zlp (fun K s => wpX2_live_7 b post (fun M L v3 => K (M, L, v3)) s.1 s.2.1 s.2.2)
def wpX2_live (b : Nat) (M : Mm) (L : Ml) (post : Mm → Ml → Prop) : Prop :=
  wpX2_begin b M L (fun M_2 L_2 => ∃ j9 : Nat, wlX2_live_7 b post j9 (M_2, L_2, (0 : Int32)))
def wpX2_cameDown (M : Mm) (L : Ml) (post : Int32 → Mm → Ml → Prop) : Prop :=
  wpX7_down 35 M L (fun r_4 M_4 L_4 => wpJ6_bitCount_0f7a4 (r_4 &&& ((M_4 6 4) ^^^ (-1 : Int32))) M_4 L_4 (fun r_14 M_14 L_14 => post r_14 M_14 L_14))
def wpX2_dreamYear_75 (b : Nat) (post : Mm → Ml → Prop) (K14 : Mm → Ml → Int32 → Int32 → Int32 → Prop) (M : Mm) (L : Ml) (v3 : Int32) (v4 : Int32) (v5 : Int32) : Prop :=
  ∀ a_75 : Int32, a_75 = v5 + (1 : Int32) → (K14 M L v3 v4 a_75)
def wpX2_dreamYear_14 (b : Nat) (post : Mm → Ml → Prop) (K14 : Mm → Ml → Int32 → Int32 → Int32 → Prop) (M : Mm) (L : Ml) (v3 : Int32) (v4 : Int32) (v5 : Int32) : Prop :=
  (v3 ≤ v5 → post M L) ∧ (¬ (v3 ≤ v5) → ∀ a_31 : Int32, a_31 = (((75 : Int32) * v4) + (74 : Int32)) - (((75 : Int32) * v4) + (74 : Int32)) / (65537 : Int32) * (65537 : Int32) → (∀ a_38 : Int32, a_38 = a_31 - a_31 / (8 : Int32) * (8 : Int32) → (∀ a_48 : Int32, a_48 = (a_31 / (8 : Int32)) - (a_31 / (8 : Int32)) / (6 : Int32) * (6 : Int32) → (wpX7_whyNot 35 a_38 a_48 M L (fun r_58 M_58 L_58 => (¬ r_58 = 0 → wpX2_dreamYear_75 b post K14 M_58 L_58 v3 a_31 v5) ∧ (r_58 = 0 → wpX7_carryOut 35 a_38 a_48 M_58 L_58 (fun M_72 L_72 => wpX2_dreamYear_75 b post K14 M_72 L_72 v3 a_31 v5)))))))
def wlX2_dreamYear_14 (b : Nat) (post : Mm → Ml → Prop) : Nat → (Mm × Ml × Int32 × Int32 × Int32) → Prop := zlp (fun K s => wpX2_dreamYear_14 b post (fun M L v3 v4 v5 => K (M, L, v3, v4, v5)) s.1 s.2.1 s.2.2.1 s.2.2.2.1 s.2.2.2.2)
def wpX2_dreamYear (b : Nat) (x1 : Int32) (x2 : Int32) (M : Mm) (L : Ml) (post : Mm → Ml → Prop) : Prop :=
  wpX7_copy 35 b M L (fun M_5 L_5 => ∃ j9 : Nat, wlX2_dreamYear_14 b post j9 (M_5, L_5, x2, x1, (0 : Int32)))
def wpX3_readAloud_45 (post : Int32 → Mm → Ml → Prop) (K6 : Mm → Ml → Int32 → Int32 → Int32 → Int32 → Prop) (M : Mm) (L : Ml) (v0 : Int32) (v1 : Int32) (v2 : Int32) (v3 : Int32) : Prop :=
  ∀ a_45 : Int32, a_45 = v3 + (1 : Int32) → (K6 M L v0 v1 v2 a_45)
def wpX3_readAloud_36 (post : Int32 → Mm → Ml → Prop) (K6 : Mm → Ml → Int32 → Int32 → Int32 → Int32 → Prop) (M : Mm) (L : Ml) (v0 : Int32) (v1 : Int32) (v2 : Int32) (v3 : Int32) : Prop :=
  ∀ a_42 : Int32, a_42 = (v1 * (10 : Int32)) + v2 → (wpX3_readAloud_45 post K6 M L v0 a_42 (0 : Int32) v3)
def wpX3_readAloud_6 (post : Int32 → Mm → Ml → Prop) (K6 : Mm → Ml → Int32 → Int32 → Int32 → Int32 → Prop) (M : Mm) (L : Ml) (v0 : Int32) (v1 : Int32) (v2 : Int32) (v3 : Int32) : Prop :=
  ((8 : Int32) ≤ v3 → post v1 M L) ∧ (¬ ((8 : Int32) ≤ v3) → ∀ a_12 : Int32, a_12 = v2 + (1 : Int32) → ((v3 = (7 : Int32) → wpX3_readAloud_36 post K6 M L v0 v1 a_12 v3) ∧ (¬ (v3 = (7 : Int32)) → wpX8_bit v0 v3 M L (fun r_23 M_23 L_23 => wpX8_bit v0 (v3 + (1 : Int32)) M_23 L_23 (fun r_30 M_30 L_30 => (r_23 = r_30 → wpX3_readAloud_45 post K6 M_30 L_30 v0 v1 a_12 v3) ∧ (¬ (r_23 = r_30) → wpX3_readAloud_36 post K6 M_30 L_30 v0 v1 a_12 v3))))))
def wlX3_readAloud_6 (post : Int32 → Mm → Ml → Prop) : Nat → (Mm × Ml × Int32 × Int32 × Int32 × Int32) → Prop := zlp (fun K s => wpX3_readAloud_6 post (fun M L v0 v1 v2 v3 => K (M, L, v0, v1, v2, v3)) s.1 s.2.1 s.2.2.1 s.2.2.2.1 s.2.2.2.2.1 s.2.2.2.2.2)
def wpX3_readAloud (x1 : Int32) (M : Mm) (L : Ml) (post : Int32 → Mm → Ml → Prop) : Prop :=
  ∃ j9 : Nat, wlX3_readAloud_6 post j9 (M, L, x1, (0 : Int32), (0 : Int32), (0 : Int32))
def wpX3_rows_14 (G : Int32 → Int32 → Int32 → Int32 → Int32 → Mm → Ml → (Int32 → Mm → Ml → Prop) → Prop) (post : Int32 → Mm → Ml → Prop) (M : Mm) (L : Ml) (s0 : Int32) : Prop :=
  post s0 M L
def woX3_rows (G : Int32 → Int32 → Int32 → Int32 → Int32 → Mm → Ml → (Int32 → Mm → Ml → Prop) → Prop) (x1 : Int32) (x2 : Int32) (x3 : Int32) (x4 : Int32) (x5 : Int32) (M : Mm) (L : Ml) (post : Int32 → Mm → Ml → Prop) : Prop :=
  (0 < x3 → wpX3_grown x1 x4 M L (fun r_17 M_17 L_17 => G r_17 x2 (x3 - (1 : Int32)) x4 x5 M_17 L_17 (fun r_27 M_27 L_27 => wpX3_grown x1 x5 M_27 L_27 (fun r_33 M_33 L_33 => G r_33 x2 (x3 - (1 : Int32)) x4 x5 M_33 L_33 (fun r_43 M_43 L_43 => post (r_27 + r_43) M_43 L_43))))) ∧ (¬ (0 < x3) → (¬ x1 = x2 → wpX3_rows_14 G post M L (0 : Int32)) ∧ (x1 = x2 → wpX3_rows_14 G post M L (1 : Int32)))
def wpX3_rows : Nat → Int32 → Int32 → Int32 → Int32 → Int32 → Mm → Ml → (Int32 → Mm → Ml → Prop) → Prop
  | 0 => fun _ _ _ _ _ _ _ _ => False
  | d + 1 => fun x1 x2 x3 x4 x5 M L post => woX3_rows (wpX3_rows d) x1 x2 x3 x4 x5 M L post
def wpX3_firstRow_98 (post : Int64 → Mm → Ml → Prop) (K27 : Mm → Ml → Int32 → Int32 → Int32 → Int64 → Int32 → Int32 → Prop) (M : Mm) (L : Ml) (v1 : Int32) (v3 : Int32) (v4 : Int32) (v5 : Int64) (v8 : Int32) (s0 : Int32) : Prop :=
  ∀ a_100 : Int32, a_100 = v8 + (-1 : Int32) → (K27 M L v1 v3 v4 v5 s0 a_100)
def wpX3_firstRow_77 (post : Int64 → Mm → Ml → Prop) (K27 : Mm → Ml → Int32 → Int32 → Int32 → Int64 → Int32 → Int32 → Prop) (M : Mm) (L : Ml) (v1 : Int32) (v3 : Int32) (v4 : Int32) (v7 : Int32) (v8 : Int32) (v9 : Int32) (v10 : Int32) (s0 : Int32) (s1 : Int64) : Prop :=
  ∀ a_79 : Int64, a_79 = s1 + (s0.toInt64) → ((v10 = 0 → wpX3_grown v7 v4 M L (fun r_95 M_95 L_95 => wpX3_firstRow_98 post K27 M_95 L_95 v1 v3 v4 a_79 v8 r_95)) ∧ (¬ (v10 = 0) → wpX3_firstRow_98 post K27 M L v1 v3 v4 a_79 v8 v9))
def wpX3_firstRow_59 (post : Int64 → Mm → Ml → Prop) (K27 : Mm → Ml → Int32 → Int32 → Int32 → Int64 → Int32 → Int32 → Prop) (M : Mm) (L : Ml) (v1 : Int32) (v3 : Int32) (v4 : Int32) (v5 : Int64) (v7 : Int32) (v8 : Int32) (v9 : Int32) (s0 : Int32) : Prop :=
  (s0 = 0 → wpX3_firstRow_77 post K27 M L v1 v3 v4 v7 v8 v9 s0 (2 : Int32) (v5 * (10 : Int64))) ∧ (¬ (s0 = 0) → wpX3_firstRow_77 post K27 M L v1 v3 v4 v7 v8 v9 s0 (1 : Int32) (v5 * (10 : Int64)))
def wpX3_firstRow_27 (post : Int64 → Mm → Ml → Prop) (K27 : Mm → Ml → Int32 → Int32 → Int32 → Int64 → Int32 → Int32 → Prop) (M : Mm) (L : Ml) (v1 : Int32) (v3 : Int32) (v4 : Int32) (v5 : Int64) (v7 : Int32) (v8 : Int32) : Prop :=
  (v8 < 0 → post v5 M L) ∧ (¬ (v8 < 0) → wpX3_grown v7 v3 M L (fun r_35 M_35 L_35 => wpX3_rows 11 r_35 v1 v8 v3 v4 M_35 L_35 (fun r_48 M_48 L_48 => (r_48 ≤ 0 → wpX3_firstRow_59 post K27 M_48 L_48 v1 v3 v4 v5 v7 v8 r_35 (0 : Int32)) ∧ (¬ (r_48 ≤ 0) → wpX3_firstRow_59 post K27 M_48 L_48 v1 v3 v4 v5 v7 v8 r_35 (1 : Int32)))))
def wlX3_firstRow_27 (post : Int64 → Mm → Ml → Prop) : Nat → (Mm × Ml × Int32 × Int32 × Int32 × Int64 × Int32 × Int32) → Prop := zlp (fun K s => wpX3_firstRow_27 post (fun M L v1 v3 v4 v5 v7 v8 => K (M, L, v1, v3, v4, v5, v7, v8)) s.1 s.2.1 s.2.2.1 s.2.2.2.1 s.2.2.2.2.1 s.2.2.2.2.2.1 s.2.2.2.2.2.2.1 s.2.2.2.2.2.2.2)
def wpX3_firstRow (x1 : Int32) (x2 : Int32) (x3 : Int32) (x4 : Int32) (x5 : Int32) (M : Mm) (L : Ml) (post : Int64 → Mm → Ml → Prop) : Prop :=
  wpX3_rows 11 x1 x2 x3 x4 x5 M L (fun r_6 M_6 L_6 => (¬ r_6 = 0 → ∀ a_25 : Int32, a_25 = x3 - (1 : Int32) → (∃ j9 : Nat, wlX3_firstRow_27 post j9 (M_6, L_6, x2, x4, x5, (0 : Int64), x1, a_25))) ∧ (r_6 = 0 → post (-6 : Int64) M_6 L_6))
def wpX4_fall_66 (post : Mm → Ml → Prop) (K18 : Mm → Ml → Int32 → Int32 → Int32 → Int32 → Prop) (K30 : Mm → Ml → Int32 → Int32 → Int32 → Int32 → Int32 → Int32 → Prop) (M : Mm) (L : Ml) (v2 : Int32) (v3 : Int32) (v4 : Int32) (v5 : Int32) (v6 : Int32) (v7 : Int32) (v8 : Int32) (s0 : Int32) : Prop :=
  vp_in v7 16 ∧ (∀ M_95 : Mm, M_95 = zs M 11 v7.toNatClampNeg (((v8 * (((10 : Int32) - v3) - v4)) + (v6 * v4)) + (s0 * v3)) → (∀ a_100 : Int32, a_100 = v7 + (1 : Int32) → (K30 M_95 L v2 v3 v4 v5 v8 a_100)))
def wpX4_fall_30 (post : Mm → Ml → Prop) (K18 : Mm → Ml → Int32 → Int32 → Int32 → Int32 → Prop) (K30 : Mm → Ml → Int32 → Int32 → Int32 → Int32 → Int32 → Int32 → Prop) (M : Mm) (L : Ml) (v2 : Int32) (v3 : Int32) (v4 : Int32) (v5 : Int32) (v6 : Int32) (v7 : Int32) : Prop :=
  ((16 : Int32) ≤ v7 → ∀ a_106 : Int32, a_106 = v5 + (1 : Int32) → (K18 M L v2 v3 v4 a_106)) ∧ (¬ ((16 : Int32) ≤ v7) → vp_in v7 16 ∧ (∀ a_44 : Int32, a_44 = M 11 v7.toNatClampNeg → ((¬ v7 = (15 : Int32) → vp_in (v7 + (1 : Int32)) 16 ∧ (wpX4_fall_66 post K18 K30 M L v2 v3 v4 v5 v6 v7 a_44 (M 11 (v7 + (1 : Int32)).toNatClampNeg))) ∧ (v7 = (15 : Int32) → wpX4_fall_66 post K18 K30 M L v2 v3 v4 v5 v6 v7 a_44 (0 : Int32)))))
def wlX4_fall_30 (post : Mm → Ml → Prop) (K18 : Mm → Ml → Int32 → Int32 → Int32 → Int32 → Prop) : Nat → (Mm × Ml × Int32 × Int32 × Int32 × Int32 × Int32 × Int32) → Prop := zlp (fun K s => wpX4_fall_30 post K18 (fun M L v2 v3 v4 v5 v6 v7 => K (M, L, v2, v3, v4, v5, v6, v7)) s.1 s.2.1 s.2.2.1 s.2.2.2.1 s.2.2.2.2.1 s.2.2.2.2.2.1 s.2.2.2.2.2.2.1 s.2.2.2.2.2.2.2)
def wpX4_fall_18 (post : Mm → Ml → Prop) (K18 : Mm → Ml → Int32 → Int32 → Int32 → Int32 → Prop) (M : Mm) (L : Ml) (v2 : Int32) (v3 : Int32) (v4 : Int32) (v5 : Int32) : Prop :=
  (v2 ≤ v5 → post M L) ∧ (¬ (v2 ≤ v5) → ∃ j9 : Nat, wlX4_fall_30 post K18 j9 (M, L, v2, v3, v4, v5, (0 : Int32), (0 : Int32)))
def wlX4_fall_18 (post : Mm → Ml → Prop) : Nat → (Mm × Ml × Int32 × Int32 × Int32 × Int32) → Prop := zlp (fun K s => wpX4_fall_18 post (fun M L v2 v3 v4 v5 => K (M, L, v2, v3, v4, v5)) s.1 s.2.1 s.2.2.1 s.2.2.2.1 s.2.2.2.2.1 s.2.2.2.2.2)
def wpX4_fall (x1 : Int32) (x2 : Int32) (x3 : Int32) (x4 : Int32) (M : Mm) (L : Ml) (post : Mm → Ml → Prop) : Prop :=
  wpJ7_fill_53178 11 16 (0 : Int32) M L (fun M_5 L_5 => vp_in x1 16 ∧ (∀ M_14 : Mm, M_14 = zs M_5 11 x1.toNatClampNeg (1 : Int32) → (∃ j9 : Nat, wlX4_fall_18 post j9 (M_14, L_5, x2, x3, x4, (0 : Int32)))))
def wpX4_all_4 (post : Int32 → Mm → Ml → Prop) (K4 : Mm → Ml → Int32 → Int32 → Prop) (M : Mm) (L : Ml) (v1 : Int32) (v2 : Int32) : Prop :=
  ((16 : Int32) ≤ v2 → post v1 M L) ∧ (¬ ((16 : Int32) ≤ v2) → vp_in v2 16 ∧ (∀ a_18 : Int32, a_18 = v1 + (M 11 v2.toNatClampNeg) → (∀ a_19 : Int32, a_19 = v2 + (1 : Int32) → (K4 M L a_18 a_19))))
def wlX4_all_4 (post : Int32 → Mm → Ml → Prop) : Nat → (Mm × Ml × Int32 × Int32) → Prop := zlp (fun K s => wpX4_all_4 post (fun M L v1 v2 => K (M, L, v1, v2)) s.1 s.2.1 s.2.2.1 s.2.2.2)
def wpX4_all (M : Mm) (L : Ml) (post : Int32 → Mm → Ml → Prop) : Prop :=
  ∃ j9 : Nat, wlX4_all_4 post j9 (M, L, (0 : Int32), (0 : Int32))
def wpX4_chance_109 (post : Int64 → Mm → Ml → Prop) (K51 : Mm → Ml → Int32 → Int32 → Int32 → Int32 → Int32 → Prop) (M : Mm) (L : Ml) (v2 : Int32) (v3 : Int32) (v4 : Int32) (v5 : Int32) (v6 : Int32) : Prop :=
  ∀ a_109 : Int32, a_109 = v6 + (1 : Int32) → (K51 M L v2 v3 v4 v5 a_109)
def wpX4_chance_83 (post : Int64 → Mm → Ml → Prop) (K51 : Mm → Ml → Int32 → Int32 → Int32 → Int32 → Int32 → Prop) (M : Mm) (L : Ml) (v2 : Int32) (v3 : Int32) (v4 : Int32) (v5 : Int32) (v6 : Int32) : Prop :=
  (¬ (v5 - v5 / (5 : Int32) * (5 : Int32)) = 0 → wpX4_chance_109 post K51 M L v2 v3 v4 v5 v6) ∧ ((v5 - v5 / (5 : Int32) * (5 : Int32)) = 0 → (¬ (v4 - v4 / (5 : Int32) * (5 : Int32)) = 0 → wpX4_chance_109 post K51 M L v2 v3 v4 v5 v6) ∧ ((v4 - v4 / (5 : Int32) * (5 : Int32)) = 0 → ∀ a_101 : Int32, a_101 = v5 / (5 : Int32) → (∀ a_107 : Int32, a_107 = v4 / (5 : Int32) → (wpX4_chance_109 post K51 M L v2 v3 a_107 a_101 v6))))
def wpX4_chance_128 (post : Int64 → Mm → Ml → Prop) (M : Mm) (L : Ml) (s0 : Int64) : Prop :=
  post s0 M L
def wpX4_chance_51 (post : Int64 → Mm → Ml → Prop) (K51 : Mm → Ml → Int32 → Int32 → Int32 → Int32 → Int32 → Prop) (M : Mm) (L : Ml) (v2 : Int32) (v3 : Int32) (v4 : Int32) (v5 : Int32) (v6 : Int32) : Prop :=
  (v2 ≤ v6 → (¬ v3 = 0 → wpX4_chance_128 post M L (v4.toInt64)) ∧ (v3 = 0 → wpX4_chance_128 post M L (v5.toInt64))) ∧ (¬ (v2 ≤ v6) → (¬ (v5 - v5 / (2 : Int32) * (2 : Int32)) = 0 → wpX4_chance_83 post K51 M L v2 v3 v4 v5 v6) ∧ ((v5 - v5 / (2 : Int32) * (2 : Int32)) = 0 → (¬ (v4 - v4 / (2 : Int32) * (2 : Int32)) = 0 → wpX4_chance_83 post K51 M L v2 v3 v4 v5 v6) ∧ ((v4 - v4 / (2 : Int32) * (2 : Int32)) = 0 → ∀ a_75 : Int32, a_75 = v5 / (2 : Int32) → (∀ a_81 : Int32, a_81 = v4 / (2 : Int32) → (wpX4_chance_83 post K51 M L v2 v3 a_81 a_75 v6)))))
def wlX4_chance_51 (post : Int64 → Mm → Ml → Prop) : Nat → (Mm × Ml × Int32 × Int32 × Int32 × Int32 × Int32) → Prop := zlp (fun K s => wpX4_chance_51 post (fun M L v2 v3 v4 v5 v6 => K (M, L, v2, v3, v4, v5, v6)) s.1 s.2.1 s.2.2.1 s.2.2.2.1 s.2.2.2.2.1 s.2.2.2.2.2.1 s.2.2.2.2.2.2)
def wpX4_chance_46 (post : Int64 → Mm → Ml → Prop) (M : Mm) (L : Ml) (v2 : Int32) (v3 : Int32) (v4 : Int32) (s0 : Int32) : Prop :=
  ∃ j9 : Nat, wlX4_chance_51 post j9 (M, L, v2, v3, v4, s0, (0 : Int32))
def wpX4_chance_6 (post : Int64 → Mm → Ml → Prop) (K6 : Mm → Ml → Int32 → Int32 → Int32 → Int32 → Int32 → Prop) (M : Mm) (L : Ml) (v1 : Int32) (v2 : Int32) (v3 : Int32) (v4 : Int32) (v5 : Int32) : Prop :=
  (v2 ≤ v5 → (¬ v1 = (-1 : Int32) → vp_in v1 16 ∧ (wpX4_chance_46 post M L v2 v3 v4 (M 11 v1.toNatClampNeg))) ∧ (v1 = (-1 : Int32) → wpX4_all M L (fun r_33 M_33 L_33 => wpX4_chance_46 post M_33 L_33 v2 v3 v4 (v4 - r_33)))) ∧ (¬ (v2 ≤ v5) → ∀ a_17 : Int32, a_17 = v4 * (10 : Int32) → (∀ a_19 : Int32, a_19 = v5 + (1 : Int32) → (K6 M L v1 v2 v3 a_17 a_19)))
def wlX4_chance_6 (post : Int64 → Mm → Ml → Prop) : Nat → (Mm × Ml × Int32 × Int32 × Int32 × Int32 × Int32) → Prop := zlp (fun K s => wpX4_chance_6 post (fun M L v1 v2 v3 v4 v5 => K (M, L, v1, v2, v3, v4, v5)) s.1 s.2.1 s.2.2.1 s.2.2.2.1 s.2.2.2.2.1 s.2.2.2.2.2.1 s.2.2.2.2.2.2)
def wpX4_chance (x1 : Int32) (x2 : Int32) (x3 : Int32) (M : Mm) (L : Ml) (post : Int64 → Mm → Ml → Prop) : Prop :=
  ∃ j9 : Nat, wlX4_chance_6 post j9 (M, L, x1, x2, x3, (1 : Int32), (0 : Int32))
def wpX5_add (x1 : Int32) (M : Mm) (L : Ml) (post : Int32 → Mm → Ml → Prop) : Prop :=
  ((M 2 1) < (60 : Int32) → vp_in (M 2 1) 60 ∧ (∀ M_20 : Mm, M_20 = zs M 3 (M 2 1).toNatClampNeg x1 → (∀ M_28 : Mm, M_28 = zs M_20 2 1 ((M_20 2 1) + (1 : Int32)) → (post (1 : Int32) M_28 L)))) ∧ (¬ ((M 2 1) < (60 : Int32)) → post (0 : Int32) M L)
def wpX5_deedOf (x1 : Int32) (M : Mm) (L : Ml) (post : Int32 → Mm → Ml → Prop) : Prop :=
  ((x1 = (60 : Int32) → post (5 : Int32) M L) ∧ (¬ (x1 = (60 : Int32)) → (x1 = (62 : Int32) → post (6 : Int32) M L) ∧ (¬ (x1 = (62 : Int32)) → (x1 = (117 : Int32) → post (7 : Int32) M L) ∧ (¬ (x1 = (117 : Int32)) → post (-6 : Int32) M L))))
def wpX5_oneOf_21 (post : Int32 → Mm → Ml → Prop) (M : Mm) (L : Ml) (s0 : Int32) : Prop :=
  post s0 M L
def wpX5_oneOf_19 (post : Int32 → Mm → Ml → Prop) (M : Mm) (L : Ml) : Prop :=
  wpX5_oneOf_21 post M L (-6 : Int32)
def wpX5_oneOf (x1 : Int32) (M : Mm) (L : Ml) (post : Int32 → Mm → Ml → Prop) : Prop :=
  (x1 < (65 : Int32) → wpX5_oneOf_19 post M L) ∧ (¬ (x1 < (65 : Int32)) → ((71 : Int32) ≤ x1 → wpX5_oneOf_19 post M L) ∧ (¬ ((71 : Int32) ≤ x1) → wpX5_oneOf_21 post M L (x1 - (65 : Int32))))
def wpX5_weatherOf (x1 : Int32) (M : Mm) (L : Ml) (post : Int32 → Mm → Ml → Prop) : Prop :=
  ((x1 = (46 : Int32) → post (4 : Int32) M L) ∧ (¬ (x1 = (46 : Int32)) → (x1 = (60 : Int32) → post (2 : Int32) M L) ∧ (¬ (x1 = (60 : Int32)) → (x1 = (62 : Int32) → post (3 : Int32) M L) ∧ (¬ (x1 = (62 : Int32)) → (x1 = (99 : Int32) → post (0 : Int32) M L) ∧ (¬ (x1 = (99 : Int32)) → (x1 = (100 : Int32) → post (1 : Int32) M L) ∧ (¬ (x1 = (100 : Int32)) → post (-6 : Int32) M L))))))
def wpX5_readActs_120 (post : Int32 → Mm → Ml → Prop) (K10 : Mm → Ml → Int32 → Int32 → Prop) (M : Mm) (L : Ml) (v1 : Int32) (v2 : Int32) : Prop :=
  ∀ a_120 : Int32, a_120 = v2 + (1 : Int32) → (K10 M L v1 a_120)
def wpX5_readActs_78 (post : Int32 → Mm → Ml → Prop) (K10 : Mm → Ml → Int32 → Int32 → Prop) (M : Mm) (L : Ml) (v1 : Int32) (v2 : Int32) (s0 : Int32) : Prop :=
  (¬ s0 = (-6 : Int32) → vp_in (M 2 4) 60 ∧ (∀ M_96 : Mm, M_96 = zs M 4 (M 2 4).toNatClampNeg s0 → (vp_in (M_96 2 4) 60 ∧ (∀ M_106 : Mm, M_106 = zs M_96 5 (M_96 2 4).toNatClampNeg v1 → (∀ M_114 : Mm, M_114 = zs M_106 2 4 ((M_106 2 4) + (1 : Int32)) → (wpX5_readActs_120 post K10 M_114 L (-6 : Int32) v2)))))) ∧ (s0 = (-6 : Int32) → post v2 M L)
def wpX5_readActs_51 (post : Int32 → Mm → Ml → Prop) (K10 : Mm → Ml → Int32 → Int32 → Prop) (M : Mm) (L : Ml) (v1 : Int32) (v2 : Int32) : Prop :=
  (¬ v1 = (-6 : Int32) → vp_in v2 60 ∧ (wpX5_deedOf (M 3 v2.toNatClampNeg) M L (fun r_75 M_75 L_75 => wpX5_readActs_78 post K10 M_75 L_75 v1 v2 r_75))) ∧ (v1 = (-6 : Int32) → vp_in v2 60 ∧ (wpX5_weatherOf (M 3 v2.toNatClampNeg) M L (fun r_63 M_63 L_63 => wpX5_readActs_78 post K10 M_63 L_63 v1 v2 r_63)))
def wpX5_readActs_141 (post : Int32 → Mm → Ml → Prop) (M : Mm) (L : Ml) (s0 : Int32) : Prop :=
  post s0 M L
def wpX5_readActs_10 (post : Int32 → Mm → Ml → Prop) (K10 : Mm → Ml → Int32 → Int32 → Prop) (M : Mm) (L : Ml) (v1 : Int32) (v2 : Int32) : Prop :=
  ((M 2 1) ≤ v2 → (¬ v1 = (-6 : Int32) → wpX5_readActs_141 post M L (M 2 1)) ∧ (v1 = (-6 : Int32) → wpX5_readActs_141 post M L (-6 : Int32))) ∧ (¬ ((M 2 1) ≤ v2) → (¬ v1 = (-6 : Int32) → wpX5_readActs_51 post K10 M L v1 v2) ∧ (v1 = (-6 : Int32) → vp_in v2 60 ∧ (wpX5_oneOf (M 3 v2.toNatClampNeg) M L (fun r_30 M_30 L_30 => (r_30 = (-6 : Int32) → wpX5_readActs_51 post K10 M_30 L_30 v1 v2) ∧ (¬ (r_30 = (-6 : Int32)) → vp_in v2 60 ∧ (wpX5_oneOf (M_30 3 v2.toNatClampNeg) M_30 L_30 (fun r_44 M_44 L_44 => wpX5_readActs_120 post K10 M_44 L_44 r_44 v2)))))))
def wlX5_readActs_10 (post : Int32 → Mm → Ml → Prop) : Nat → (Mm × Ml × Int32 × Int32) → Prop := zlp (fun K s => wpX5_readActs_10 post (fun M L v1 v2 => K (M, L, v1, v2)) s.1 s.2.1 s.2.2.1 s.2.2.2)
def wpX5_readActs (M : Mm) (L : Ml) (post : Int32 → Mm → Ml → Prop) : Prop :=
  ∀ M_2 : Mm, M_2 = zs M 2 4 (0 : Int32) → (∃ j9 : Nat, wlX5_readActs_10 post j9 (M_2, L, (-6 : Int32), (0 : Int32)))
def wpX6_winningTake_34 (post : Int32 → Mm → Ml → Prop) (K2 : Mm → Ml → Int32 → Int32 → Int32 → Prop) (M : Mm) (L : Ml) (v1 : Int32) (v2 : Int32) (v3 : Int32) : Prop :=
  ∀ a_34 : Int32, a_34 = v3 + (1 : Int32) → (K2 M L v1 v2 a_34)
def wpX6_winningTake_40 (post : Int32 → Mm → Ml → Prop) (M : Mm) (L : Ml) : Prop :=
  post (-6 : Int32) M L
def wpX6_winningTake_2 (post : Int32 → Mm → Ml → Prop) (K2 : Mm → Ml → Int32 → Int32 → Int32 → Prop) (M : Mm) (L : Ml) (v1 : Int32) (v2 : Int32) (v3 : Int32) : Prop :=
  ((3 : Int32) < v3 → wpX6_winningTake_40 post M L) ∧ (¬ ((3 : Int32) < v3) → (v1 < v3 → wpX6_winningTake_40 post M L) ∧ (¬ (v1 < v3) → (v3 = v2 → wpX6_winningTake_34 post K2 M L v1 v2 v3) ∧ (¬ (v3 = v2) → vp_in (v1 - v3) 61 ∧ (wpX8_bit (M 13 (v1 - v3).toNatClampNeg) v3 M L (fun r_26 M_26 L_26 => (¬ r_26 = 0 → wpX6_winningTake_34 post K2 M_26 L_26 v1 v2 v3) ∧ (r_26 = 0 → post v3 M_26 L_26))))))
def wlX6_winningTake_2 (post : Int32 → Mm → Ml → Prop) : Nat → (Mm × Ml × Int32 × Int32 × Int32) → Prop := zlp (fun K s => wpX6_winningTake_2 post (fun M L v1 v2 v3 => K (M, L, v1, v2, v3)) s.1 s.2.1 s.2.2.1 s.2.2.2.1 s.2.2.2.2)
def wpX6_winningTake (x1 : Int32) (x2 : Int32) (M : Mm) (L : Ml) (post : Int32 → Mm → Ml → Prop) : Prop :=
  ∃ j9 : Nat, wlX6_winningTake_2 post j9 (M, L, x1, x2, (1 : Int32))
def wpX7_has_26 (b : Nat) (post : Int32 → Mm → Ml → Prop) (M : Mm) (L : Ml) (s0 : Int32) : Prop :=
  (s0 = 0 ∨ s0 = 1) ∧ post s0 M L
def wpX7_has_25 (b : Nat) (post : Int32 → Mm → Ml → Prop) (M : Mm) (L : Ml) : Prop :=
  wpX7_has_26 b post M L (0 : Int32)
def wpX7_has (b : Nat) (x1 : Int32) (M : Mm) (L : Ml) (post : Int32 → Mm → Ml → Prop) : Prop :=
  wpX8_isBelow x1 (8 : Int32) M L (fun r_3 M_3 L_3 => (r_3 = 0 → wpX7_has_25 b post M_3 L_3) ∧ (¬ (r_3 = 0) → wpX8_bit (M_3 b 0) x1 M_3 L_3 (fun r_14 M_14 L_14 => (¬ r_14 = (1 : Int32) → wpX7_has_25 b post M_14 L_14) ∧ (r_14 = (1 : Int32) → wpX7_has_26 b post M_14 L_14 (1 : Int32)))))
def wpX7_putFlake (b : Nat) (x1 : Int32) (x2 : Int32) (x3 : Int32) (x4 : Int32) (x5 : Int32) (M : Mm) (L : Ml) (post : Mm → Ml → Prop) : Prop :=
  ∀ M_9 : Mm, M_9 = zs M b 0 ((M b 0) ||| ((1 : Int32) <<< (x1 &&& 31))) → (vp_in x1 8 ∧ (∀ M_18 : Mm, M_18 = zs M_9 (b + 1) x1.toNatClampNeg x2 → (vp_in x1 8 ∧ (∀ M_25 : Mm, M_25 = zs M_18 (b + 2) x1.toNatClampNeg x3 → (vp_in x1 8 ∧ (∀ M_33 : Mm, M_33 = zs M_25 (b + 3) x1.toNatClampNeg x4 → (vp_in x1 8 ∧ (∀ M_41 : Mm, M_41 = zs M_33 (b + 4) x1.toNatClampNeg x5 → (vp_in x1 8 ∧ (∀ M_49 : Mm, M_49 = zs M_41 (b + 5) x1.toNatClampNeg (-6 : Int32) → (post M_49 L)))))))))))
def wpX7_removeFlake (b : Nat) (x1 : Int32) (M : Mm) (L : Ml) (post : Mm → Ml → Prop) : Prop :=
  ∀ M_11 : Mm, M_11 = zs M b 0 ((M b 0) &&& (((1 : Int32) <<< (x1 &&& 31)) ^^^ (-1 : Int32))) → (vp_in x1 8 ∧ (∀ M_20 : Mm, M_20 = zs M_11 (b + 3) x1.toNatClampNeg (0 : Int32) → (post M_20 L)))
def wpX7_flakesWith_26 (b : Nat) (post : Int32 → Mm → Ml → Prop) (K4 : Mm → Ml → Int32 → Int32 → Int32 → Prop) (M : Mm) (L : Ml) (v1 : Int32) (v2 : Int32) (v3 : Int32) : Prop :=
  ∀ a_26 : Int32, a_26 = v3 + (1 : Int32) → (K4 M L v1 v2 a_26)
def wpX7_flakesWith_4 (b : Nat) (post : Int32 → Mm → Ml → Prop) (K4 : Mm → Ml → Int32 → Int32 → Int32 → Prop) (M : Mm) (L : Ml) (v1 : Int32) (v2 : Int32) (v3 : Int32) : Prop :=
  ((8 : Int32) ≤ v3 → post (v2 &&& (M b 0)) M L) ∧ (¬ ((8 : Int32) ≤ v3) → vp_in v3 8 ∧ ((¬ (M (b + 5) v3.toNatClampNeg) = v1 → wpX7_flakesWith_26 b post K4 M L v1 v2 v3) ∧ ((M (b + 5) v3.toNatClampNeg) = v1 → ∀ a_25 : Int32, a_25 = v2 ||| ((1 : Int32) <<< (v3 &&& 31)) → (wpX7_flakesWith_26 b post K4 M L v1 a_25 v3))))
def wlX7_flakesWith_4 (b : Nat) (post : Int32 → Mm → Ml → Prop) : Nat → (Mm × Ml × Int32 × Int32 × Int32) → Prop := zlp (fun K s => wpX7_flakesWith_4 b post (fun M L v1 v2 v3 => K (M, L, v1, v2, v3)) s.1 s.2.1 s.2.2.1 s.2.2.2.1 s.2.2.2.2)
def wpX7_flakesWith (b : Nat) (x1 : Int32) (M : Mm) (L : Ml) (post : Int32 → Mm → Ml → Prop) : Prop :=
  ∃ j9 : Nat, wlX7_flakesWith_4 b post j9 (M, L, x1, (0 : Int32), (0 : Int32))
def wpX7_trodden_67 (b : Nat) (post : Int32 → Mm → Ml → Prop) (K41 : Mm → Ml → Int32 → Int32 → Int32 → Prop) (M : Mm) (L : Ml) (v1 : Int32) (v2 : Int32) (v3 : Int32) : Prop :=
  ∀ a_67 : Int32, a_67 = v3 + (1 : Int32) → (K41 M L v1 v2 a_67)
def wpX7_trodden_41 (b : Nat) (post : Int32 → Mm → Ml → Prop) (K41 : Mm → Ml → Int32 → Int32 → Int32 → Prop) (M : Mm) (L : Ml) (v1 : Int32) (v2 : Int32) (v3 : Int32) : Prop :=
  ((8 : Int32) ≤ v3 → post v1 M L) ∧ (¬ ((8 : Int32) ≤ v3) → wpX8_bit v2 v3 M L (fun r_49 M_49 L_49 => (¬ r_49 = (1 : Int32) → wpX7_trodden_67 b post K41 M_49 L_49 v1 v2 v3) ∧ (r_49 = (1 : Int32) → vp_in v3 8 ∧ (∀ a_66 : Int32, a_66 = v1 ||| ((1 : Int32) <<< ((M_49 (b + 2) v3.toNatClampNeg) &&& 31)) → (wpX7_trodden_67 b post K41 M_49 L_49 a_66 v2 v3)))))
def wlX7_trodden_41 (b : Nat) (post : Int32 → Mm → Ml → Prop) : Nat → (Mm × Ml × Int32 × Int32 × Int32) → Prop := zlp (fun K s => wpX7_trodden_41 b post (fun M L v1 v2 v3 => K (M, L, v1, v2, v3)) s.1 s.2.1 s.2.2.1 s.2.2.2.1 s.2.2.2.2)
def wpX7_trodden_4 (b : Nat) (post : Int32 → Mm → Ml → Prop) (K4 : Mm → Ml → Int32 → Int32 → Prop) (M : Mm) (L : Ml) (v1 : Int32) (v2 : Int32) : Prop :=
  ((6 : Int32) ≤ v2 → wpX7_down b M L (fun r_28 M_28 L_28 => wpX7_flakesWith b (-6 : Int32) M_28 L_28 (fun r_34 M_34 L_34 => ∀ a_38 : Int32, a_38 = r_28 &&& r_34 → (∃ j9 : Nat, wlX7_trodden_41 b post j9 (M_34, L_34, v1, a_38, (0 : Int32)))))) ∧ (¬ ((6 : Int32) ≤ v2) → vp_in v2 6 ∧ (∀ a_20 : Int32, a_20 = v1 ||| ((1 : Int32) <<< ((M (b + 6) v2.toNatClampNeg) &&& 31)) → (∀ a_21 : Int32, a_21 = v2 + (1 : Int32) → (K4 M L a_20 a_21))))
def wlX7_trodden_4 (b : Nat) (post : Int32 → Mm → Ml → Prop) : Nat → (Mm × Ml × Int32 × Int32) → Prop := zlp (fun K s => wpX7_trodden_4 b post (fun M L v1 v2 => K (M, L, v1, v2)) s.1 s.2.1 s.2.2.1 s.2.2.2)
def wpX7_trodden (b : Nat) (M : Mm) (L : Ml) (post : Int32 → Mm → Ml → Prop) : Prop :=
  ∃ j9 : Nat, wlX7_trodden_4 b post j9 (M, L, (0 : Int32), (0 : Int32))
def wpX7_addSight_51 (b : Nat) (post : Mm → Ml → Prop) (K2 : Mm → Ml → Int32 → Int32 → Int32 → Prop) (M : Mm) (L : Ml) (v1 : Int32) (v2 : Int32) (v3 : Int32) : Prop :=
  ∀ a_51 : Int32, a_51 = v3 + (1 : Int32) → (K2 M L v1 v2 a_51)
def wpX7_addSight_2 (b : Nat) (post : Mm → Ml → Prop) (K2 : Mm → Ml → Int32 → Int32 → Int32 → Prop) (M : Mm) (L : Ml) (v1 : Int32) (v2 : Int32) (v3 : Int32) : Prop :=
  ((8 : Int32) ≤ v3 → ∀ M_64 : Mm, M_64 = zs M b 10 ((M b 10) + (1 : Int32)) → (post M_64 L)) ∧ (¬ ((8 : Int32) ≤ v3) → wpX3_around v1 v3 M L (fun r_11 M_11 L_11 => ∀ a_15 : Int32, a_15 = (1 : Int32) <<< (r_11 &&& 31) → (wpX8_bit v2 v3 M_11 L_11 (fun r_19 M_19 L_19 => (¬ r_19 = (1 : Int32) → ∀ M_48 : Mm, M_48 = zs M_19 b 12 ((M_19 b 12) ||| a_15) → (wpX7_addSight_51 b post K2 M_48 L_19 v1 v2 v3)) ∧ (r_19 = (1 : Int32) → ∀ M_34 : Mm, M_34 = zs M_19 b 11 ((M_19 b 11) ||| a_15) → (wpX7_addSight_51 b post K2 M_34 L_19 v1 v2 v3))))))
def wlX7_addSight_2 (b : Nat) (post : Mm → Ml → Prop) : Nat → (Mm × Ml × Int32 × Int32 × Int32) → Prop := zlp (fun K s => wpX7_addSight_2 b post (fun M L v1 v2 v3 => K (M, L, v1, v2, v3)) s.1 s.2.1 s.2.2.1 s.2.2.2.1 s.2.2.2.2)
def wpX7_addSight (b : Nat) (x1 : Int32) (x2 : Int32) (M : Mm) (L : Ml) (post : Mm → Ml → Prop) : Prop :=
  ∃ j9 : Nat, wlX7_addSight_2 b post j9 (M, L, x1, x2, (0 : Int32))
def wpX7_fits_27 (b : Nat) (post : Int32 → Mm → Ml → Prop) (M : Mm) (L : Ml) (s0 : Int32) : Prop :=
  (s0 = 0 ∨ s0 = 1) ∧ post s0 M L
def wpX7_fits_26 (b : Nat) (post : Int32 → Mm → Ml → Prop) (M : Mm) (L : Ml) : Prop :=
  wpX7_fits_27 b post M L (0 : Int32)
def wpX7_fits (b : Nat) (x1 : Int32) (M : Mm) (L : Ml) (post : Int32 → Mm → Ml → Prop) : Prop :=
  (¬ (x1 &&& (M b 11)) = (M b 11) → wpX7_fits_26 b post M L) ∧ ((x1 &&& (M b 11)) = (M b 11) → (¬ (x1 &&& (M b 12)) = 0 → wpX7_fits_26 b post M L) ∧ ((x1 &&& (M b 12)) = 0 → wpX7_fits_27 b post M L (1 : Int32)))
def wpX7_lawsLeftBy_12 (b : Nat) (post : Int32 → Mm → Ml → Prop) (K12 : Mm → Ml → Int32 → Int32 → Int32 → Prop) (M : Mm) (L : Ml) (v1 : Int32) (v2 : Int32) (v3 : Int32) : Prop :=
  ((8 : Int32) ≤ v3 → wpJ6_bitCount_0f7a4 v2 M L (fun r_38 M_38 L_38 => post ((1 : Int32) <<< (((8 : Int32) - r_38) &&& 31)) M_38 L_38)) ∧ (¬ ((8 : Int32) ≤ v3) → wpX3_around v1 v3 M L (fun r_22 M_22 L_22 => ∀ a_27 : Int32, a_27 = v2 ||| ((1 : Int32) <<< (r_22 &&& 31)) → (∀ a_28 : Int32, a_28 = v3 + (1 : Int32) → (K12 M_22 L_22 v1 a_27 a_28))))
def wlX7_lawsLeftBy_12 (b : Nat) (post : Int32 → Mm → Ml → Prop) : Nat → (Mm × Ml × Int32 × Int32 × Int32) → Prop := zlp (fun K s => wpX7_lawsLeftBy_12 b post (fun M L v1 v2 v3 => K (M, L, v1, v2, v3)) s.1 s.2.1 s.2.2.1 s.2.2.2.1 s.2.2.2.2)
def wpX7_lawsLeftBy (b : Nat) (x1 : Int32) (M : Mm) (L : Ml) (post : Int32 → Mm → Ml → Prop) : Prop :=
  ∀ a_9 : Int32, a_9 = (M b 11) ||| (M b 12) → (∃ j9 : Nat, wlX7_lawsLeftBy_12 b post j9 (M, L, x1, a_9, (0 : Int32)))
def wpX8_flake_19 (post : Int32 → Mm → Ml → Prop) (M : Mm) (L : Ml) : Prop :=
  post (-1 : Int32) M L
def wpX8_flake_50 (post : Int32 → Mm → Ml → Prop) (M : Mm) (L : Ml) : Prop :=
  post (-2 : Int32) M L
def wpX8_flake (x1 : Int32) (x2 : Int32) (x3 : Int32) (x4 : Int32) (x5 : Int32) (M : Mm) (L : Ml) (post : Int32 → Mm → Ml → Prop) : Prop :=
  wpX8_isBelow x1 (8 : Int32) M L (fun r_3 M_3 L_3 => (r_3 = 0 → wpX8_flake_19 post M_3 L_3) ∧ (¬ (r_3 = 0) → wpX8_isBelow x5 (6 : Int32) M_3 L_3 (fun r_13 M_13 L_13 => (¬ r_13 = 0 → wpX8_isBelow x2 (256 : Int32) M_13 L_13 (fun r_25 M_25 L_25 => (r_25 = 0 → wpX8_flake_50 post M_25 L_25) ∧ (¬ (r_25 = 0) → wpX8_isBelow x3 (16 : Int32) M_25 L_25 (fun r_34 M_34 L_34 => (r_34 = 0 → wpX8_flake_50 post M_34 L_34) ∧ (¬ (r_34 = 0) → wpX8_isBelow x4 (10 : Int32) M_34 L_34 (fun r_44 M_44 L_44 => (¬ r_44 = 0 → wpX7_putFlake 14 x1 x2 x3 x4 x5 M_44 L_44 (fun M_64 L_64 => wpJ6_bitCount_0f7a4 (M_64 14 0) M_64 L_64 (fun r_74 M_74 L_74 => post r_74 M_74 L_74))) ∧ (r_44 = 0 → wpX8_flake_50 post M_44 L_44))))))) ∧ (r_13 = 0 → wpX8_flake_19 post M_13 L_13))))
def wpX8_melt (x1 : Int32) (M : Mm) (L : Ml) (post : Int32 → Mm → Ml → Prop) : Prop :=
  wpX7_has 14 x1 M L (fun r_5 M_5 L_5 => (¬ r_5 = 0 → wpX7_removeFlake 14 x1 M_5 L_5 (fun M_18 L_18 => wpJ6_bitCount_0f7a4 (M_18 14 0) M_18 L_18 (fun r_28 M_28 L_28 => post r_28 M_28 L_28))) ∧ (r_5 = 0 → post (-1 : Int32) M_5 L_5))
def wpX8_stand (x1 : Int32) (x2 : Int32) (M : Mm) (L : Ml) (post : Int32 → Mm → Ml → Prop) : Prop :=
  wpX8_isBelow x1 (6 : Int32) M L (fun r_3 M_3 L_3 => (¬ r_3 = 0 → wpX8_isBelow x2 (16 : Int32) M_3 L_3 (fun r_14 M_14 L_14 => (¬ r_14 = 0 → vp_in x1 6 ∧ (∀ a_32 : Int32, a_32 = M_14 20 x1.toNatClampNeg → (vp_in x1 6 ∧ (∀ M_42 : Mm, M_42 = zs M_14 20 x1.toNatClampNeg x2 → (∀ M_57 : Mm, M_57 = zs M_42 14 7 ((M_42 14 7) &&& (((1 : Int32) <<< (x1 &&& 31)) ^^^ (-1 : Int32))) → (post a_32 M_57 L_14)))))) ∧ (r_14 = 0 → post (-2 : Int32) M_14 L_14))) ∧ (r_3 = 0 → post (-1 : Int32) M_3 L_3))
def wpX8_air_18 (post : Int32 → Mm → Ml → Prop) (M : Mm) (L : Ml) : Prop :=
  post (-2 : Int32) M L
def wpX8_air_66 (post : Int32 → Mm → Ml → Prop) (M : Mm) (L : Ml) (v3 : Int32) : Prop :=
  post v3 M L
def wpX8_air_42 (post : Int32 → Mm → Ml → Prop) (M : Mm) (L : Ml) (v1 : Int32) (v2 : Int32) (s0 : Int32) : Prop :=
  (¬ v1 = 0 → ∀ M_63 : Mm, M_63 = zs M 14 9 v2 → (wpX8_air_66 post M_63 L s0)) ∧ (v1 = 0 → ∀ M_52 : Mm, M_52 = zs M 14 8 v2 → (wpX8_air_66 post M_52 L s0))
def wpX8_air (x1 : Int32) (x2 : Int32) (M : Mm) (L : Ml) (post : Int32 → Mm → Ml → Prop) : Prop :=
  wpX8_isBelow x1 (2 : Int32) M L (fun r_2 M_2 L_2 => (r_2 = 0 → wpX8_air_18 post M_2 L_2) ∧ (¬ (r_2 = 0) → wpX8_isBelow x2 (256 : Int32) M_2 L_2 (fun r_12 M_12 L_12 => (¬ r_12 = 0 → (¬ x1 = 0 → wpX8_air_42 post M_12 L_12 x1 x2 (M_12 14 9)) ∧ (x1 = 0 → wpX8_air_42 post M_12 L_12 x1 x2 (M_12 14 8))) ∧ (r_12 = 0 → wpX8_air_18 post M_12 L_12))))
def wpX8_say_12 (post : Int32 → Mm → Ml → Prop) (M : Mm) (L : Ml) : Prop :=
  post (-2 : Int32) M L
def wpX8_say_38 (post : Int32 → Mm → Ml → Prop) (M : Mm) (L : Ml) (s0 : Int32) : Prop :=
  post s0 M L
def wpX8_say (x1 : Int32) (M : Mm) (L : Ml) (post : Int32 → Mm → Ml → Prop) : Prop :=
  (x1 < (33 : Int32) → wpX8_say_12 post M L) ∧ (¬ (x1 < (33 : Int32)) → (x1 ≤ (126 : Int32) → wpX5_add x1 M L (fun r_20 M_20 L_20 => (r_20 = 0 → wpX8_say_38 post M_20 L_20 (-4 : Int32)) ∧ (¬ (r_20 = 0) → wpX8_say_38 post M_20 L_20 (M_20 2 1)))) ∧ (¬ (x1 ≤ (126 : Int32)) → wpX8_say_12 post M L))
def wpX8_wipe (M : Mm) (L : Ml) (post : Int32 → Mm → Ml → Prop) : Prop :=
  ∀ a_7 : Int32, a_7 = M 2 1 → (∀ M_13 : Mm, M_13 = zs M 2 1 (0 : Int32) → (post a_7 M_13 L))
def wpX8_fault (M : Mm) (L : Ml) (post : Int32 → Mm → Ml → Prop) : Prop :=
  wpX5_readActs M L (fun r_4 M_4 L_4 => post r_4 M_4 L_4)
def wpX8_refusalOfDays_48 (post : Int32 → Mm → Ml → Prop) (M : Mm) (L : Ml) (s0 : Int32) : Prop :=
  post s0 M L
def wpX8_refusalOfDays (M : Mm) (L : Ml) (post : Int32 → Mm → Ml → Prop) : Prop :=
  wpX5_readActs M L (fun r_4 M_4 L_4 => (r_4 = (-6 : Int32) → wpX2_live 14 M_4 L_4 (fun M_27 L_27 => (¬ (M_27 6 1) = (-6 : Int32) → wpX8_refusalOfDays_48 post M_27 L_27 (-3 : Int32)) ∧ ((M_27 6 1) = (-6 : Int32) → wpX8_refusalOfDays_48 post M_27 L_27 (0 : Int32)))) ∧ (¬ (r_4 = (-6 : Int32)) → post (-5 : Int32) M_4 L_4))
def wpX8_judge_84 (post : Int32 → Mm → Ml → Prop) (M : Mm) (L : Ml) (s0 : Int32) : Prop :=
  post s0 M L
def wpX8_judge (x1 : Int32) (M : Mm) (L : Ml) (post : Int32 → Mm → Ml → Prop) : Prop :=
  wpX8_isBelow x1 (3 : Int32) M L (fun r_2 M_2 L_2 => (¬ r_2 = 0 → wpX8_refusalOfDays M_2 L_2 (fun r_12 M_12 L_12 => (¬ r_12 = (-5 : Int32) → ((x1 = (0 : Int32) → post (M_12 6 1) M_12 L_12) ∧ (¬ (x1 = (0 : Int32)) → (x1 = (1 : Int32) → post (M_12 6 2) M_12 L_12) ∧ (¬ (x1 = (1 : Int32)) → (¬ r_12 = 0 → wpX8_judge_84 post M_12 L_12 (-3 : Int32)) ∧ (r_12 = 0 → wpX2_cameDown M_12 L_12 (fun r_76 M_76 L_76 => wpX8_judge_84 post M_76 L_76 r_76)))))) ∧ (r_12 = (-5 : Int32) → post (-5 : Int32) M_12 L_12))) ∧ (r_2 = 0 → post (-2 : Int32) M_2 L_2))
def wpX8_behind (x1 : Int32) (x2 : Int32) (M : Mm) (L : Ml) (post : Int32 → Mm → Ml → Prop) : Prop :=
  wpX7_has 14 x1 M L (fun r_5 M_5 L_5 => (¬ r_5 = 0 → wpX8_isBelow x2 (4 : Int32) M_5 L_5 (fun r_15 M_15 L_15 => (¬ r_15 = 0 → wpX8_refusalOfDays M_15 L_15 (fun r_25 M_25 L_25 => (r_25 = 0 → ((x2 = (0 : Int32) → vp_in x1 8 ∧ (post (M_25 36 x1.toNatClampNeg) M_25 L_25)) ∧ (¬ (x2 = (0 : Int32)) → (x2 = (1 : Int32) → vp_in x1 8 ∧ (post (M_25 37 x1.toNatClampNeg) M_25 L_25)) ∧ (¬ (x2 = (1 : Int32)) → (x2 = (2 : Int32) → vp_in x1 8 ∧ (post (M_25 38 x1.toNatClampNeg) M_25 L_25)) ∧ (¬ (x2 = (2 : Int32)) → vp_in x1 8 ∧ (post (M_25 40 x1.toNatClampNeg) M_25 L_25)))))) ∧ (¬ (r_25 = 0) → post r_25 M_25 L_25))) ∧ (r_15 = 0 → post (-2 : Int32) M_15 L_15))) ∧ (r_5 = 0 → post (-1 : Int32) M_5 L_5))
def wpX8_stands (x1 : Int32) (x2 : Int32) (M : Mm) (L : Ml) (post : Int32 → Mm → Ml → Prop) : Prop :=
  wpX8_isBelow x1 (6 : Int32) M L (fun r_3 M_3 L_3 => (¬ r_3 = 0 → wpX8_isBelow x2 (3 : Int32) M_3 L_3 (fun r_13 M_13 L_13 => (¬ r_13 = 0 → wpX8_refusalOfDays M_13 L_13 (fun r_23 M_23 L_23 => (r_23 = 0 → ((x2 = (0 : Int32) → vp_in x1 6 ∧ (post (M_23 41 x1.toNatClampNeg) M_23 L_23)) ∧ (¬ (x2 = (0 : Int32)) → (x2 = (1 : Int32) → wpX8_bit (M_23 35 7) x1 M_23 L_23 (fun r_84 M_84 L_84 => post r_84 M_84 L_84)) ∧ (¬ (x2 = (1 : Int32)) → wpX7_flakesWith 35 x1 M_23 L_23 (fun r_96 M_96 L_96 => post r_96 M_96 L_96))))) ∧ (¬ (r_23 = 0) → post r_23 M_23 L_23))) ∧ (r_13 = 0 → post (-2 : Int32) M_13 L_13))) ∧ (r_3 = 0 → post (-1 : Int32) M_3 L_3))
def wpX8_posted (x1 : Int32) (M : Mm) (L : Ml) (post : Int32 → Mm → Ml → Prop) : Prop :=
  wpX8_isBelow x1 (3 : Int32) M L (fun r_2 M_2 L_2 => (¬ r_2 = 0 → wpX8_refusalOfDays M_2 L_2 (fun r_12 M_12 L_12 => (r_12 = 0 → ((x1 = (0 : Int32) → wpX7_delivered 35 M_12 L_12 (fun r_55 M_55 L_55 => post r_55 M_55 L_55)) ∧ (¬ (x1 = (0 : Int32)) → (x1 = (1 : Int32) → post (M_12 6 3) M_12 L_12) ∧ (¬ (x1 = (1 : Int32)) → wpX7_inRiver 35 M_12 L_12 (fun r_74 M_74 L_74 => wpJ6_bitCount_0f7a4 r_74 M_74 L_74 (fun r_77 M_77 L_77 => post r_77 M_77 L_77)))))) ∧ (¬ (r_12 = 0) → post r_12 M_12 L_12))) ∧ (r_2 = 0 → post (-2 : Int32) M_2 L_2))
def wpX8_done (M : Mm) (L : Ml) (post : Int32 → Mm → Ml → Prop) : Prop :=
  wpX8_refusalOfDays M L (fun r_1 M_1 L_1 => (r_1 = 0 → wpX7_copy 14 35 M_1 L_1 (fun M_22 L_22 => ∀ M_30 : Mm, M_30 = zs M_22 2 1 (0 : Int32) → (post (M_30 2 4) M_30 L_22))) ∧ (¬ (r_1 = 0) → post r_1 M_1 L_1))
def wpX8_says_19 (post : Int32 → Mm → Ml → Prop) (M : Mm) (L : Ml) (s0 : Int32) : Prop :=
  post s0 M L
def wpX8_says (x1 : Int32) (M : Mm) (L : Ml) (post : Int32 → Mm → Ml → Prop) : Prop :=
  wpX8_isBelow x1 (256 : Int32) M L (fun r_4 M_4 L_4 => (r_4 = 0 → wpX8_says_19 post M_4 L_4 (-2 : Int32)) ∧ (¬ (r_4 = 0) → wpX3_readAloud x1 M_4 L_4 (fun r_11 M_11 L_11 => wpX8_says_19 post M_11 L_11 r_11)))
def wpX8_grew_38 (post : Int64 → Mm → Ml → Prop) (M : Mm) (L : Ml) : Prop :=
  post (-2 : Int64) M L
def wpX8_grew (x1 : Int32) (x2 : Int32) (x3 : Int32) (x4 : Int32) (M : Mm) (L : Ml) (post : Int64 → Mm → Ml → Prop) : Prop :=
  wpX8_isBelow x1 (256 : Int32) M L (fun r_4 M_4 L_4 => (r_4 = 0 → wpX8_grew_38 post M_4 L_4) ∧ (¬ (r_4 = 0) → wpX8_isBelow x2 (256 : Int32) M_4 L_4 (fun r_14 M_14 L_14 => (r_14 = 0 → wpX8_grew_38 post M_14 L_14) ∧ (¬ (r_14 = 0) → wpX8_isBelow x3 (11 : Int32) M_14 L_14 (fun r_23 M_23 L_23 => (r_23 = 0 → wpX8_grew_38 post M_23 L_23) ∧ (¬ (r_23 = 0) → wpX8_isBelow x4 (2 : Int32) M_23 L_23 (fun r_32 M_32 L_32 => (¬ r_32 = 0 → (¬ x4 = 0 → wpX3_firstRow x1 x2 x3 (M_32 14 8) (M_32 14 9) M_32 L_32 (fun r_86 M_86 L_86 => post r_86 M_86 L_86)) ∧ (x4 = 0 → wpX3_rows 11 x1 x2 x3 (M_32 14 8) (M_32 14 9) M_32 L_32 (fun r_64 M_64 L_64 => post (r_64.toInt64) M_64 L_64))) ∧ (r_32 = 0 → wpX8_grew_38 post M_32 L_32))))))))
def wpX8_soon_20 (post : Int32 → Mm → Ml → Prop) (M : Mm) (L : Ml) : Prop :=
  post (-2 : Int32) M L
def wpX8_soon (x1 : Int32) (x2 : Int32) (M : Mm) (L : Ml) (post : Int32 → Mm → Ml → Prop) : Prop :=
  wpX8_isBelow x1 (256 : Int32) M L (fun r_4 M_4 L_4 => (r_4 = 0 → wpX8_soon_20 post M_4 L_4) ∧ (¬ (r_4 = 0) → wpX8_isBelow x2 (256 : Int32) M_4 L_4 (fun r_14 M_14 L_14 => (¬ r_14 = 0 → wpX0_fewestAirs x1 x2 (M_14 14 8) (M_14 14 9) M_14 L_14 (fun r_43 M_43 L_43 => post r_43 M_43 L_43)) ∧ (r_14 = 0 → wpX8_soon_20 post M_14 L_14))))
def wpX8_most_32 (post : Int32 → Mm → Ml → Prop) (M : Mm) (L : Ml) (s0 : Int32) : Prop :=
  post s0 M L
def wpX8_most (x1 : Int32) (M : Mm) (L : Ml) (post : Int32 → Mm → Ml → Prop) : Prop :=
  wpX8_isBelow x1 (2 : Int32) M L (fun r_2 M_2 L_2 => (¬ r_2 = 0 → (¬ x1 = 0 → wpX1_byWhoever 14 M_2 L_2 (fun r_29 M_29 L_29 => wpX8_most_32 post M_29 L_29 r_29)) ∧ (x1 = 0 → wpX1_byAddressees 14 M_2 L_2 (fun r_19 M_19 L_19 => wpX8_most_32 post M_19 L_19 r_19))) ∧ (r_2 = 0 → post (-2 : Int32) M_2 L_2))
def wpX8_patch_77 (post : Int32 → Mm → Ml → Prop) (K31 : Mm → Ml → Int32 → Int32 → Int32 → Int32 → Int32 → Int32 → Prop) (M : Mm) (L : Ml) (v1 : Int32) (v2 : Int32) (v3 : Int32) (v4 : Int32) (v5 : Int32) (v6 : Int32) : Prop :=
  ∀ a_77 : Int32, a_77 = v6 + (1 : Int32) → (K31 M L v1 v2 v3 v4 v5 a_77)
def wpX8_patch_56 (post : Int32 → Mm → Ml → Prop) (K31 : Mm → Ml → Int32 → Int32 → Int32 → Int32 → Int32 → Int32 → Prop) (M : Mm) (L : Ml) (v1 : Int32) (v2 : Int32) (v3 : Int32) (v4 : Int32) (v6 : Int32) (s0 : Int32) : Prop :=
  (s0 ≤ v4 → wpX8_patch_77 post K31 M L v1 v2 v3 v4 s0 v6) ∧ (¬ (s0 ≤ v4) → ∀ a_76 : Int32, a_76 = (v6 - s0) + (1 : Int32) → (wpX8_patch_77 post K31 M L v1 v2 a_76 s0 s0 v6))
def wpX8_patch_93 (post : Int32 → Mm → Ml → Prop) (M : Mm) (L : Ml) (s0 : Int32) : Prop :=
  post s0 M L
def wpX8_patch_31 (post : Int32 → Mm → Ml → Prop) (K31 : Mm → Ml → Int32 → Int32 → Int32 → Int32 → Int32 → Int32 → Prop) (M : Mm) (L : Ml) (v1 : Int32) (v2 : Int32) (v3 : Int32) (v4 : Int32) (v5 : Int32) (v6 : Int32) : Prop :=
  ((16 : Int32) ≤ v6 → (¬ v1 = 0 → wpX8_patch_93 post M L v3) ∧ (v1 = 0 → wpX8_patch_93 post M L v4)) ∧ (¬ ((16 : Int32) ≤ v6) → wpX8_bit v2 v6 M L (fun r_41 M_41 L_41 => (¬ r_41 = (1 : Int32) → wpX8_patch_56 post K31 M_41 L_41 v1 v2 v3 v4 v6 (v5 + (1 : Int32))) ∧ (r_41 = (1 : Int32) → wpX8_patch_56 post K31 M_41 L_41 v1 v2 v3 v4 v6 (0 : Int32))))
def wlX8_patch_31 (post : Int32 → Mm → Ml → Prop) : Nat → (Mm × Ml × Int32 × Int32 × Int32 × Int32 × Int32 × Int32) → Prop := zlp (fun K s => wpX8_patch_31 post (fun M L v1 v2 v3 v4 v5 v6 => K (M, L, v1, v2, v3, v4, v5, v6)) s.1 s.2.1 s.2.2.1 s.2.2.2.1 s.2.2.2.2.1 s.2.2.2.2.2.1 s.2.2.2.2.2.2.1 s.2.2.2.2.2.2.2)
def wpX8_patch (x1 : Int32) (M : Mm) (L : Ml) (post : Int32 → Mm → Ml → Prop) : Prop :=
  wpX8_isBelow x1 (2 : Int32) M L (fun r_2 M_2 L_2 => (¬ r_2 = 0 → wpX7_trodden 14 M_2 L_2 (fun r_15 M_15 L_15 => ∃ j9 : Nat, wlX8_patch_31 post j9 (M_15, L_15, x1, r_15, (-6 : Int32), (0 : Int32), (0 : Int32), (0 : Int32)))) ∧ (r_2 = 0 → post (-2 : Int32) M_2 L_2))
def wpX8_seen_20 (post : Int32 → Mm → Ml → Prop) (M : Mm) (L : Ml) : Prop :=
  post (-2 : Int32) M L
def wpX8_seen (x1 : Int32) (x2 : Int32) (M : Mm) (L : Ml) (post : Int32 → Mm → Ml → Prop) : Prop :=
  wpX8_isBelow x1 (256 : Int32) M L (fun r_4 M_4 L_4 => (r_4 = 0 → wpX8_seen_20 post M_4 L_4) ∧ (¬ (r_4 = 0) → wpX8_isBelow x2 (256 : Int32) M_4 L_4 (fun r_14 M_14 L_14 => (¬ r_14 = 0 → ((M_14 14 10) < (8 : Int32) → wpX7_addSight 14 x1 x2 M_14 L_14 (fun M_44 L_44 => post (M_44 14 10) M_44 L_44)) ∧ (¬ ((M_14 14 10) < (8 : Int32)) → post (-4 : Int32) M_14 L_14)) ∧ (r_14 = 0 → wpX8_seen_20 post M_14 L_14))))
def wpX8_forget (M : Mm) (L : Ml) (post : Int32 → Mm → Ml → Prop) : Prop :=
  ∀ a_7 : Int32, a_7 = M 14 10 → (∀ M_13 : Mm, M_13 = zs M 14 10 (0 : Int32) → (∀ M_21 : Mm, M_21 = zs M_13 14 11 (0 : Int32) → (∀ M_29 : Mm, M_29 = zs M_21 14 12 (0 : Int32) → (post a_7 M_29 L))))
def wpX8_laws_32 (post : Int32 → Mm → Ml → Prop) (K4 : Mm → Ml → Int32 → Int32 → Int32 → Prop) (M : Mm) (L : Ml) (v1 : Int32) (v2 : Int32) (v3 : Int32) : Prop :=
  ∀ a_32 : Int32, a_32 = v3 + (1 : Int32) → (K4 M L v1 v2 a_32)
def wpX8_laws_49 (post : Int32 → Mm → Ml → Prop) (M : Mm) (L : Ml) (s0 : Int32) : Prop :=
  post s0 M L
def wpX8_laws_4 (post : Int32 → Mm → Ml → Prop) (K4 : Mm → Ml → Int32 → Int32 → Int32 → Prop) (M : Mm) (L : Ml) (v1 : Int32) (v2 : Int32) (v3 : Int32) : Prop :=
  ((256 : Int32) ≤ v3 → (¬ v1 = (-1 : Int32) → wpX8_laws_49 post M L (-6 : Int32)) ∧ (v1 = (-1 : Int32) → wpX8_laws_49 post M L v2)) ∧ (¬ ((256 : Int32) ≤ v3) → wpX7_fits 14 v3 M L (fun r_16 M_16 L_16 => (r_16 = 0 → wpX8_laws_32 post K4 M_16 L_16 v1 v2 v3) ∧ (¬ (r_16 = 0) → (¬ v2 = v1 → ∀ a_29 : Int32, a_29 = v2 + (1 : Int32) → (wpX8_laws_32 post K4 M_16 L_16 v1 a_29 v3)) ∧ (v2 = v1 → post v3 M_16 L_16))))
def wlX8_laws_4 (post : Int32 → Mm → Ml → Prop) : Nat → (Mm × Ml × Int32 × Int32 × Int32) → Prop := zlp (fun K s => wpX8_laws_4 post (fun M L v1 v2 v3 => K (M, L, v1, v2, v3)) s.1 s.2.1 s.2.2.1 s.2.2.2.1 s.2.2.2.2)
def wpX8_laws (x1 : Int32) (M : Mm) (L : Ml) (post : Int32 → Mm → Ml → Prop) : Prop :=
  ∃ j9 : Nat, wlX8_laws_4 post j9 (M, L, x1, (0 : Int32), (0 : Int32))
def wpX8_look_72 (post : Int32 → Mm → Ml → Prop) (K41 : Mm → Ml → Int32 → Int32 → Int32 → Int32 → Prop) (M : Mm) (L : Ml) (v1 : Int32) (v2 : Int32) (v3 : Int32) (v4 : Int32) : Prop :=
  ∀ a_72 : Int32, a_72 = v4 + (1 : Int32) → (K41 M L v1 v2 v3 a_72)
def wpX8_look_87 (post : Int32 → Mm → Ml → Prop) (M : Mm) (L : Ml) (s0 : Int32) : Prop :=
  post s0 M L
def wpX8_look_41 (post : Int32 → Mm → Ml → Prop) (K41 : Mm → Ml → Int32 → Int32 → Int32 → Int32 → Prop) (M : Mm) (L : Ml) (v1 : Int32) (v2 : Int32) (v3 : Int32) (v4 : Int32) : Prop :=
  ((256 : Int32) ≤ v4 → (¬ v1 = 0 → wpX8_look_87 post M L v3) ∧ (v1 = 0 → wpX8_look_87 post M L v2)) ∧ (¬ ((256 : Int32) ≤ v4) → wpX7_lawsLeftBy 14 v4 M L (fun r_55 M_55 L_55 => (v3 ≤ r_55 → wpX8_look_72 post K41 M_55 L_55 v1 v2 v3 v4) ∧ (¬ (v3 ≤ r_55) → wpX8_look_72 post K41 M_55 L_55 v1 v4 r_55 v4)))
def wlX8_look_41 (post : Int32 → Mm → Ml → Prop) : Nat → (Mm × Ml × Int32 × Int32 × Int32 × Int32) → Prop := zlp (fun K s => wpX8_look_41 post (fun M L v1 v2 v3 v4 => K (M, L, v1, v2, v3, v4)) s.1 s.2.1 s.2.2.1 s.2.2.2.1 s.2.2.2.2.1 s.2.2.2.2.2)
def wpX8_look (x1 : Int32) (M : Mm) (L : Ml) (post : Int32 → Mm → Ml → Prop) : Prop :=
  wpX8_isBelow x1 (2 : Int32) M L (fun r_2 M_2 L_2 => (¬ r_2 = 0 → (((M_2 14 11) &&& (M_2 14 12)) = 0 → ∃ j9 : Nat, wlX8_look_41 post j9 (M_2, L_2, x1, (0 : Int32), (257 : Int32), (0 : Int32))) ∧ (¬ (((M_2 14 11) &&& (M_2 14 12)) = 0) → post (-6 : Int32) M_2 L_2)) ∧ (r_2 = 0 → post (-2 : Int32) M_2 L_2))
def wpX8_gusts_76 (post : Int64 → Mm → Ml → Prop) (M : Mm) (L : Ml) (v1 : Int32) (v2 : Int32) (v3 : Int32) (v4 : Int32) (v5 : Int32) (v6 : Int32) (s0 : Int32) : Prop :=
  (¬ s0 = 0 → wpX4_fall v1 v2 v3 v4 M L (fun M_96 L_96 => wpX4_chance v5 v2 v6 M_96 L_96 (fun r_108 M_108 L_108 => post r_108 M_108 L_108))) ∧ (s0 = 0 → post (-1000000000000000002 : Int64) M L)
def wpX8_gusts_75 (post : Int64 → Mm → Ml → Prop) (M : Mm) (L : Ml) (v1 : Int32) (v2 : Int32) (v3 : Int32) (v4 : Int32) (v5 : Int32) (v6 : Int32) : Prop :=
  wpX8_gusts_76 post M L v1 v2 v3 v4 v5 v6 (0 : Int32)
def wpX8_gusts_62 (post : Int64 → Mm → Ml → Prop) (M : Mm) (L : Ml) (v1 : Int32) (v2 : Int32) (v3 : Int32) (v4 : Int32) (v5 : Int32) (v6 : Int32) : Prop :=
  wpX8_isBelow v6 (2 : Int32) M L (fun r_65 M_65 L_65 => (r_65 = 0 → wpX8_gusts_75 post M_65 L_65 v1 v2 v3 v4 v5 v6) ∧ (¬ (r_65 = 0) → wpX8_gusts_76 post M_65 L_65 v1 v2 v3 v4 v5 v6 (1 : Int32)))
def wpX8_gusts (x1 : Int32) (x2 : Int32) (x3 : Int32) (x4 : Int32) (x5 : Int32) (x6 : Int32) (M : Mm) (L : Ml) (post : Int64 → Mm → Ml → Prop) : Prop :=
  wpX8_isBelow x1 (16 : Int32) M L (fun r_3 M_3 L_3 => (r_3 = 0 → wpX8_gusts_75 post M_3 L_3 x1 x2 x3 x4 x5 x6) ∧ (¬ (r_3 = 0) → wpX8_isBelow x2 (7 : Int32) M_3 L_3 (fun r_12 M_12 L_12 => (r_12 = 0 → wpX8_gusts_75 post M_12 L_12 x1 x2 x3 x4 x5 x6) ∧ (¬ (r_12 = 0) → wpX8_isBelow x3 (11 : Int32) M_12 L_12 (fun r_21 M_21 L_21 => (r_21 = 0 → wpX8_gusts_75 post M_21 L_21 x1 x2 x3 x4 x5 x6) ∧ (¬ (r_21 = 0) → wpX8_isBelow x4 (11 : Int32) M_21 L_21 (fun r_31 M_31 L_31 => (r_31 = 0 → wpX8_gusts_75 post M_31 L_31 x1 x2 x3 x4 x5 x6) ∧ (¬ (r_31 = 0) → ((10 : Int32) < (x3 + x4) → wpX8_gusts_75 post M_31 L_31 x1 x2 x3 x4 x5 x6) ∧ (¬ ((10 : Int32) < (x3 + x4)) → (x5 = (-1 : Int32) → wpX8_gusts_62 post M_31 L_31 x1 x2 x3 x4 x5 x6) ∧ (¬ (x5 = (-1 : Int32)) → wpX8_isBelow x5 (16 : Int32) M_31 L_31 (fun r_56 M_56 L_56 => (r_56 = 0 → wpX8_gusts_75 post M_56 L_56 x1 x2 x3 x4 x5 x6) ∧ (¬ (r_56 = 0) → wpX8_gusts_62 post M_56 L_56 x1 x2 x3 x4 x5 x6))))))))))))
def wpX8_spoon_17 (post : Int32 → Mm → Ml → Prop) (M : Mm) (L : Ml) : Prop :=
  post (-2 : Int32) M L
def wpX8_spoon_45 (post : Int32 → Mm → Ml → Prop) (M : Mm) (L : Ml) (s0 : Int32) : Prop :=
  post s0 M L
def wpX8_spoon (x1 : Int32) (x2 : Int32) (M : Mm) (L : Ml) (post : Int32 → Mm → Ml → Prop) : Prop :=
  wpX8_isBelow x1 (61 : Int32) M L (fun r_3 M_3 L_3 => (r_3 = 0 → wpX8_spoon_17 post M_3 L_3) ∧ (¬ (r_3 = 0) → wpX8_isBelow x2 (2 : Int32) M_3 L_3 (fun r_11 M_11 L_11 => (¬ r_11 = 0 → wpX6_winningTake x1 (0 : Int32) M_11 L_11 (fun r_26 M_26 L_26 => (¬ x2 = 0 → post r_26 M_26 L_26) ∧ (x2 = 0 → (¬ r_26 = (-6 : Int32) → wpX8_spoon_45 post M_26 L_26 (1 : Int32)) ∧ (r_26 = (-6 : Int32) → wpX8_spoon_45 post M_26 L_26 (0 : Int32))))) ∧ (r_11 = 0 → wpX8_spoon_17 post M_11 L_11))))
def wpX8_year_29 (post : Int32 → Mm → Ml → Prop) (M : Mm) (L : Ml) : Prop :=
  post (-2 : Int32) M L
def wpX8_year (x1 : Int32) (x2 : Int32) (x3 : Int32) (M : Mm) (L : Ml) (post : Int32 → Mm → Ml → Prop) : Prop :=
  wpX8_isBelow x1 (10000 : Int32) M L (fun r_4 M_4 L_4 => (r_4 = 0 → wpX8_year_29 post M_4 L_4) ∧ (¬ (r_4 = 0) → (x2 < (1 : Int32) → wpX8_year_29 post M_4 L_4) ∧ (¬ (x2 < (1 : Int32)) → ((99 : Int32) < x2 → wpX8_year_29 post M_4 L_4) ∧ (¬ ((99 : Int32) < x2) → wpX8_isBelow x3 (3 : Int32) M_4 L_4 (fun r_23 M_23 L_23 => (¬ r_23 = 0 → wpX2_dreamYear 14 x1 x2 M_23 L_23 (fun M_42 L_42 => ((x3 = (0 : Int32) → wpX7_delivered 35 M_42 L_42 (fun r_79 M_79 L_79 => wpJ6_bitCount_0f7a4 r_79 M_79 L_79 (fun r_82 M_82 L_82 => post r_82 M_82 L_82))) ∧ (¬ (x3 = (0 : Int32)) → (x3 = (1 : Int32) → wpX7_inRiver 35 M_42 L_42 (fun r_93 M_93 L_93 => wpJ6_bitCount_0f7a4 r_93 M_93 L_93 (fun r_96 M_96 L_96 => post r_96 M_96 L_96))) ∧ (¬ (x3 = (1 : Int32)) → wpX7_falling 35 M_42 L_42 (fun r_107 M_107 L_107 => wpJ6_bitCount_0f7a4 r_107 M_107 L_107 (fun r_110 M_110 L_110 => post r_110 M_110 L_110))))))) ∧ (r_23 = 0 → wpX8_year_29 post M_23 L_23))))))
def wpX8_image (x1 : Int32) (M : Mm) (L : Ml) (post : Int32 → Mm → Ml → Prop) : Prop :=
  wpX8_isBelow x1 (2 : Int32) M L (fun r_2 M_2 L_2 => (¬ r_2 = 0 → vp_in x1 2 ∧ (wpX7_copy (zY x1.toNatClampNeg) 14 M_2 L_2 (fun M_21 L_21 => ∀ M_33 : Mm, M_33 = zs M_21 0 2 ((M_21 0 2) ||| ((1 : Int32) <<< (x1 &&& 31))) → (post (1 : Int32) M_33 L_21)))) ∧ (r_2 = 0 → post (-2 : Int32) M_2 L_2))
def wpX8_restore (x1 : Int32) (M : Mm) (L : Ml) (post : Int32 → Mm → Ml → Prop) : Prop :=
  wpX8_isBelow x1 (2 : Int32) M L (fun r_2 M_2 L_2 => (¬ r_2 = 0 → wpX8_bit (M_2 0 2) x1 M_2 L_2 (fun r_16 M_16 L_16 => (¬ r_16 = 0 → vp_in x1 2 ∧ (wpX7_copy 14 (zY x1.toNatClampNeg) M_16 L_16 (fun M_35 L_35 => post (1 : Int32) M_35 L_35))) ∧ (r_16 = 0 → post (-3 : Int32) M_16 L_16))) ∧ (r_2 = 0 → post (-2 : Int32) M_2 L_2))
def wpX8_toldOfFlake (x1 : Int32) (x2 : Int32) (M : Mm) (L : Ml) (post : Int32 → Mm → Ml → Prop) : Prop :=
  wpX7_has 14 x1 M L (fun r_5 M_5 L_5 => (¬ r_5 = 0 → ((x2 = (0 : Int32) → vp_in x1 8 ∧ (post (M_5 15 x1.toNatClampNeg) M_5 L_5)) ∧ (¬ (x2 = (0 : Int32)) → (x2 = (1 : Int32) → vp_in x1 8 ∧ (post (M_5 16 x1.toNatClampNeg) M_5 L_5)) ∧ (¬ (x2 = (1 : Int32)) → (x2 = (2 : Int32) → vp_in x1 8 ∧ (post (M_5 17 x1.toNatClampNeg) M_5 L_5)) ∧ (¬ (x2 = (2 : Int32)) → (x2 = (3 : Int32) → vp_in x1 8 ∧ (post (M_5 18 x1.toNatClampNeg) M_5 L_5)) ∧ (¬ (x2 = (3 : Int32)) → (x2 = (4 : Int32) → vp_in x1 8 ∧ (post (M_5 19 x1.toNatClampNeg) M_5 L_5)) ∧ (¬ (x2 = (4 : Int32)) → post (-2 : Int32) M_5 L_5))))))) ∧ (r_5 = 0 → post (-2 : Int32) M_5 L_5))
def wpX8_toldOfOne_17 (post : Int32 → Mm → Ml → Prop) (M : Mm) (L : Ml) : Prop :=
  post (-2 : Int32) M L
def wpX8_toldOfOne_47 (post : Int32 → Mm → Ml → Prop) (M : Mm) (L : Ml) (s0 : Int32) : Prop :=
  post s0 M L
def wpX8_toldOfOne (x1 : Int32) (x2 : Int32) (M : Mm) (L : Ml) (post : Int32 → Mm → Ml → Prop) : Prop :=
  wpX8_isBelow x1 (6 : Int32) M L (fun r_3 M_3 L_3 => (r_3 = 0 → wpX8_toldOfOne_17 post M_3 L_3) ∧ (¬ (r_3 = 0) → wpX8_isBelow x2 (2 : Int32) M_3 L_3 (fun r_11 M_11 L_11 => (¬ r_11 = 0 → (¬ x2 = 0 → wpX8_bit (M_11 14 7) x1 M_11 L_11 (fun r_44 M_44 L_44 => wpX8_toldOfOne_47 post M_44 L_44 r_44)) ∧ (x2 = 0 → vp_in x1 6 ∧ (wpX8_toldOfOne_47 post M_11 L_11 (M_11 20 x1.toNatClampNeg)))) ∧ (r_11 = 0 → wpX8_toldOfOne_17 post M_11 L_11))))
def wpX8_told (x1 : Int32) (M : Mm) (L : Ml) (post : Int32 → Mm → Ml → Prop) : Prop :=
  (x1 < (100 : Int32) → (x1 < (10 : Int32) → ((x1 = (0 : Int32) → post (M 2 1) M L) ∧ (¬ (x1 = (0 : Int32)) → (x1 = (1 : Int32) → post (M 14 0) M L) ∧ (¬ (x1 = (1 : Int32)) → (x1 = (2 : Int32) → post (M 14 8) M L) ∧ (¬ (x1 = (2 : Int32)) → (x1 = (3 : Int32) → post (M 14 9) M L) ∧ (¬ (x1 = (3 : Int32)) → (x1 = (4 : Int32) → post (M 14 10) M L) ∧ (¬ (x1 = (4 : Int32)) → (x1 = (5 : Int32) → wpX7_inRiver 14 M L (fun r_128 M_128 L_128 => post r_128 M_128 L_128)) ∧ (¬ (x1 = (5 : Int32)) → post (-2 : Int32) M L)))))))) ∧ (¬ (x1 < (10 : Int32)) → wpX8_toldOfFlake ((x1 / (10 : Int32)) - (1 : Int32)) (x1 - x1 / (10 : Int32) * (10 : Int32)) M L (fun r_39 M_39 L_39 => post r_39 M_39 L_39))) ∧ (¬ (x1 < (100 : Int32)) → wpX8_toldOfOne ((x1 / (10 : Int32)) - (10 : Int32)) (x1 - x1 / (10 : Int32) * (10 : Int32)) M L (fun r_18 M_18 L_18 => post r_18 M_18 L_18))
def wpX9_in_18 (post : Int32 → Mm → Ml → Prop) (M : Mm) (L : Ml) (s0 : Int32) : Prop :=
  (s0 = 0 ∨ s0 = 1) ∧ post s0 M L
def wpX9_in_17 (post : Int32 → Mm → Ml → Prop) (M : Mm) (L : Ml) : Prop :=
  wpX9_in_18 post M L (0 : Int32)
def wpX9_in (x1 : Int64) (x2 : Int64) (x3 : Int64) (M : Mm) (L : Ml) (post : Int32 → Mm → Ml → Prop) : Prop :=
  ((lg_cmp x1 x2) < 0 → wpX9_in_17 post M L) ∧ (¬ ((lg_cmp x1 x2) < 0) → (0 < (lg_cmp x1 x3) → wpX9_in_17 post M L) ∧ (¬ (0 < (lg_cmp x1 x3)) → wpX9_in_18 post M L (1 : Int32)))
def wpX9_bitsOf_4 (post : Int32 → Mm → Ml → Prop) (K4 : Mm → Ml → Int32 → Int32 → Prop) (M : Mm) (L : Ml) (v1 : Int32) (v2 : Int32) : Prop :=
  (v2 = 0 → post v1 M L) ∧ (¬ (v2 = 0) → ∀ a_8 : Int32, a_8 = v1 + (1 : Int32) → (∀ a_16 : Int32, a_16 = v2 &&& (v2 - (1 : Int32)) → (K4 M L a_8 a_16)))
def wlX9_bitsOf_4 (post : Int32 → Mm → Ml → Prop) : Nat → (Mm × Ml × Int32 × Int32) → Prop := zlp (fun K s => wpX9_bitsOf_4 post (fun M L v1 v2 => K (M, L, v1, v2)) s.1 s.2.1 s.2.2.1 s.2.2.2)
def wpX9_bitsOf (x1 : Int32) (M : Mm) (L : Ml) (post : Int32 → Mm → Ml → Prop) : Prop :=
  ∃ j9 : Nat, wlX9_bitsOf_4 post j9 (M, L, (0 : Int32), x1)
def wpX9_isFlake_29 (post : Int32 → Mm → Ml → Prop) (M : Mm) (L : Ml) (s0 : Int32) : Prop :=
  (s0 = 0 ∨ s0 = 1) ∧ post s0 M L
def wpX9_isFlake_28 (post : Int32 → Mm → Ml → Prop) (M : Mm) (L : Ml) : Prop :=
  wpX9_isFlake_29 post M L (0 : Int32)
def wpX9_isFlake (x1 : Int32) (M : Mm) (L : Ml) (post : Int32 → Mm → Ml → Prop) : Prop :=
  wpX9_in (x1.toInt64) (0 : Int64) (7 : Int64) M L (fun r_6 M_6 L_6 => (r_6 = 0 → wpX9_isFlake_28 post M_6 L_6) ∧ (¬ (r_6 = 0) → (¬ (((M_6 42 0) >>> (x1 &&& 31)) &&& (1 : Int32)) = (1 : Int32) → wpX9_isFlake_28 post M_6 L_6) ∧ ((((M_6 42 0) >>> (x1 &&& 31)) &&& (1 : Int32)) = (1 : Int32) → wpX9_isFlake_29 post M_6 L_6 (1 : Int32))))
def wpX9_isOne (x1 : Int32) (M : Mm) (L : Ml) (post : Int32 → Mm → Ml → Prop) : Prop :=
  wpX9_in (x1.toInt64) (0 : Int64) (5 : Int64) M L (fun r_6 M_6 L_6 => (r_6 = 0 ∨ r_6 = 1) ∧ post r_6 M_6 L_6)
def wpX9_isArm (x1 : Int32) (M : Mm) (L : Ml) (post : Int32 → Mm → Ml → Prop) : Prop :=
  wpX9_in (x1.toInt64) (0 : Int64) (255 : Int64) M L (fun r_6 M_6 L_6 => (r_6 = 0 ∨ r_6 = 1) ∧ post r_6 M_6 L_6)
def wpX9_flake_20 (post : Int32 → Mm → Ml → Prop) (M : Mm) (L : Ml) : Prop :=
  post (-1 : Int32) M L
def wpX9_flake_54 (post : Int32 → Mm → Ml → Prop) (M : Mm) (L : Ml) : Prop :=
  post (-2 : Int32) M L
def wpX9_flake (x1 : Int32) (x2 : Int32) (x3 : Int32) (x4 : Int32) (x5 : Int32) (M : Mm) (L : Ml) (post : Int32 → Mm → Ml → Prop) : Prop :=
  wpX9_in (x1.toInt64) (0 : Int64) (7 : Int64) M L (fun r_6 M_6 L_6 => (r_6 = 0 → wpX9_flake_20 post M_6 L_6) ∧ (¬ (r_6 = 0) → wpX9_isOne x5 M_6 L_6 (fun r_14 M_14 L_14 => (¬ r_14 = 0 → wpX9_isArm x2 M_14 L_14 (fun r_23 M_23 L_23 => (r_23 = 0 → wpX9_flake_54 post M_23 L_23) ∧ (¬ (r_23 = 0) → wpX9_in (x3.toInt64) (0 : Int64) (15 : Int64) M_23 L_23 (fun r_35 M_35 L_35 => (r_35 = 0 → wpX9_flake_54 post M_35 L_35) ∧ (¬ (r_35 = 0) → wpX9_in (x4.toInt64) (0 : Int64) (9 : Int64) M_35 L_35 (fun r_48 M_48 L_48 => (¬ r_48 = 0 → ∀ M_66 : Mm, M_66 = zs M_48 42 0 ((M_48 42 0) ||| ((1 : Int32) <<< (x1 &&& 31))) → (vp_in x1 8 ∧ (∀ M_75 : Mm, M_75 = zs M_66 43 x1.toNatClampNeg x2 → (vp_in x1 8 ∧ (∀ M_82 : Mm, M_82 = zs M_75 44 x1.toNatClampNeg x3 → (vp_in x1 8 ∧ (∀ M_90 : Mm, M_90 = zs M_82 45 x1.toNatClampNeg x4 → (vp_in x1 8 ∧ (∀ M_98 : Mm, M_98 = zs M_90 46 x1.toNatClampNeg x5 → (vp_in x1 8 ∧ (∀ M_106 : Mm, M_106 = zs M_98 47 x1.toNatClampNeg (-6 : Int32) → (wpX9_bitsOf (M_106 42 0) M_106 L_48 (fun r_111 M_111 L_111 => post r_111 M_111 L_111))))))))))))) ∧ (r_48 = 0 → wpX9_flake_54 post M_48 L_48))))))) ∧ (r_14 = 0 → wpX9_flake_20 post M_14 L_14))))
def wpX9_melt (x1 : Int32) (M : Mm) (L : Ml) (post : Int32 → Mm → Ml → Prop) : Prop :=
  wpX9_isFlake x1 M L (fun r_2 M_2 L_2 => (¬ r_2 = 0 → ∀ M_21 : Mm, M_21 = zs M_2 42 0 ((M_2 42 0) &&& (((1 : Int32) <<< (x1 &&& 31)) ^^^ (-1 : Int32))) → (wpX9_bitsOf (M_21 42 0) M_21 L_2 (fun r_28 M_28 L_28 => post r_28 M_28 L_28))) ∧ (r_2 = 0 → post (-1 : Int32) M_2 L_2))
def wpX9_stand (x1 : Int32) (x2 : Int32) (M : Mm) (L : Ml) (post : Int32 → Mm → Ml → Prop) : Prop :=
  wpX9_isOne x1 M L (fun r_1 M_1 L_1 => (¬ r_1 = 0 → wpX9_in (x2.toInt64) (0 : Int64) (15 : Int64) M_1 L_1 (fun r_15 M_15 L_15 => (¬ r_15 = 0 → vp_in x1 6 ∧ (∀ a_30 : Int32, a_30 = M_15 48 x1.toNatClampNeg → (vp_in x1 6 ∧ (∀ M_37 : Mm, M_37 = zs M_15 48 x1.toNatClampNeg x2 → (vp_in x1 6 ∧ (∀ M_44 : Mm, M_44 = zs M_37 49 x1.toNatClampNeg (0 : Int32) → (post a_30 M_44 L_15))))))) ∧ (r_15 = 0 → post (-2 : Int32) M_15 L_15))) ∧ (r_1 = 0 → post (-1 : Int32) M_1 L_1))
def wpX9_air_22 (post : Int32 → Mm → Ml → Prop) (M : Mm) (L : Ml) : Prop :=
  post (-2 : Int32) M L
def wpX9_air (x1 : Int32) (x2 : Int32) (M : Mm) (L : Ml) (post : Int32 → Mm → Ml → Prop) : Prop :=
  wpX9_in (x1.toInt64) (0 : Int64) (1 : Int64) M L (fun r_4 M_4 L_4 => (r_4 = 0 → wpX9_air_22 post M_4 L_4) ∧ (¬ (r_4 = 0) → wpX9_in (x2.toInt64) (0 : Int64) (255 : Int64) M_4 L_4 (fun r_16 M_16 L_16 => (¬ r_16 = 0 → vp_in x1 2 ∧ (∀ a_31 : Int32, a_31 = M_16 50 x1.toNatClampNeg → (vp_in x1 2 ∧ (∀ M_38 : Mm, M_38 = zs M_16 50 x1.toNatClampNeg x2 → (post a_31 M_38 L_16))))) ∧ (r_16 = 0 → wpX9_air_22 post M_16 L_16))))
def wpX9_say (x1 : Int32) (M : Mm) (L : Ml) (post : Int32 → Mm → Ml → Prop) : Prop :=
  wpX9_in (x1.toInt64) (33 : Int64) (126 : Int64) M L (fun r_8 M_8 L_8 => (¬ r_8 = 0 → (¬ (M_8 42 13) = (60 : Int32) → vp_in (M_8 42 13) 60 ∧ (∀ M_38 : Mm, M_38 = zs M_8 53 (M_8 42 13).toNatClampNeg x1 → (∀ M_46 : Mm, M_46 = zs M_38 42 13 ((M_38 42 13) + (1 : Int32)) → (post (M_46 42 13) M_46 L_8)))) ∧ ((M_8 42 13) = (60 : Int32) → post (-4 : Int32) M_8 L_8)) ∧ (r_8 = 0 → post (-2 : Int32) M_8 L_8))
def wpX9_wipe (M : Mm) (L : Ml) (post : Int32 → Mm → Ml → Prop) : Prop :=
  ∀ a_4 : Int32, a_4 = M 42 13 → (∀ M_7 : Mm, M_7 = zs M 42 13 (0 : Int32) → (post a_4 M_7 L))
def wpX9_close (x1 : Int32) (M : Mm) (L : Ml) (post : Int32 → Mm → Ml → Prop) : Prop :=
  vp_in (M 42 16) 60 ∧ (∀ M_9 : Mm, M_9 = zs M 54 (M 42 16).toNatClampNeg x1 → (∀ M_17 : Mm, M_17 = zs M_9 42 16 ((M_9 42 16) + (1 : Int32)) → (post (0 : Int32) M_17 L)))
def wpX9_readOn_51 (post : Int32 → Mm → Ml → Prop) (M : Mm) (L : Ml) (s0 : Int32) : Prop :=
  post s0 M L
def wpX9_readOn_176 (post : Int32 → Mm → Ml → Prop) (M : Mm) (L : Ml) (s0 : Int32) : Prop :=
  post s0 M L
def wpX9_readOn_84 (post : Int32 → Mm → Ml → Prop) (M : Mm) (L : Ml) (v2 : Int32) (v3 : Int32) (s0 : Int32) (s1 : Int32) : Prop :=
  vp_in s1 60 ∧ (∀ M_84 : Mm, M_84 = zs M 55 s1.toNatClampNeg s0 → (((v2 = (46 : Int32) → wpX9_close (4 : Int32) M_84 L (fun r_162 M_162 L_162 => post r_162 M_162 L_162)) ∧ (¬ (v2 = (46 : Int32)) → (v2 = (60 : Int32) → wpX9_close (2 : Int32) M_84 L (fun r_150 M_150 L_150 => post r_150 M_150 L_150)) ∧ (¬ (v2 = (60 : Int32)) → (v2 = (62 : Int32) → wpX9_close (3 : Int32) M_84 L (fun r_156 M_156 L_156 => post r_156 M_156 L_156)) ∧ (¬ (v2 = (62 : Int32)) → (v2 = (99 : Int32) → wpX9_close (0 : Int32) M_84 L (fun r_138 M_138 L_138 => post r_138 M_138 L_138)) ∧ (¬ (v2 = (99 : Int32)) → (v2 = (100 : Int32) → wpX9_close (1 : Int32) M_84 L (fun r_144 M_144 L_144 => post r_144 M_144 L_144)) ∧ (¬ (v2 = (100 : Int32)) → (v3 = 0 → wpX9_readOn_176 post M_84 L (-6 : Int32)) ∧ (¬ (v3 = 0) → wpX9_readOn_176 post M_84 L (1 : Int32))))))))))
def wpX9_readOn (x1 : Int32) (x2 : Int32) (M : Mm) (L : Ml) (post : Int32 → Mm → Ml → Prop) : Prop :=
  (¬ x1 = (1 : Int32) → wpX9_in (x2.toInt64) (65 : Int64) (70 : Int64) M L (fun r_60 M_60 L_60 => (r_60 = 0 → wpX9_readOn_84 post M_60 L_60 x2 r_60 (0 : Int32) (M_60 42 16)) ∧ (¬ (r_60 = 0) → wpX9_readOn_84 post M_60 L_60 x2 r_60 (x2 - (65 : Int32)) (M_60 42 16)))) ∧ (x1 = (1 : Int32) → (¬ x2 = (60 : Int32) → (¬ x2 = (62 : Int32) → (¬ x2 = (117 : Int32) → wpX9_readOn_51 post M L (-6 : Int32)) ∧ (x2 = (117 : Int32) → wpX9_close (7 : Int32) M L (fun r_43 M_43 L_43 => wpX9_readOn_51 post M_43 L_43 r_43))) ∧ (x2 = (62 : Int32) → wpX9_close (6 : Int32) M L (fun r_28 M_28 L_28 => wpX9_readOn_51 post M_28 L_28 r_28))) ∧ (x2 = (60 : Int32) → wpX9_close (5 : Int32) M L (fun r_13 M_13 L_13 => wpX9_readOn_51 post M_13 L_13 r_13)))
def wpX9_fault_54 (post : Int32 → Mm → Ml → Prop) (M : Mm) (L : Ml) (s0 : Int32) : Prop :=
  post s0 M L
def wpX9_fault_9 (post : Int32 → Mm → Ml → Prop) (K9 : Mm → Ml → Int32 → Int32 → Prop) (M : Mm) (L : Ml) (v1 : Int32) (v2 : Int32) : Prop :=
  ((M 42 13) ≤ v2 → (¬ v1 = 0 → wpX9_fault_54 post M L (M 42 13)) ∧ (v1 = 0 → wpX9_fault_54 post M L (-6 : Int32))) ∧ (¬ ((M 42 13) ≤ v2) → vp_in v2 60 ∧ (wpX9_readOn v1 (M 53 v2.toNatClampNeg) M L (fun r_25 M_25 L_25 => (0 ≤ r_25 → ∀ a_35 : Int32, a_35 = v2 + (1 : Int32) → (K9 M_25 L_25 r_25 a_35)) ∧ (¬ (0 ≤ r_25) → post v2 M_25 L_25))))
def wlX9_fault_9 (post : Int32 → Mm → Ml → Prop) : Nat → (Mm × Ml × Int32 × Int32) → Prop := zlp (fun K s => wpX9_fault_9 post (fun M L v1 v2 => K (M, L, v1, v2)) s.1 s.2.1 s.2.2.1 s.2.2.2)
def wpX9_fault (M : Mm) (L : Ml) (post : Int32 → Mm → Ml → Prop) : Prop :=
  ∀ M_2 : Mm, M_2 = zs M 42 16 (0 : Int32) → (∃ j9 : Nat, wlX9_fault_9 post j9 (M_2, L, (0 : Int32), (0 : Int32)))
def wpX9_isAbove_22 (post : Int32 → Mm → Ml → Prop) (M : Mm) (L : Ml) (s0 : Int32) : Prop :=
  (s0 = 0 ∨ s0 = 1) ∧ post s0 M L
def wpX9_isAbove_21 (post : Int32 → Mm → Ml → Prop) (M : Mm) (L : Ml) : Prop :=
  wpX9_isAbove_22 post M L (0 : Int32)
def wpX9_isAbove (x1 : Int32) (M : Mm) (L : Ml) (post : Int32 → Mm → Ml → Prop) : Prop :=
  wpX9_isFlake x1 M L (fun r_2 M_2 L_2 => (r_2 = 0 → wpX9_isAbove_21 post M_2 L_2) ∧ (¬ (r_2 = 0) → vp_in x1 8 ∧ (((M_2 45 x1.toNatClampNeg) ≤ 0 → wpX9_isAbove_21 post M_2 L_2) ∧ (¬ ((M_2 45 x1.toNatClampNeg) ≤ 0) → wpX9_isAbove_22 post M_2 L_2 (1 : Int32)))))
def wpX9_aboveMany_24 (post : Int32 → Mm → Ml → Prop) (K4 : Mm → Ml → Int32 → Int32 → Prop) (M : Mm) (L : Ml) (v2 : Int32) (s0 : Int32) (s1 : Int32) : Prop :=
  ∀ a_25 : Int32, a_25 = s1 + s0 → (∀ a_26 : Int32, a_26 = v2 + (1 : Int32) → (K4 M L a_25 a_26))
def wpX9_aboveMany_4 (post : Int32 → Mm → Ml → Prop) (K4 : Mm → Ml → Int32 → Int32 → Prop) (M : Mm) (L : Ml) (v1 : Int32) (v2 : Int32) : Prop :=
  ((8 : Int32) ≤ v2 → post v1 M L) ∧ (¬ ((8 : Int32) ≤ v2) → wpX9_isAbove v2 M L (fun r_13 M_13 L_13 => (r_13 = 0 → wpX9_aboveMany_24 post K4 M_13 L_13 v2 (0 : Int32) v1) ∧ (¬ (r_13 = 0) → wpX9_aboveMany_24 post K4 M_13 L_13 v2 (1 : Int32) v1)))
def wlX9_aboveMany_4 (post : Int32 → Mm → Ml → Prop) : Nat → (Mm × Ml × Int32 × Int32) → Prop := zlp (fun K s => wpX9_aboveMany_4 post (fun M L v1 v2 => K (M, L, v1, v2)) s.1 s.2.1 s.2.2.1 s.2.2.2)
def wpX9_aboveMany (M : Mm) (L : Ml) (post : Int32 → Mm → Ml → Prop) : Prop :=
  ∃ j9 : Nat, wlX9_aboveMany_4 post j9 (M, L, (0 : Int32), (0 : Int32))
def wpX9_whyNot_42 (post : Int32 → Mm → Ml → Prop) (M : Mm) (L : Ml) (s0 : Int32) : Prop :=
  post s0 M L
def wpX9_whyNot_59 (post : Int32 → Mm → Ml → Prop) (M : Mm) (L : Ml) (s0 : Int32) : Prop :=
  post s0 M L
def wpX9_whyNot_74 (post : Int32 → Mm → Ml → Prop) (M : Mm) (L : Ml) (s0 : Int32) : Prop :=
  post s0 M L
def wpX9_whyNot (x1 : Int32) (x2 : Int32) (M : Mm) (L : Ml) (post : Int32 → Mm → Ml → Prop) : Prop :=
  ((x1 = (5 : Int32) → vp_in x2 6 ∧ ((¬ (M 48 x2.toNatClampNeg) = 0 → wpX9_whyNot_42 post M L (0 : Int32)) ∧ ((M 48 x2.toNatClampNeg) = 0 → wpX9_whyNot_42 post M L (1 : Int32)))) ∧ (¬ (x1 = (5 : Int32)) → (x1 = (6 : Int32) → vp_in x2 6 ∧ ((¬ (M 48 x2.toNatClampNeg) = (15 : Int32) → wpX9_whyNot_59 post M L (0 : Int32)) ∧ ((M 48 x2.toNatClampNeg) = (15 : Int32) → wpX9_whyNot_59 post M L (1 : Int32)))) ∧ (¬ (x1 = (6 : Int32)) → (x1 = (7 : Int32) → post (0 : Int32) M L) ∧ (¬ (x1 = (7 : Int32)) → wpX9_aboveMany M L (fun r_63 M_63 L_63 => (¬ r_63 = 0 → wpX9_whyNot_74 post M_63 L_63 (0 : Int32)) ∧ (r_63 = 0 → wpX9_whyNot_74 post M_63 L_63 (2 : Int32)))))))
def wpX9_grown_9 (post : Int32 → Mm → Ml → Prop) (K9 : Mm → Ml → Int32 → Int32 → Int32 → Int32 → Prop) (M : Mm) (L : Ml) (v1 : Int32) (v2 : Int32) (v3 : Int32) (v4 : Int32) : Prop :=
  ((8 : Int32) ≤ v4 → post v2 M L) ∧ (¬ ((8 : Int32) ≤ v4) → ∀ a_22 : Int32, a_22 = (v3 >>> (v4 &&& 31)) &&& (1 : Int32) → (∀ a_32 : Int32, a_32 = (v3 >>> ((v4 + (1 : Int32)) &&& 31)) &&& (1 : Int32) → (∀ a_42 : Int32, a_42 = (v3 >>> ((v4 + (2 : Int32)) &&& 31)) &&& (1 : Int32) → (∀ a_65 : Int32, a_65 = v2 ||| (((v1 >>> (((((4 : Int32) * a_42) + ((2 : Int32) * a_32)) + a_22) &&& 31)) &&& (1 : Int32)) <<< (v4 &&& 31)) → (∀ a_66 : Int32, a_66 = v4 + (1 : Int32) → (K9 M L v1 a_65 v3 a_66))))))
def wlX9_grown_9 (post : Int32 → Mm → Ml → Prop) : Nat → (Mm × Ml × Int32 × Int32 × Int32 × Int32) → Prop := zlp (fun K s => wpX9_grown_9 post (fun M L v1 v2 v3 v4 => K (M, L, v1, v2, v3, v4)) s.1 s.2.1 s.2.2.1 s.2.2.2.1 s.2.2.2.2.1 s.2.2.2.2.2)
def wpX9_grown (x1 : Int32) (x2 : Int32) (M : Mm) (L : Ml) (post : Int32 → Mm → Ml → Prop) : Prop :=
  ∀ a_5 : Int32, a_5 = x1 <<< ((1 : Int32) &&& 31) → (∃ j9 : Nat, wlX9_grown_9 post j9 (M, L, x2, (0 : Int32), a_5, (0 : Int32)))
def wpX9_grow_45 (post : Mm → Ml → Prop) (K2 : Mm → Ml → Int32 → Int32 → Prop) (M : Mm) (L : Ml) (v1 : Int32) (v2 : Int32) (s0 : Int32) (s1 : Int32) : Prop :=
  vp_in s1 8 ∧ (∀ M_45 : Mm, M_45 = zs M 43 s1.toNatClampNeg s0 → (∀ a_46 : Int32, a_46 = v2 + (1 : Int32) → (K2 M_45 L v1 a_46)))
def wpX9_grow_2 (post : Mm → Ml → Prop) (K2 : Mm → Ml → Int32 → Int32 → Prop) (M : Mm) (L : Ml) (v1 : Int32) (v2 : Int32) : Prop :=
  ((8 : Int32) ≤ v2 → post M L) ∧ (¬ ((8 : Int32) ≤ v2) → wpX9_isAbove v2 M L (fun r_15 M_15 L_15 => (r_15 = 0 → vp_in v2 8 ∧ (wpX9_grow_45 post K2 M_15 L_15 v1 v2 (M_15 43 v2.toNatClampNeg) v2)) ∧ (¬ (r_15 = 0) → vp_in v2 8 ∧ (vp_in v1 2 ∧ (wpX9_grown (M_15 43 v2.toNatClampNeg) (M_15 50 v1.toNatClampNeg) M_15 L_15 (fun r_33 M_33 L_33 => wpX9_grow_45 post K2 M_33 L_33 v1 v2 r_33 v2))))))
def wlX9_grow_2 (post : Mm → Ml → Prop) : Nat → (Mm × Ml × Int32 × Int32) → Prop := zlp (fun K s => wpX9_grow_2 post (fun M L v1 v2 => K (M, L, v1, v2)) s.1 s.2.1 s.2.2.1 s.2.2.2)
def wpX9_grow (x1 : Int32) (M : Mm) (L : Ml) (post : Mm → Ml → Prop) : Prop :=
  ∃ j9 : Nat, wlX9_grow_2 post j9 (M, L, x1, (0 : Int32))
def wpX9_blowOne_57 (post : Mm → Ml → Prop) (M : Mm) (L : Ml) (s0 : Int32) (s1 : Int32) : Prop :=
  vp_in s1 8 ∧ (∀ M_57 : Mm, M_57 = zs M 45 s1.toNatClampNeg s0 → (post M_57 L))
def wpX9_blowOne_36 (post : Mm → Ml → Prop) (M : Mm) (L : Ml) (v1 : Int32) (v4 : Int32) (s0 : Int32) (s1 : Int32) : Prop :=
  vp_in s1 8 ∧ (∀ M_36 : Mm, M_36 = zs M 44 s1.toNatClampNeg s0 → ((v4 = 0 → wpX9_blowOne_57 post M_36 L (0 : Int32) v1) ∧ (¬ (v4 = 0) → vp_in v1 8 ∧ (wpX9_blowOne_57 post M_36 L (M_36 45 v1.toNatClampNeg) v1))))
def wpX9_blowOne (x1 : Int32) (x2 : Int32) (M : Mm) (L : Ml) (post : Mm → Ml → Prop) : Prop :=
  vp_in x1 8 ∧ (∀ a_8 : Int32, a_8 = (M 44 x1.toNatClampNeg) + x2 → (wpX9_in (a_8.toInt64) (0 : Int64) (15 : Int64) M L (fun r_15 M_15 L_15 => (r_15 = 0 → wpX9_blowOne_36 post M_15 L_15 x1 r_15 (-6 : Int32) x1) ∧ (¬ (r_15 = 0) → wpX9_blowOne_36 post M_15 L_15 x1 r_15 a_8 x1))))
def wpX9_blow_22 (post : Mm → Ml → Prop) (K2 : Mm → Ml → Int32 → Int32 → Prop) (M : Mm) (L : Ml) (v1 : Int32) (v2 : Int32) : Prop :=
  ∀ a_22 : Int32, a_22 = v2 + (1 : Int32) → (K2 M L v1 a_22)
def wpX9_blow_2 (post : Mm → Ml → Prop) (K2 : Mm → Ml → Int32 → Int32 → Prop) (M : Mm) (L : Ml) (v1 : Int32) (v2 : Int32) : Prop :=
  ((8 : Int32) ≤ v2 → post M L) ∧ (¬ ((8 : Int32) ≤ v2) → wpX9_isAbove v2 M L (fun r_10 M_10 L_10 => (r_10 = 0 → wpX9_blow_22 post K2 M_10 L_10 v1 v2) ∧ (¬ (r_10 = 0) → wpX9_blowOne v2 v1 M_10 L_10 (fun M_19 L_19 => wpX9_blow_22 post K2 M_19 L_19 v1 v2))))
def wlX9_blow_2 (post : Mm → Ml → Prop) : Nat → (Mm × Ml × Int32 × Int32) → Prop := zlp (fun K s => wpX9_blow_2 post (fun M L v1 v2 => K (M, L, v1, v2)) s.1 s.2.1 s.2.2.1 s.2.2.2)
def wpX9_blow (x1 : Int32) (M : Mm) (L : Ml) (post : Mm → Ml → Prop) : Prop :=
  ∃ j9 : Nat, wlX9_blow_2 post j9 (M, L, x1, (0 : Int32))
def wpX9_comeDown_55 (post : Mm → Ml → Prop) (K12 : Mm → Ml → Int32 → Int32 → Prop) (M : Mm) (L : Ml) (v1 : Int32) (v2 : Int32) (s0 : Int32) (s1 : Int32) : Prop :=
  vp_in s1 8 ∧ (∀ M_55 : Mm, M_55 = zs M 47 s1.toNatClampNeg s0 → (∀ a_56 : Int32, a_56 = v2 + (-1 : Int32) → (K12 M_55 L v1 a_56)))
def wpX9_comeDown_49 (post : Mm → Ml → Prop) (K12 : Mm → Ml → Int32 → Int32 → Prop) (M : Mm) (L : Ml) (v1 : Int32) (v2 : Int32) (s0 : Int32) : Prop :=
  vp_in v1 8 ∧ (wpX9_comeDown_55 post K12 M L v1 v2 (M 47 v1.toNatClampNeg) s0)
def wpX9_comeDown_92 (post : Mm → Ml → Prop) (M : Mm) (L : Ml) : Prop :=
  post M L
def wpX9_comeDown_12 (post : Mm → Ml → Prop) (K12 : Mm → Ml → Int32 → Int32 → Prop) (M : Mm) (L : Ml) (v1 : Int32) (v2 : Int32) : Prop :=
  (v2 < 0 → vp_in v1 8 ∧ (vp_in v1 8 ∧ ((¬ (M 47 v1.toNatClampNeg) = (M 46 v1.toNatClampNeg) → wpX9_comeDown_92 post M L) ∧ ((M 47 v1.toNatClampNeg) = (M 46 v1.toNatClampNeg) → (0 ≤ (M 42 18) → wpX9_comeDown_92 post M L) ∧ (¬ (0 ≤ (M 42 18)) → ∀ M_89 : Mm, M_89 = zs M 42 18 (M 42 19) → (wpX9_comeDown_92 post M_89 L)))))) ∧ (¬ (v2 < 0) → vp_in v2 6 ∧ (vp_in v1 8 ∧ ((¬ (M 48 v2.toNatClampNeg) = (M 44 v1.toNatClampNeg) → wpX9_comeDown_49 post K12 M L v1 v2 v1) ∧ ((M 48 v2.toNatClampNeg) = (M 44 v1.toNatClampNeg) → vp_in v2 6 ∧ ((¬ (M 49 v2.toNatClampNeg) = 0 → wpX9_comeDown_49 post K12 M L v1 v2 v1) ∧ ((M 49 v2.toNatClampNeg) = 0 → wpX9_comeDown_55 post K12 M L v1 v2 v2 v1))))))
def wlX9_comeDown_12 (post : Mm → Ml → Prop) : Nat → (Mm × Ml × Int32 × Int32) → Prop := zlp (fun K s => wpX9_comeDown_12 post (fun M L v1 v2 => K (M, L, v1, v2)) s.1 s.2.1 s.2.2.1 s.2.2.2)
def wpX9_comeDown (x1 : Int32) (M : Mm) (L : Ml) (post : Mm → Ml → Prop) : Prop :=
  ∀ M_7 : Mm, M_7 = zs M 42 17 ((M 42 17) + (1 : Int32)) → (∃ j9 : Nat, wlX9_comeDown_12 post j9 (M_7, L, x1, (5 : Int32)))
def wpX9_fall_40 (post : Mm → Ml → Prop) (K2 : Mm → Ml → Int32 → Prop) (M : Mm) (L : Ml) (v1 : Int32) : Prop :=
  ∀ a_40 : Int32, a_40 = v1 + (1 : Int32) → (K2 M L a_40)
def wpX9_fall_2 (post : Mm → Ml → Prop) (K2 : Mm → Ml → Int32 → Prop) (M : Mm) (L : Ml) (v1 : Int32) : Prop :=
  ((8 : Int32) ≤ v1 → post M L) ∧ (¬ ((8 : Int32) ≤ v1) → wpX9_isAbove v1 M L (fun r_10 M_10 L_10 => (r_10 = 0 → wpX9_fall_40 post K2 M_10 L_10 v1) ∧ (¬ (r_10 = 0) → vp_in v1 8 ∧ (vp_in v1 8 ∧ (∀ M_25 : Mm, M_25 = zs M_10 45 v1.toNatClampNeg ((M_10 45 v1.toNatClampNeg) - (1 : Int32)) → (vp_in v1 8 ∧ ((¬ (M_25 45 v1.toNatClampNeg) = 0 → wpX9_fall_40 post K2 M_25 L_10 v1) ∧ ((M_25 45 v1.toNatClampNeg) = 0 → wpX9_comeDown v1 M_25 L_10 (fun M_37 L_37 => wpX9_fall_40 post K2 M_37 L_37 v1)))))))))
def wlX9_fall_2 (post : Mm → Ml → Prop) : Nat → (Mm × Ml × Int32) → Prop := zlp (fun K s => wpX9_fall_2 post (fun M L v1 => K (M, L, v1)) s.1 s.2.1 s.2.2)
def wpX9_fall (M : Mm) (L : Ml) (post : Mm → Ml → Prop) : Prop :=
  ∃ j9 : Nat, wlX9_fall_2 post j9 (M, L, (0 : Int32))
def wpX9_happen_115 (post : Mm → Ml → Prop) (M : Mm) (L : Ml) : Prop :=
  post M L
def wpX9_happen_44 (post : Mm → Ml → Prop) (M : Mm) (L : Ml) (v1 : Int32) : Prop :=
  wpX9_grow v1 M L (fun M_46 L_46 => wpX9_happen_115 post M_46 L_46)
def wpX9_happen (x1 : Int32) (x2 : Int32) (M : Mm) (L : Ml) (post : Mm → Ml → Prop) : Prop :=
  ((x1 = (0 : Int32) → wpX9_happen_44 post M L x1) ∧ (¬ (x1 = (0 : Int32)) → (x1 = (1 : Int32) → wpX9_happen_44 post M L x1) ∧ (¬ (x1 = (1 : Int32)) → (x1 = (2 : Int32) → wpX9_blow (-1 : Int32) M L (fun M_54 L_54 => wpX9_happen_115 post M_54 L_54)) ∧ (¬ (x1 = (2 : Int32)) → (x1 = (3 : Int32) → wpX9_blow (1 : Int32) M L (fun M_62 L_62 => wpX9_happen_115 post M_62 L_62)) ∧ (¬ (x1 = (3 : Int32)) → (x1 = (4 : Int32) → wpX9_fall M L (fun M_69 L_69 => wpX9_happen_115 post M_69 L_69)) ∧ (¬ (x1 = (4 : Int32)) → (x1 = (5 : Int32) → vp_in x2 6 ∧ (vp_in x2 6 ∧ (∀ M_84 : Mm, M_84 = zs M 48 x2.toNatClampNeg ((M 48 x2.toNatClampNeg) - (1 : Int32)) → (wpX9_happen_115 post M_84 L)))) ∧ (¬ (x1 = (5 : Int32)) → (x1 = (6 : Int32) → vp_in x2 6 ∧ (vp_in x2 6 ∧ (∀ M_97 : Mm, M_97 = zs M 48 x2.toNatClampNeg ((M 48 x2.toNatClampNeg) + (1 : Int32)) → (wpX9_happen_115 post M_97 L)))) ∧ (¬ (x1 = (6 : Int32)) → vp_in x2 6 ∧ (vp_in x2 6 ∧ (∀ M_114 : Mm, M_114 = zs M 49 x2.toNatClampNeg ((1 : Int32) - (M 49 x2.toNatClampNeg)) → (wpX9_happen_115 post M_114 L)))))))))))
def wpX9_keepNow_73 (post : Mm → Ml → Prop) (K73 : Mm → Ml → Int32 → Prop) (M : Mm) (L : Ml) (v1 : Int32) : Prop :=
  ((6 : Int32) ≤ v1 → post M L) ∧ (¬ ((6 : Int32) ≤ v1) → vp_in v1 6 ∧ (vp_in ((32 : Int32) + v1) 44 ∧ (∀ M_93 : Mm, M_93 = zs M 56 ((32 : Int32) + v1).toNatClampNeg (M 48 v1.toNatClampNeg) → (vp_in v1 6 ∧ (vp_in ((38 : Int32) + v1) 44 ∧ (∀ M_108 : Mm, M_108 = zs M_93 56 ((38 : Int32) + v1).toNatClampNeg (M_93 49 v1.toNatClampNeg) → (∀ a_109 : Int32, a_109 = v1 + (1 : Int32) → (K73 M_108 L a_109))))))))
def wlX9_keepNow_73 (post : Mm → Ml → Prop) : Nat → (Mm × Ml × Int32) → Prop := zlp (fun K s => wpX9_keepNow_73 post (fun M L v1 => K (M, L, v1)) s.1 s.2.1 s.2.2)
def wpX9_keepNow_2 (post : Mm → Ml → Prop) (K2 : Mm → Ml → Int32 → Prop) (M : Mm) (L : Ml) (v1 : Int32) : Prop :=
  ((8 : Int32) ≤ v1 → ∃ j9 : Nat, wlX9_keepNow_73 post j9 (M, L, (0 : Int32))) ∧ (¬ ((8 : Int32) ≤ v1) → vp_in v1 8 ∧ (vp_in v1 44 ∧ (∀ M_19 : Mm, M_19 = zs M 56 v1.toNatClampNeg (M 43 v1.toNatClampNeg) → (vp_in v1 8 ∧ (vp_in ((8 : Int32) + v1) 44 ∧ (∀ M_34 : Mm, M_34 = zs M_19 56 ((8 : Int32) + v1).toNatClampNeg (M_19 44 v1.toNatClampNeg) → (vp_in v1 8 ∧ (vp_in ((16 : Int32) + v1) 44 ∧ (∀ M_49 : Mm, M_49 = zs M_34 56 ((16 : Int32) + v1).toNatClampNeg (M_34 45 v1.toNatClampNeg) → (vp_in v1 8 ∧ (vp_in ((24 : Int32) + v1) 44 ∧ (∀ M_64 : Mm, M_64 = zs M_49 56 ((24 : Int32) + v1).toNatClampNeg (M_49 47 v1.toNatClampNeg) → (∀ a_65 : Int32, a_65 = v1 + (1 : Int32) → (K2 M_64 L a_65))))))))))))))
def wlX9_keepNow_2 (post : Mm → Ml → Prop) : Nat → (Mm × Ml × Int32) → Prop := zlp (fun K s => wpX9_keepNow_2 post (fun M L v1 => K (M, L, v1)) s.1 s.2.1 s.2.2)
def wpX9_keepNow (M : Mm) (L : Ml) (post : Mm → Ml → Prop) : Prop :=
  ∃ j9 : Nat, wlX9_keepNow_2 post j9 (M, L, (0 : Int32))
def wpX9_back_73 (post : Int32 → Mm → Ml → Prop) (K73 : Mm → Ml → Int32 → Int32 → Prop) (M : Mm) (L : Ml) (v1 : Int32) (v2 : Int32) : Prop :=
  ((6 : Int32) ≤ v2 → post v1 M L) ∧ (¬ ((6 : Int32) ≤ v2) → vp_in ((32 : Int32) + v2) 44 ∧ (vp_in v2 6 ∧ (∀ M_93 : Mm, M_93 = zs M 48 v2.toNatClampNeg (M 56 ((32 : Int32) + v2).toNatClampNeg) → (vp_in ((38 : Int32) + v2) 44 ∧ (vp_in v2 6 ∧ (∀ M_108 : Mm, M_108 = zs M_93 49 v2.toNatClampNeg (M_93 56 ((38 : Int32) + v2).toNatClampNeg) → (∀ a_109 : Int32, a_109 = v2 + (1 : Int32) → (K73 M_108 L v1 a_109))))))))
def wlX9_back_73 (post : Int32 → Mm → Ml → Prop) : Nat → (Mm × Ml × Int32 × Int32) → Prop := zlp (fun K s => wpX9_back_73 post (fun M L v1 v2 => K (M, L, v1, v2)) s.1 s.2.1 s.2.2.1 s.2.2.2)
def wpX9_back_2 (post : Int32 → Mm → Ml → Prop) (K2 : Mm → Ml → Int32 → Int32 → Prop) (M : Mm) (L : Ml) (v1 : Int32) (v2 : Int32) : Prop :=
  ((8 : Int32) ≤ v2 → ∃ j9 : Nat, wlX9_back_73 post j9 (M, L, v1, (0 : Int32))) ∧ (¬ ((8 : Int32) ≤ v2) → vp_in v2 44 ∧ (vp_in v2 8 ∧ (∀ M_19 : Mm, M_19 = zs M 43 v2.toNatClampNeg (M 56 v2.toNatClampNeg) → (vp_in ((8 : Int32) + v2) 44 ∧ (vp_in v2 8 ∧ (∀ M_34 : Mm, M_34 = zs M_19 44 v2.toNatClampNeg (M_19 56 ((8 : Int32) + v2).toNatClampNeg) → (vp_in ((16 : Int32) + v2) 44 ∧ (vp_in v2 8 ∧ (∀ M_49 : Mm, M_49 = zs M_34 45 v2.toNatClampNeg (M_34 56 ((16 : Int32) + v2).toNatClampNeg) → (vp_in ((24 : Int32) + v2) 44 ∧ (vp_in v2 8 ∧ (∀ M_64 : Mm, M_64 = zs M_49 47 v2.toNatClampNeg (M_49 56 ((24 : Int32) + v2).toNatClampNeg) → (∀ a_65 : Int32, a_65 = v2 + (1 : Int32) → (K2 M_64 L v1 a_65))))))))))))))
def wlX9_back_2 (post : Int32 → Mm → Ml → Prop) : Nat → (Mm × Ml × Int32 × Int32) → Prop := zlp (fun K s => wpX9_back_2 post (fun M L v1 v2 => K (M, L, v1, v2)) s.1 s.2.1 s.2.2.1 s.2.2.2)
def wpX9_back (x1 : Int32) (M : Mm) (L : Ml) (post : Int32 → Mm → Ml → Prop) : Prop :=
  ∃ j9 : Nat, wlX9_back_2 post j9 (M, L, x1, (0 : Int32))
def wpX9_goDays_110 (post : Mm → Ml → Prop) (K25 : Mm → Ml → Int32 → Prop) (M : Mm) (L : Ml) (v1 : Int32) : Prop :=
  ∀ a_110 : Int32, a_110 = v1 + (1 : Int32) → (K25 M L a_110)
def wpX9_goDays_87 (post : Mm → Ml → Prop) (K25 : Mm → Ml → Int32 → Prop) (M : Mm) (L : Ml) (v1 : Int32) (v2 : Int32) (s0 : Int32) : Prop :=
  ∀ M_87 : Mm, M_87 = zs M 42 22 s0 → ((¬ v2 = 0 → wpX9_goDays_110 post K25 M_87 L v1) ∧ (v2 = 0 → vp_in v1 60 ∧ (vp_in v1 60 ∧ (wpX9_happen (M_87 54 v1.toNatClampNeg) (M_87 55 v1.toNatClampNeg) M_87 L (fun M_107 L_107 => wpX9_goDays_110 post K25 M_107 L_107 v1)))))
def wpX9_goDays_73 (post : Mm → Ml → Prop) (K25 : Mm → Ml → Int32 → Prop) (M : Mm) (L : Ml) (v1 : Int32) (v2 : Int32) (s0 : Int32) : Prop :=
  ∀ M_73 : Mm, M_73 = zs M 42 21 s0 → ((v2 ≤ 0 → wpX9_goDays_87 post K25 M_73 L v1 v2 (-6 : Int32)) ∧ (¬ (v2 ≤ 0) → wpX9_goDays_87 post K25 M_73 L v1 v2 v2))
def wpX9_goDays_116 (post : Mm → Ml → Prop) (M : Mm) (L : Ml) : Prop :=
  post M L
def wpX9_goDays_25 (post : Mm → Ml → Prop) (K25 : Mm → Ml → Int32 → Prop) (M : Mm) (L : Ml) (v1 : Int32) : Prop :=
  ((M 42 16) ≤ v1 → wpX9_goDays_116 post M L) ∧ (¬ ((M 42 16) ≤ v1) → (0 ≤ (M 42 21) → wpX9_goDays_116 post M L) ∧ (¬ (0 ≤ (M 42 21)) → ∀ M_42 : Mm, M_42 = zs M 42 19 v1 → (vp_in v1 60 ∧ (vp_in v1 60 ∧ (wpX9_whyNot (M_42 54 v1.toNatClampNeg) (M_42 55 v1.toNatClampNeg) M_42 L (fun r_58 M_58 L_58 => (r_58 ≤ 0 → wpX9_goDays_73 post K25 M_58 L_58 v1 r_58 (-6 : Int32)) ∧ (¬ (r_58 ≤ 0) → wpX9_goDays_73 post K25 M_58 L_58 v1 r_58 v1)))))))
def wlX9_goDays_25 (post : Mm → Ml → Prop) : Nat → (Mm × Ml × Int32) → Prop := zlp (fun K s => wpX9_goDays_25 post (fun M L v1 => K (M, L, v1)) s.1 s.2.1 s.2.2)
def wpX9_goDays (M : Mm) (L : Ml) (post : Mm → Ml → Prop) : Prop :=
  ∀ M_2 : Mm, M_2 = zs M 42 17 (0 : Int32) → (∀ M_8 : Mm, M_8 = zs M_2 42 18 (-6 : Int32) → (∀ M_14 : Mm, M_14 = zs M_8 42 21 (-6 : Int32) → (∀ M_20 : Mm, M_20 = zs M_14 42 22 (-6 : Int32) → (∃ j9 : Nat, wlX9_goDays_25 post j9 (M_20, L, (0 : Int32))))))
def wpX9_refusal_32 (post : Int32 → Mm → Ml → Prop) (M : Mm) (L : Ml) (s0 : Int32) : Prop :=
  post s0 M L
def wpX9_refusal (M : Mm) (L : Ml) (post : Int32 → Mm → Ml → Prop) : Prop :=
  wpX9_keepNow M L (fun M_1 L_1 => wpX9_fault M_1 L_1 (fun r_5 M_5 L_5 => (r_5 < 0 → wpX9_goDays M_5 L_5 (fun M_15 L_15 => ((M_15 42 21) < 0 → wpX9_refusal_32 post M_15 L_15 (-6 : Int32)) ∧ (¬ ((M_15 42 21) < 0) → wpX9_refusal_32 post M_15 L_15 (-3 : Int32)))) ∧ (¬ (r_5 < 0) → post (-5 : Int32) M_5 L_5)))
def wpX9_judge_41 (post : Int32 → Mm → Ml → Prop) (M : Mm) (L : Ml) (v2 : Int32) : Prop :=
  post v2 M L
def wpX9_judge_70 (post : Int32 → Mm → Ml → Prop) (M : Mm) (L : Ml) (s0 : Int32) : Prop :=
  post s0 M L
def wpX9_judge_43 (post : Int32 → Mm → Ml → Prop) (M : Mm) (L : Ml) (v1 : Int32) : Prop :=
  (¬ v1 = 0 → (¬ v1 = (1 : Int32) → wpX9_judge_70 post M L (M 42 17)) ∧ (v1 = (1 : Int32) → wpX9_judge_70 post M L (M 42 22))) ∧ (v1 = 0 → wpX9_judge_70 post M L (M 42 21))
def wpX9_judge (x1 : Int32) (M : Mm) (L : Ml) (post : Int32 → Mm → Ml → Prop) : Prop :=
  wpX9_in (x1.toInt64) (0 : Int64) (2 : Int64) M L (fun r_6 M_6 L_6 => (¬ r_6 = 0 → wpX9_refusal M_6 L_6 (fun r_17 M_17 L_17 => wpX9_back r_17 M_17 L_17 (fun r_20 M_20 L_20 => (r_20 = (-5 : Int32) → wpX9_judge_41 post M_20 L_20 r_20) ∧ (¬ (r_20 = (-5 : Int32)) → (x1 ≤ (1 : Int32) → wpX9_judge_43 post M_20 L_20 x1) ∧ (¬ (x1 ≤ (1 : Int32)) → (¬ r_20 = (-3 : Int32) → wpX9_judge_43 post M_20 L_20 x1) ∧ (r_20 = (-3 : Int32) → wpX9_judge_41 post M_20 L_20 r_20)))))) ∧ (r_6 = 0 → post (-2 : Int32) M_6 L_6))
def wpX9_ofFlake (x1 : Int32) (x2 : Int32) (M : Mm) (L : Ml) (post : Int32 → Mm → Ml → Prop) : Prop :=
  ((x2 = (0 : Int32) → vp_in x1 8 ∧ (post (M 43 x1.toNatClampNeg) M L)) ∧ (¬ (x2 = (0 : Int32)) → (x2 = (1 : Int32) → vp_in x1 8 ∧ (post (M 44 x1.toNatClampNeg) M L)) ∧ (¬ (x2 = (1 : Int32)) → (x2 = (2 : Int32) → vp_in x1 8 ∧ (post (M 45 x1.toNatClampNeg) M L)) ∧ (¬ (x2 = (2 : Int32)) → vp_in x1 8 ∧ (post (M 47 x1.toNatClampNeg) M L)))))
def wpX9_behind_47 (post : Int32 → Mm → Ml → Prop) (M : Mm) (L : Ml) (s0 : Int32) : Prop :=
  wpX9_back s0 M L (fun r_47 M_47 L_47 => post r_47 M_47 L_47)
def wpX9_behind (x1 : Int32) (x2 : Int32) (M : Mm) (L : Ml) (post : Int32 → Mm → Ml → Prop) : Prop :=
  wpX9_isFlake x1 M L (fun r_2 M_2 L_2 => (¬ r_2 = 0 → wpX9_in (x2.toInt64) (0 : Int64) (3 : Int64) M_2 L_2 (fun r_16 M_16 L_16 => (¬ r_16 = 0 → wpX9_refusal M_16 L_16 (fun r_26 M_26 L_26 => (r_26 = (-6 : Int32) → wpX9_ofFlake x1 x2 M_26 L_26 (fun r_44 M_44 L_44 => wpX9_behind_47 post M_44 L_44 r_44)) ∧ (¬ (r_26 = (-6 : Int32)) → wpX9_behind_47 post M_26 L_26 r_26))) ∧ (r_16 = 0 → post (-2 : Int32) M_16 L_16))) ∧ (r_2 = 0 → post (-1 : Int32) M_2 L_2))
def wpX9_flakesOf_36 (post : Int32 → Mm → Ml → Prop) (K4 : Mm → Ml → Int32 → Int32 → Int32 → Prop) (M : Mm) (L : Ml) (v1 : Int32) (v3 : Int32) (s0 : Int32) (s1 : Int32) : Prop :=
  ∀ a_37 : Int32, a_37 = s1 ||| s0 → (∀ a_38 : Int32, a_38 = v3 + (1 : Int32) → (K4 M L v1 a_37 a_38))
def wpX9_flakesOf_35 (post : Int32 → Mm → Ml → Prop) (K4 : Mm → Ml → Int32 → Int32 → Int32 → Prop) (M : Mm) (L : Ml) (v1 : Int32) (v3 : Int32) (s0 : Int32) : Prop :=
  wpX9_flakesOf_36 post K4 M L v1 v3 (0 : Int32) s0
def wpX9_flakesOf_4 (post : Int32 → Mm → Ml → Prop) (K4 : Mm → Ml → Int32 → Int32 → Int32 → Prop) (M : Mm) (L : Ml) (v1 : Int32) (v2 : Int32) (v3 : Int32) : Prop :=
  ((8 : Int32) ≤ v3 → post v2 M L) ∧ (¬ ((8 : Int32) ≤ v3) → wpX9_isFlake v3 M L (fun r_13 M_13 L_13 => (r_13 = 0 → wpX9_flakesOf_35 post K4 M_13 L_13 v1 v3 v2) ∧ (¬ (r_13 = 0) → vp_in v3 8 ∧ ((¬ (M_13 47 v3.toNatClampNeg) = v1 → wpX9_flakesOf_35 post K4 M_13 L_13 v1 v3 v2) ∧ ((M_13 47 v3.toNatClampNeg) = v1 → wpX9_flakesOf_36 post K4 M_13 L_13 v1 v3 ((1 : Int32) <<< (v3 &&& 31)) v2)))))
def wlX9_flakesOf_4 (post : Int32 → Mm → Ml → Prop) : Nat → (Mm × Ml × Int32 × Int32 × Int32) → Prop := zlp (fun K s => wpX9_flakesOf_4 post (fun M L v1 v2 v3 => K (M, L, v1, v2, v3)) s.1 s.2.1 s.2.2.1 s.2.2.2.1 s.2.2.2.2)
def wpX9_flakesOf (x1 : Int32) (M : Mm) (L : Ml) (post : Int32 → Mm → Ml → Prop) : Prop :=
  ∃ j9 : Nat, wlX9_flakesOf_4 post j9 (M, L, x1, (0 : Int32), (0 : Int32))
def wpX9_stands_76 (post : Int32 → Mm → Ml → Prop) (M : Mm) (L : Ml) (s0 : Int32) : Prop :=
  wpX9_back s0 M L (fun r_76 M_76 L_76 => post r_76 M_76 L_76)
def wpX9_stands_61 (post : Int32 → Mm → Ml → Prop) (M : Mm) (L : Ml) (v3 : Int32) (s0 : Int32) : Prop :=
  (v3 = (-6 : Int32) → wpX9_stands_76 post M L s0) ∧ (¬ (v3 = (-6 : Int32)) → wpX9_stands_76 post M L v3)
def wpX9_stands (x1 : Int32) (x2 : Int32) (M : Mm) (L : Ml) (post : Int32 → Mm → Ml → Prop) : Prop :=
  wpX9_isOne x1 M L (fun r_1 M_1 L_1 => (¬ r_1 = 0 → wpX9_in (x2.toInt64) (0 : Int64) (2 : Int64) M_1 L_1 (fun r_15 M_15 L_15 => (¬ r_15 = 0 → wpX9_refusal M_15 L_15 (fun r_25 M_25 L_25 => (¬ x2 = 0 → (¬ x2 = (1 : Int32) → wpX9_flakesOf x1 M_25 L_25 (fun r_58 M_58 L_58 => wpX9_stands_61 post M_58 L_58 r_25 r_58)) ∧ (x2 = (1 : Int32) → vp_in x1 6 ∧ (wpX9_stands_61 post M_25 L_25 r_25 (M_25 49 x1.toNatClampNeg)))) ∧ (x2 = 0 → vp_in x1 6 ∧ (wpX9_stands_61 post M_25 L_25 r_25 (M_25 48 x1.toNatClampNeg))))) ∧ (r_15 = 0 → post (-2 : Int32) M_15 L_15))) ∧ (r_1 = 0 → post (-1 : Int32) M_1 L_1))
def wpX9_postedNow_41 (post : Int32 → Mm → Ml → Prop) (K4 : Mm → Ml → Int32 → Int32 → Prop) (M : Mm) (L : Ml) (v2 : Int32) (s0 : Int32) (s1 : Int32) : Prop :=
  ∀ a_42 : Int32, a_42 = s1 ||| s0 → (∀ a_43 : Int32, a_43 = v2 + (1 : Int32) → (K4 M L a_42 a_43))
def wpX9_postedNow_40 (post : Int32 → Mm → Ml → Prop) (K4 : Mm → Ml → Int32 → Int32 → Prop) (M : Mm) (L : Ml) (v2 : Int32) (s0 : Int32) : Prop :=
  wpX9_postedNow_41 post K4 M L v2 (0 : Int32) s0
def wpX9_postedNow_4 (post : Int32 → Mm → Ml → Prop) (K4 : Mm → Ml → Int32 → Int32 → Prop) (M : Mm) (L : Ml) (v1 : Int32) (v2 : Int32) : Prop :=
  ((8 : Int32) ≤ v2 → post v1 M L) ∧ (¬ ((8 : Int32) ≤ v2) → wpX9_isFlake v2 M L (fun r_13 M_13 L_13 => (r_13 = 0 → wpX9_postedNow_40 post K4 M_13 L_13 v2 v1) ∧ (¬ (r_13 = 0) → vp_in v2 8 ∧ (vp_in v2 8 ∧ ((¬ (M_13 47 v2.toNatClampNeg) = (M_13 46 v2.toNatClampNeg) → wpX9_postedNow_40 post K4 M_13 L_13 v2 v1) ∧ ((M_13 47 v2.toNatClampNeg) = (M_13 46 v2.toNatClampNeg) → wpX9_postedNow_41 post K4 M_13 L_13 v2 ((1 : Int32) <<< (v2 &&& 31)) v1))))))
def wlX9_postedNow_4 (post : Int32 → Mm → Ml → Prop) : Nat → (Mm × Ml × Int32 × Int32) → Prop := zlp (fun K s => wpX9_postedNow_4 post (fun M L v1 v2 => K (M, L, v1, v2)) s.1 s.2.1 s.2.2.1 s.2.2.2)
def wpX9_postedNow (M : Mm) (L : Ml) (post : Int32 → Mm → Ml → Prop) : Prop :=
  ∃ j9 : Nat, wlX9_postedNow_4 post j9 (M, L, (0 : Int32), (0 : Int32))
def wpX9_riverNow_35 (post : Int32 → Mm → Ml → Prop) (K4 : Mm → Ml → Int32 → Int32 → Prop) (M : Mm) (L : Ml) (v2 : Int32) (s0 : Int32) (s1 : Int32) : Prop :=
  ∀ a_36 : Int32, a_36 = s1 ||| s0 → (∀ a_37 : Int32, a_37 = v2 + (1 : Int32) → (K4 M L a_36 a_37))
def wpX9_riverNow_34 (post : Int32 → Mm → Ml → Prop) (K4 : Mm → Ml → Int32 → Int32 → Prop) (M : Mm) (L : Ml) (v2 : Int32) (s0 : Int32) : Prop :=
  wpX9_riverNow_35 post K4 M L v2 (0 : Int32) s0
def wpX9_riverNow_4 (post : Int32 → Mm → Ml → Prop) (K4 : Mm → Ml → Int32 → Int32 → Prop) (M : Mm) (L : Ml) (v1 : Int32) (v2 : Int32) : Prop :=
  ((8 : Int32) ≤ v2 → post v1 M L) ∧ (¬ ((8 : Int32) ≤ v2) → wpX9_isFlake v2 M L (fun r_13 M_13 L_13 => (r_13 = 0 → wpX9_riverNow_34 post K4 M_13 L_13 v2 v1) ∧ (¬ (r_13 = 0) → vp_in v2 8 ∧ ((0 ≤ (M_13 44 v2.toNatClampNeg) → wpX9_riverNow_34 post K4 M_13 L_13 v2 v1) ∧ (¬ (0 ≤ (M_13 44 v2.toNatClampNeg)) → wpX9_riverNow_35 post K4 M_13 L_13 v2 ((1 : Int32) <<< (v2 &&& 31)) v1)))))
def wlX9_riverNow_4 (post : Int32 → Mm → Ml → Prop) : Nat → (Mm × Ml × Int32 × Int32) → Prop := zlp (fun K s => wpX9_riverNow_4 post (fun M L v1 v2 => K (M, L, v1, v2)) s.1 s.2.1 s.2.2.1 s.2.2.2)
def wpX9_riverNow (M : Mm) (L : Ml) (post : Int32 → Mm → Ml → Prop) : Prop :=
  ∃ j9 : Nat, wlX9_riverNow_4 post j9 (M, L, (0 : Int32), (0 : Int32))
def wpX9_posted_63 (post : Int32 → Mm → Ml → Prop) (M : Mm) (L : Ml) (s0 : Int32) : Prop :=
  wpX9_back s0 M L (fun r_63 M_63 L_63 => post r_63 M_63 L_63)
def wpX9_posted_50 (post : Int32 → Mm → Ml → Prop) (M : Mm) (L : Ml) (v2 : Int32) (s0 : Int32) : Prop :=
  (v2 = (-6 : Int32) → wpX9_posted_63 post M L s0) ∧ (¬ (v2 = (-6 : Int32)) → wpX9_posted_63 post M L v2)
def wpX9_posted (x1 : Int32) (M : Mm) (L : Ml) (post : Int32 → Mm → Ml → Prop) : Prop :=
  wpX9_in (x1.toInt64) (0 : Int64) (2 : Int64) M L (fun r_6 M_6 L_6 => (¬ r_6 = 0 → wpX9_refusal M_6 L_6 (fun r_16 M_16 L_16 => (¬ x1 = 0 → (¬ x1 = (1 : Int32) → wpX9_riverNow M_16 L_16 (fun r_44 M_44 L_44 => wpX9_bitsOf r_44 M_44 L_44 (fun r_47 M_47 L_47 => wpX9_posted_50 post M_47 L_47 r_16 r_47))) ∧ (x1 = (1 : Int32) → wpX9_posted_50 post M_16 L_16 r_16 (M_16 42 18))) ∧ (x1 = 0 → wpX9_postedNow M_16 L_16 (fun r_25 M_25 L_25 => wpX9_posted_50 post M_25 L_25 r_16 r_25)))) ∧ (r_6 = 0 → post (-2 : Int32) M_6 L_6))
def wpX9_done (M : Mm) (L : Ml) (post : Int32 → Mm → Ml → Prop) : Prop :=
  wpX9_refusal M L (fun r_1 M_1 L_1 => (r_1 = (-6 : Int32) → ∀ M_19 : Mm, M_19 = zs M_1 42 13 (0 : Int32) → (post (M_19 42 16) M_19 L_1)) ∧ (¬ (r_1 = (-6 : Int32)) → wpX9_back r_1 M_1 L_1 (fun r_13 M_13 L_13 => post r_13 M_13 L_13)))
def wpX9_says_84 (post : Int32 → Mm → Ml → Prop) (K17 : Mm → Ml → Int32 → Int32 → Int32 → Int32 → Prop) (M : Mm) (L : Ml) (v1 : Int32) (v2 : Int32) (v4 : Int32) (s0 : Int32) : Prop :=
  ∀ a_85 : Int32, a_85 = v4 + (1 : Int32) → (K17 M L v1 v2 s0 a_85)
def wpX9_says_73 (post : Int32 → Mm → Ml → Prop) (K17 : Mm → Ml → Int32 → Int32 → Int32 → Int32 → Prop) (M : Mm) (L : Ml) (v1 : Int32) (v3 : Int32) (v4 : Int32) (v5 : Int32) (s0 : Int32) : Prop :=
  (v5 = 0 → wpX9_says_84 post K17 M L v1 s0 v4 v3) ∧ (¬ (v5 = 0) → wpX9_says_84 post K17 M L v1 s0 v4 (0 : Int32))
def wpX9_says_56 (post : Int32 → Mm → Ml → Prop) (K17 : Mm → Ml → Int32 → Int32 → Int32 → Int32 → Prop) (M : Mm) (L : Ml) (v1 : Int32) (v2 : Int32) (v3 : Int32) (v4 : Int32) (s0 : Int32) : Prop :=
  (s0 = 0 → wpX9_says_73 post K17 M L v1 v3 v4 s0 v2) ∧ (¬ (s0 = 0) → wpX9_says_73 post K17 M L v1 v3 v4 s0 (((10 : Int32) * v2) + v3))
def wpX9_says_51 (post : Int32 → Mm → Ml → Prop) (K17 : Mm → Ml → Int32 → Int32 → Int32 → Int32 → Prop) (M : Mm) (L : Ml) (v1 : Int32) (v2 : Int32) (v3 : Int32) (v4 : Int32) : Prop :=
  wpX9_says_56 post K17 M L v1 v2 v3 v4 (1 : Int32)
def wpX9_says_17 (post : Int32 → Mm → Ml → Prop) (K17 : Mm → Ml → Int32 → Int32 → Int32 → Int32 → Prop) (M : Mm) (L : Ml) (v1 : Int32) (v2 : Int32) (v3 : Int32) (v4 : Int32) : Prop :=
  ((8 : Int32) ≤ v4 → post v2 M L) ∧ (¬ ((8 : Int32) ≤ v4) → ∀ a_24 : Int32, a_24 = v3 + (1 : Int32) → ((v4 = (7 : Int32) → wpX9_says_51 post K17 M L v1 v2 a_24 v4) ∧ (¬ (v4 = (7 : Int32)) → (((v1 >>> (v4 &&& 31)) &&& (1 : Int32)) = ((v1 >>> ((v4 + (1 : Int32)) &&& 31)) &&& (1 : Int32)) → wpX9_says_56 post K17 M L v1 v2 a_24 v4 (0 : Int32)) ∧ (¬ (((v1 >>> (v4 &&& 31)) &&& (1 : Int32)) = ((v1 >>> ((v4 + (1 : Int32)) &&& 31)) &&& (1 : Int32))) → wpX9_says_51 post K17 M L v1 v2 a_24 v4))))
def wlX9_says_17 (post : Int32 → Mm → Ml → Prop) : Nat → (Mm × Ml × Int32 × Int32 × Int32 × Int32) → Prop := zlp (fun K s => wpX9_says_17 post (fun M L v1 v2 v3 v4 => K (M, L, v1, v2, v3, v4)) s.1 s.2.1 s.2.2.1 s.2.2.2.1 s.2.2.2.2.1 s.2.2.2.2.2)
def wpX9_says (x1 : Int32) (M : Mm) (L : Ml) (post : Int32 → Mm → Ml → Prop) : Prop :=
  wpX9_isArm x1 M L (fun r_1 M_1 L_1 => (¬ r_1 = 0 → ∃ j9 : Nat, wlX9_says_17 post j9 (M_1, L_1, x1, (0 : Int32), (0 : Int32), (0 : Int32))) ∧ (r_1 = 0 → post (-2 : Int32) M_1 L_1))
def wpX9_findWays_24 (post : Mm → Ml → Prop) (K2 : Mm → Ml → Int32 → Int32 → Int32 → Prop) (M : Mm) (L : Ml) (v1 : Int32) (v2 : Int32) (v3 : Int32) (s0 : Int64) (s1 : Int32) : Prop :=
  vp_in s1 2816 ∧ (∀ L_24 : Ml, L_24 = zsl L 57 s1.toNatClampNeg s0 → (∀ a_25 : Int32, a_25 = v3 + (1 : Int32) → (K2 M L_24 v1 v2 a_25)))
def wpX9_findWays_41 (post : Mm → Ml → Prop) (K33 : Mm → Ml → Int32 → Int32 → Prop) (K41 : Mm → Ml → Int32 → Int32 → Int32 → Prop) (M : Mm) (L : Ml) (v2 : Int32) (v3 : Int32) (v4 : Int32) : Prop :=
  ((256 : Int32) ≤ v4 → ∀ a_116 : Int32, a_116 = v3 + (1 : Int32) → (K33 M L v2 a_116)) ∧ (¬ ((256 : Int32) ≤ v4) → ∀ a_56 : Int32, a_56 = (256 : Int32) * (v3 - (1 : Int32)) → (vp_in (0 : Int32) 2 ∧ (wpX9_grown v4 (M 50 (0 : Int32).toNatClampNeg) M L (fun r_84 M_84 L_84 => vp_in (a_56 + r_84) 2816 ∧ (vp_in (1 : Int32) 2 ∧ (wpX9_grown v4 (M_84 50 (1 : Int32).toNatClampNeg) M_84 L_84 (fun r_103 M_103 L_103 => vp_in (a_56 + r_103) 2816 ∧ (vp_in (((256 : Int32) * v3) + v4) 2816 ∧ (∀ L_109 : Ml, L_109 = zsl L_103 57 (((256 : Int32) * v3) + v4).toNatClampNeg ((L_84 57 (a_56 + r_84).toNatClampNeg) + (L_103 57 (a_56 + r_103).toNatClampNeg)) → (∀ a_110 : Int32, a_110 = v4 + (1 : Int32) → (K41 M_103 L_109 v2 v3 a_110)))))))))))
def wlX9_findWays_41 (post : Mm → Ml → Prop) (K33 : Mm → Ml → Int32 → Int32 → Prop) : Nat → (Mm × Ml × Int32 × Int32 × Int32) → Prop := zlp (fun K s => wpX9_findWays_41 post K33 (fun M L v2 v3 v4 => K (M, L, v2, v3, v4)) s.1 s.2.1 s.2.2.1 s.2.2.2.1 s.2.2.2.2)
def wpX9_findWays_33 (post : Mm → Ml → Prop) (K33 : Mm → Ml → Int32 → Int32 → Prop) (M : Mm) (L : Ml) (v2 : Int32) (v3 : Int32) : Prop :=
  (v2 < v3 → post M L) ∧ (¬ (v2 < v3) → ∃ j9 : Nat, wlX9_findWays_41 post K33 j9 (M, L, v2, v3, (0 : Int32)))
def wlX9_findWays_33 (post : Mm → Ml → Prop) : Nat → (Mm × Ml × Int32 × Int32) → Prop := zlp (fun K s => wpX9_findWays_33 post (fun M L v2 v3 => K (M, L, v2, v3)) s.1 s.2.1 s.2.2.1 s.2.2.2)
def wpX9_findWays_2 (post : Mm → Ml → Prop) (K2 : Mm → Ml → Int32 → Int32 → Int32 → Prop) (M : Mm) (L : Ml) (v1 : Int32) (v2 : Int32) (v3 : Int32) : Prop :=
  ((256 : Int32) ≤ v3 → ∃ j9 : Nat, wlX9_findWays_33 post j9 (M, L, v2, (1 : Int32))) ∧ (¬ ((256 : Int32) ≤ v3) → (¬ v3 = v1 → wpX9_findWays_24 post K2 M L v1 v2 v3 (0 : Int64) v3) ∧ (v3 = v1 → wpX9_findWays_24 post K2 M L v1 v2 v3 (1 : Int64) v3))
def wlX9_findWays_2 (post : Mm → Ml → Prop) : Nat → (Mm × Ml × Int32 × Int32 × Int32) → Prop := zlp (fun K s => wpX9_findWays_2 post (fun M L v1 v2 v3 => K (M, L, v1, v2, v3)) s.1 s.2.1 s.2.2.1 s.2.2.2.1 s.2.2.2.2)
def wpX9_findWays (x1 : Int32) (x2 : Int32) (M : Mm) (L : Ml) (post : Mm → Ml → Prop) : Prop :=
  ∃ j9 : Nat, wlX9_findWays_2 post j9 (M, L, x1, x2, (0 : Int32))
def wpX9_firstAirs_93 (post : Int64 → Mm → Ml → Prop) (K8 : Mm → Ml → Int64 → Int32 → Int32 → Prop) (M : Mm) (L : Ml) (v3 : Int64) (v6 : Int32) (s0 : Int32) : Prop :=
  ∀ a_95 : Int32, a_95 = v6 + (-1 : Int32) → (K8 M L v3 s0 a_95)
def wpX9_firstAirs_69 (post : Int64 → Mm → Ml → Prop) (K8 : Mm → Ml → Int64 → Int32 → Int32 → Prop) (M : Mm) (L : Ml) (v5 : Int32) (v6 : Int32) (v7 : Int32) (v8 : Int32) (s0 : Int32) (s1 : Int64) : Prop :=
  ∀ a_71 : Int64, a_71 = s1 + (s0.toInt64) → ((v8 = 0 → vp_in (1 : Int32) 2 ∧ (wpX9_grown v5 (M 50 (1 : Int32).toNatClampNeg) M L (fun r_90 M_90 L_90 => wpX9_firstAirs_93 post K8 M_90 L_90 a_71 v6 r_90))) ∧ (¬ (v8 = 0) → wpX9_firstAirs_93 post K8 M L a_71 v6 v7))
def wpX9_firstAirs_52 (post : Int64 → Mm → Ml → Prop) (K8 : Mm → Ml → Int64 → Int32 → Int32 → Prop) (M : Mm) (L : Ml) (v3 : Int64) (v5 : Int32) (v6 : Int32) (v7 : Int32) (s0 : Int32) : Prop :=
  (s0 = 0 → wpX9_firstAirs_69 post K8 M L v5 v6 v7 s0 (2 : Int32) ((10 : Int64) * v3)) ∧ (¬ (s0 = 0) → wpX9_firstAirs_69 post K8 M L v5 v6 v7 s0 (1 : Int32) ((10 : Int64) * v3))
def wpX9_firstAirs_8 (post : Int64 → Mm → Ml → Prop) (K8 : Mm → Ml → Int64 → Int32 → Int32 → Prop) (M : Mm) (L : Ml) (v3 : Int64) (v5 : Int32) (v6 : Int32) : Prop :=
  (v6 ≤ 0 → post v3 M L) ∧ (¬ (v6 ≤ 0) → vp_in (0 : Int32) 2 ∧ (wpX9_grown v5 (M 50 (0 : Int32).toNatClampNeg) M L (fun r_21 M_21 L_21 => vp_in (((256 : Int32) * (v6 - (1 : Int32))) + r_21) 2816 ∧ (((lg_cmp (L_21 57 (((256 : Int32) * (v6 - (1 : Int32))) + r_21).toNatClampNeg) (0 : Int64)) ≤ 0 → wpX9_firstAirs_52 post K8 M_21 L_21 v3 v5 v6 r_21 (0 : Int32)) ∧ (¬ ((lg_cmp (L_21 57 (((256 : Int32) * (v6 - (1 : Int32))) + r_21).toNatClampNeg) (0 : Int64)) ≤ 0) → wpX9_firstAirs_52 post K8 M_21 L_21 v3 v5 v6 r_21 (1 : Int32))))))
def wlX9_firstAirs_8 (post : Int64 → Mm → Ml → Prop) : Nat → (Mm × Ml × Int64 × Int32 × Int32) → Prop := zlp (fun K s => wpX9_firstAirs_8 post (fun M L v3 v5 v6 => K (M, L, v3, v5, v6)) s.1 s.2.1 s.2.2.1 s.2.2.2.1 s.2.2.2.2)
def wpX9_firstAirs (x1 : Int32) (x2 : Int32) (M : Mm) (L : Ml) (post : Int64 → Mm → Ml → Prop) : Prop :=
  ∃ j9 : Nat, wlX9_firstAirs_8 post j9 (M, L, (0 : Int64), x1, x2)
def wpX9_grew_37 (post : Int64 → Mm → Ml → Prop) (M : Mm) (L : Ml) : Prop :=
  post (-2 : Int64) M L
def wpX9_grew_90 (post : Int64 → Mm → Ml → Prop) (M : Mm) (L : Ml) (s0 : Int64) : Prop :=
  post s0 M L
def wpX9_grew (x1 : Int32) (x2 : Int32) (x3 : Int32) (x4 : Int32) (M : Mm) (L : Ml) (post : Int64 → Mm → Ml → Prop) : Prop :=
  wpX9_isArm x1 M L (fun r_1 M_1 L_1 => (r_1 = 0 → wpX9_grew_37 post M_1 L_1) ∧ (¬ (r_1 = 0) → wpX9_isArm x2 M_1 L_1 (fun r_8 M_8 L_8 => (r_8 = 0 → wpX9_grew_37 post M_8 L_8) ∧ (¬ (r_8 = 0) → wpX9_in (x3.toInt64) (0 : Int64) (10 : Int64) M_8 L_8 (fun r_20 M_20 L_20 => (r_20 = 0 → wpX9_grew_37 post M_20 L_20) ∧ (¬ (r_20 = 0) → wpX9_in (x4.toInt64) (0 : Int64) (1 : Int64) M_20 L_20 (fun r_31 M_31 L_31 => (¬ r_31 = 0 → wpX9_findWays x2 x3 M_31 L_31 (fun M_44 L_44 => vp_in (((256 : Int32) * x3) + x1) 2816 ∧ (∀ a_59 : Int64, a_59 = L_44 57 (((256 : Int32) * x3) + x1).toNatClampNeg → ((¬ x4 = 0 → (¬ (lg_cmp a_59 (0 : Int64)) = 0 → wpX9_firstAirs x1 x3 M_44 L_44 (fun r_87 M_87 L_87 => wpX9_grew_90 post M_87 L_87 r_87)) ∧ ((lg_cmp a_59 (0 : Int64)) = 0 → wpX9_grew_90 post M_44 L_44 (-6 : Int64))) ∧ (x4 = 0 → wpX9_grew_90 post M_44 L_44 a_59))))) ∧ (r_31 = 0 → wpX9_grew_37 post M_31 L_31))))))))
def wpX9_findOff_102 (post : Int32 → Mm → Ml → Prop) (K4 : Mm → Ml → Int32 → Int32 → Int32 → Prop) (M : Mm) (L : Ml) (v1 : Int32) (v3 : Int32) (s0 : Int32) : Prop :=
  ∀ a_103 : Int32, a_103 = v3 + (1 : Int32) → (K4 M L v1 s0 a_103)
def wpX9_findOff_97 (post : Int32 → Mm → Ml → Prop) (K4 : Mm → Ml → Int32 → Int32 → Int32 → Prop) (M : Mm) (L : Ml) (v1 : Int32) (v3 : Int32) : Prop :=
  wpX9_findOff_102 post K4 M L v1 v3 (1 : Int32)
def wpX9_findOff_87 (post : Int32 → Mm → Ml → Prop) (K4 : Mm → Ml → Int32 → Int32 → Int32 → Prop) (M : Mm) (L : Ml) (v1 : Int32) (v2 : Int32) (v3 : Int32) (v4 : Int32) (s0 : Int32) (s1 : Int32) : Prop :=
  vp_in s1 256 ∧ (∀ M_87 : Mm, M_87 = zs M 58 s1.toNatClampNeg s0 → ((¬ v2 = 0 → wpX9_findOff_97 post K4 M_87 L v1 v3) ∧ (v2 = 0 → (v4 = 0 → wpX9_findOff_102 post K4 M_87 L v1 v3 (0 : Int32)) ∧ (¬ (v4 = 0) → wpX9_findOff_97 post K4 M_87 L v1 v3))))
def wpX9_findOff_63 (post : Int32 → Mm → Ml → Prop) (K4 : Mm → Ml → Int32 → Int32 → Int32 → Prop) (M : Mm) (L : Ml) (v1 : Int32) (v2 : Int32) (v3 : Int32) (s0 : Int32) : Prop :=
  (s0 = 0 → vp_in v3 256 ∧ (wpX9_findOff_87 post K4 M L v1 v2 v3 s0 (M 58 v3.toNatClampNeg) v3)) ∧ (¬ (s0 = 0) → wpX9_findOff_87 post K4 M L v1 v2 v3 s0 (v1 + (1 : Int32)) v3)
def wpX9_findOff_58 (post : Int32 → Mm → Ml → Prop) (K4 : Mm → Ml → Int32 → Int32 → Int32 → Prop) (M : Mm) (L : Ml) (v1 : Int32) (v2 : Int32) (v3 : Int32) : Prop :=
  wpX9_findOff_63 post K4 M L v1 v2 v3 (1 : Int32)
def wpX9_findOff_62 (post : Int32 → Mm → Ml → Prop) (K4 : Mm → Ml → Int32 → Int32 → Int32 → Prop) (M : Mm) (L : Ml) (v1 : Int32) (v2 : Int32) (v3 : Int32) : Prop :=
  wpX9_findOff_63 post K4 M L v1 v2 v3 (0 : Int32)
def wpX9_findOff_4 (post : Int32 → Mm → Ml → Prop) (K4 : Mm → Ml → Int32 → Int32 → Int32 → Prop) (M : Mm) (L : Ml) (v1 : Int32) (v2 : Int32) (v3 : Int32) : Prop :=
  ((256 : Int32) ≤ v3 → (v2 = 0 ∨ v2 = 1) ∧ post v2 M L) ∧ (¬ ((256 : Int32) ≤ v3) → vp_in v3 256 ∧ ((0 ≤ (M 58 v3.toNatClampNeg) → wpX9_findOff_62 post K4 M L v1 v2 v3) ∧ (¬ (0 ≤ (M 58 v3.toNatClampNeg)) → vp_in (0 : Int32) 2 ∧ (wpX9_grown v3 (M 50 (0 : Int32).toNatClampNeg) M L (fun r_31 M_31 L_31 => vp_in r_31 256 ∧ (((M_31 58 r_31.toNatClampNeg) = v1 → wpX9_findOff_58 post K4 M_31 L_31 v1 v2 v3) ∧ (¬ ((M_31 58 r_31.toNatClampNeg) = v1) → vp_in (1 : Int32) 2 ∧ (wpX9_grown v3 (M_31 50 (1 : Int32).toNatClampNeg) M_31 L_31 (fun r_50 M_50 L_50 => vp_in r_50 256 ∧ ((¬ (M_50 58 r_50.toNatClampNeg) = v1 → wpX9_findOff_62 post K4 M_50 L_50 v1 v2 v3) ∧ ((M_50 58 r_50.toNatClampNeg) = v1 → wpX9_findOff_58 post K4 M_50 L_50 v1 v2 v3)))))))))))
def wlX9_findOff_4 (post : Int32 → Mm → Ml → Prop) : Nat → (Mm × Ml × Int32 × Int32 × Int32) → Prop := zlp (fun K s => wpX9_findOff_4 post (fun M L v1 v2 v3 => K (M, L, v1, v2, v3)) s.1 s.2.1 s.2.2.1 s.2.2.2.1 s.2.2.2.2)
def wpX9_findOff (x1 : Int32) (M : Mm) (L : Ml) (post : Int32 → Mm → Ml → Prop) : Prop :=
  ∃ j9 : Nat, wlX9_findOff_4 post j9 (M, L, x1, (0 : Int32), (0 : Int32))
def wpX9_soon_14 (post : Int32 → Mm → Ml → Prop) (M : Mm) (L : Ml) : Prop :=
  post (-2 : Int32) M L
def wpX9_soon_42 (post : Int32 → Mm → Ml → Prop) (K19 : Mm → Ml → Int32 → Int32 → Int32 → Prop) (M : Mm) (L : Ml) (v1 : Int32) (v2 : Int32) (v3 : Int32) (s0 : Int32) (s1 : Int32) : Prop :=
  vp_in s1 256 ∧ (∀ M_42 : Mm, M_42 = zs M 58 s1.toNatClampNeg s0 → (∀ a_43 : Int32, a_43 = v3 + (1 : Int32) → (K19 M_42 L v1 v2 a_43)))
def wpX9_soon_51 (post : Int32 → Mm → Ml → Prop) (K51 : Mm → Ml → Int32 → Int32 → Prop) (M : Mm) (L : Ml) (v1 : Int32) (v3 : Int32) : Prop :=
  wpX9_findOff v3 M L (fun r_53 M_53 L_53 => (r_53 = 0 → vp_in v1 256 ∧ (post (M_53 58 v1.toNatClampNeg) M_53 L_53)) ∧ (¬ (r_53 = 0) → ∀ a_59 : Int32, a_59 = v3 + (1 : Int32) → (K51 M_53 L_53 v1 a_59)))
def wlX9_soon_51 (post : Int32 → Mm → Ml → Prop) : Nat → (Mm × Ml × Int32 × Int32) → Prop := zlp (fun K s => wpX9_soon_51 post (fun M L v1 v3 => K (M, L, v1, v3)) s.1 s.2.1 s.2.2.1 s.2.2.2)
def wpX9_soon_19 (post : Int32 → Mm → Ml → Prop) (K19 : Mm → Ml → Int32 → Int32 → Int32 → Prop) (M : Mm) (L : Ml) (v1 : Int32) (v2 : Int32) (v3 : Int32) : Prop :=
  ((256 : Int32) ≤ v3 → ∃ j9 : Nat, wlX9_soon_51 post j9 (M, L, v1, (0 : Int32))) ∧ (¬ ((256 : Int32) ≤ v3) → (¬ v3 = v2 → wpX9_soon_42 post K19 M L v1 v2 v3 (-6 : Int32) v3) ∧ (v3 = v2 → wpX9_soon_42 post K19 M L v1 v2 v3 (0 : Int32) v3))
def wlX9_soon_19 (post : Int32 → Mm → Ml → Prop) : Nat → (Mm × Ml × Int32 × Int32 × Int32) → Prop := zlp (fun K s => wpX9_soon_19 post (fun M L v1 v2 v3 => K (M, L, v1, v2, v3)) s.1 s.2.1 s.2.2.1 s.2.2.2.1 s.2.2.2.2)
def wpX9_soon (x1 : Int32) (x2 : Int32) (M : Mm) (L : Ml) (post : Int32 → Mm → Ml → Prop) : Prop :=
  wpX9_isArm x1 M L (fun r_1 M_1 L_1 => (r_1 = 0 → wpX9_soon_14 post M_1 L_1) ∧ (¬ (r_1 = 0) → wpX9_isArm x2 M_1 L_1 (fun r_8 M_8 L_8 => (¬ r_8 = 0 → ∃ j9 : Nat, wlX9_soon_19 post j9 (M_8, L_8, x1, x2, (0 : Int32))) ∧ (r_8 = 0 → wpX9_soon_14 post M_8 L_8))))
def wpX9_canGet_48 (post : Int32 → Mm → Ml → Prop) (M : Mm) (L : Ml) (s0 : Int32) : Prop :=
  (s0 = 0 ∨ s0 = 1) ∧ post s0 M L
def wpX9_canGet_47 (post : Int32 → Mm → Ml → Prop) (M : Mm) (L : Ml) : Prop :=
  wpX9_canGet_48 post M L (0 : Int32)
def wpX9_canGet (x1 : Int32) (x2 : Int32) (M : Mm) (L : Ml) (post : Int32 → Mm → Ml → Prop) : Prop :=
  vp_in x1 6 ∧ (vp_in x2 8 ∧ (∀ a_13 : Int32, a_13 = (M 48 x1.toNatClampNeg) - (M 44 x2.toNatClampNeg) → (wpX9_isAbove x2 M L (fun r_16 M_16 L_16 => (r_16 = 0 → wpX9_canGet_47 post M_16 L_16) ∧ (¬ (r_16 = 0) → vp_in x2 8 ∧ (((M_16 45 x2.toNatClampNeg) < a_13 → wpX9_canGet_47 post M_16 L_16) ∧ (¬ ((M_16 45 x2.toNatClampNeg) < a_13) → vp_in x2 8 ∧ (((M_16 45 x2.toNatClampNeg) < (-a_13) → wpX9_canGet_47 post M_16 L_16) ∧ (¬ ((M_16 45 x2.toNatClampNeg) < (-a_13)) → wpX9_canGet_48 post M_16 L_16 (1 : Int32))))))))))
def wpX9_canGetOwn_46 (post : Int32 → Mm → Ml → Prop) (K4 : Mm → Ml → Int32 → Int32 → Int32 → Prop) (M : Mm) (L : Ml) (v1 : Int32) (v3 : Int32) (s0 : Int32) : Prop :=
  ∀ a_47 : Int32, a_47 = v3 + (1 : Int32) → (K4 M L v1 s0 a_47)
def wpX9_canGetOwn_41 (post : Int32 → Mm → Ml → Prop) (K4 : Mm → Ml → Int32 → Int32 → Int32 → Prop) (M : Mm) (L : Ml) (v1 : Int32) (v3 : Int32) : Prop :=
  wpX9_canGetOwn_46 post K4 M L v1 v3 (1 : Int32)
def wpX9_canGetOwn_45 (post : Int32 → Mm → Ml → Prop) (K4 : Mm → Ml → Int32 → Int32 → Int32 → Prop) (M : Mm) (L : Ml) (v1 : Int32) (v3 : Int32) : Prop :=
  wpX9_canGetOwn_46 post K4 M L v1 v3 (0 : Int32)
def wpX9_canGetOwn_4 (post : Int32 → Mm → Ml → Prop) (K4 : Mm → Ml → Int32 → Int32 → Int32 → Prop) (M : Mm) (L : Ml) (v1 : Int32) (v2 : Int32) (v3 : Int32) : Prop :=
  ((8 : Int32) ≤ v3 → (v2 = 0 ∨ v2 = 1) ∧ post v2 M L) ∧ (¬ ((8 : Int32) ≤ v3) → (¬ v2 = 0 → wpX9_canGetOwn_41 post K4 M L v1 v3) ∧ (v2 = 0 → wpX9_isAbove v3 M L (fun r_16 M_16 L_16 => (r_16 = 0 → wpX9_canGetOwn_45 post K4 M_16 L_16 v1 v3) ∧ (¬ (r_16 = 0) → vp_in v3 8 ∧ ((¬ (M_16 46 v3.toNatClampNeg) = v1 → wpX9_canGetOwn_45 post K4 M_16 L_16 v1 v3) ∧ ((M_16 46 v3.toNatClampNeg) = v1 → wpX9_canGet v1 v3 M_16 L_16 (fun r_35 M_35 L_35 => (r_35 = 0 → wpX9_canGetOwn_45 post K4 M_35 L_35 v1 v3) ∧ (¬ (r_35 = 0) → wpX9_canGetOwn_41 post K4 M_35 L_35 v1 v3))))))))
def wlX9_canGetOwn_4 (post : Int32 → Mm → Ml → Prop) : Nat → (Mm × Ml × Int32 × Int32 × Int32) → Prop := zlp (fun K s => wpX9_canGetOwn_4 post (fun M L v1 v2 v3 => K (M, L, v1, v2, v3)) s.1 s.2.1 s.2.2.1 s.2.2.2.1 s.2.2.2.2)
def wpX9_canGetOwn (x1 : Int32) (M : Mm) (L : Ml) (post : Int32 → Mm → Ml → Prop) : Prop :=
  ∃ j9 : Nat, wlX9_canGetOwn_4 post j9 (M, L, x1, (0 : Int32), (0 : Int32))
def wpX9_addFlake_89 (post : Mm → Ml → Prop) (K3 : Mm → Ml → Int32 → Int32 → Prop) (K17 : Mm → Ml → Int32 → Int32 → Int32 → Int32 → Prop) (M : Mm) (L : Ml) (v1 : Int32) (v2 : Int32) (v4 : Int32) (s0 : Int32) : Prop :=
  ∀ a_90 : Int32, a_90 = v4 + (1 : Int32) → (K17 M L v1 v2 s0 a_90)
def wpX9_addFlake_75 (post : Mm → Ml → Prop) (K3 : Mm → Ml → Int32 → Int32 → Prop) (K17 : Mm → Ml → Int32 → Int32 → Int32 → Int32 → Prop) (M : Mm) (L : Ml) (v1 : Int32) (v2 : Int32) (v3 : Int32) (v4 : Int32) (s0 : Int32) : Prop :=
  (s0 ≤ v3 → wpX9_addFlake_89 post K3 K17 M L v1 v2 v4 v3) ∧ (¬ (s0 ≤ v3) → wpX9_addFlake_89 post K3 K17 M L v1 v2 v4 s0)
def wpX9_addFlake_49 (post : Mm → Ml → Prop) (K3 : Mm → Ml → Int32 → Int32 → Prop) (K17 : Mm → Ml → Int32 → Int32 → Int32 → Int32 → Prop) (M : Mm) (L : Ml) (v1 : Int32) (v2 : Int32) (v3 : Int32) (v4 : Int32) (s0 : Int32) : Prop :=
  (s0 = 0 → wpX9_addFlake_75 post K3 K17 M L v1 v2 v3 v4 (0 : Int32)) ∧ (¬ (s0 = 0) → vp_in (v2 &&& (((1 : Int32) <<< (v4 &&& 31)) ^^^ (-1 : Int32))) 64 ∧ (wpX9_addFlake_75 post K3 K17 M L v1 v2 v3 v4 ((M 59 (v2 &&& (((1 : Int32) <<< (v4 &&& 31)) ^^^ (-1 : Int32))).toNatClampNeg) + (1 : Int32))))
def wpX9_addFlake_48 (post : Mm → Ml → Prop) (K3 : Mm → Ml → Int32 → Int32 → Prop) (K17 : Mm → Ml → Int32 → Int32 → Int32 → Int32 → Prop) (M : Mm) (L : Ml) (v1 : Int32) (v2 : Int32) (v3 : Int32) (v4 : Int32) : Prop :=
  wpX9_addFlake_49 post K3 K17 M L v1 v2 v3 v4 (0 : Int32)
def wpX9_addFlake_17 (post : Mm → Ml → Prop) (K3 : Mm → Ml → Int32 → Int32 → Prop) (K17 : Mm → Ml → Int32 → Int32 → Int32 → Int32 → Prop) (M : Mm) (L : Ml) (v1 : Int32) (v2 : Int32) (v3 : Int32) (v4 : Int32) : Prop :=
  ((6 : Int32) ≤ v4 → vp_in v2 64 ∧ (∀ M_102 : Mm, M_102 = zs M 59 v2.toNatClampNeg v3 → (∀ a_103 : Int32, a_103 = v2 + (-1 : Int32) → (K3 M_102 L v1 a_103)))) ∧ (¬ ((6 : Int32) ≤ v4) → (¬ ((v2 >>> (v4 &&& 31)) &&& (1 : Int32)) = (1 : Int32) → wpX9_addFlake_48 post K3 K17 M L v1 v2 v3 v4) ∧ (((v2 >>> (v4 &&& 31)) &&& (1 : Int32)) = (1 : Int32) → wpX9_canGet v4 v1 M L (fun r_38 M_38 L_38 => (r_38 = 0 → wpX9_addFlake_48 post K3 K17 M_38 L_38 v1 v2 v3 v4) ∧ (¬ (r_38 = 0) → wpX9_addFlake_49 post K3 K17 M_38 L_38 v1 v2 v3 v4 (1 : Int32)))))
def wlX9_addFlake_17 (post : Mm → Ml → Prop) (K3 : Mm → Ml → Int32 → Int32 → Prop) : Nat → (Mm × Ml × Int32 × Int32 × Int32 × Int32) → Prop := zlp (fun K s => wpX9_addFlake_17 post K3 (fun M L v1 v2 v3 v4 => K (M, L, v1, v2, v3, v4)) s.1 s.2.1 s.2.2.1 s.2.2.2.1 s.2.2.2.2.1 s.2.2.2.2.2)
def wpX9_addFlake_3 (post : Mm → Ml → Prop) (K3 : Mm → Ml → Int32 → Int32 → Prop) (M : Mm) (L : Ml) (v1 : Int32) (v2 : Int32) : Prop :=
  (v2 ≤ 0 → post M L) ∧ (¬ (v2 ≤ 0) → vp_in v2 64 ∧ (∀ a_13 : Int32, a_13 = M 59 v2.toNatClampNeg → (∃ j9 : Nat, wlX9_addFlake_17 post K3 j9 (M, L, v1, v2, a_13, (0 : Int32)))))
def wlX9_addFlake_3 (post : Mm → Ml → Prop) : Nat → (Mm × Ml × Int32 × Int32) → Prop := zlp (fun K s => wpX9_addFlake_3 post (fun M L v1 v2 => K (M, L, v1, v2)) s.1 s.2.1 s.2.2.1 s.2.2.2)
def wpX9_addFlake (x1 : Int32) (M : Mm) (L : Ml) (post : Mm → Ml → Prop) : Prop :=
  ∃ j9 : Nat, wlX9_addFlake_3 post j9 (M, L, x1, (63 : Int32))
def wpX9_most_41 (post : Int32 → Mm → Ml → Prop) (K21 : Mm → Ml → Int32 → Int32 → Prop) (M : Mm) (L : Ml) (v3 : Int32) (s0 : Int32) (s1 : Int32) : Prop :=
  ∀ a_42 : Int32, a_42 = s1 + s0 → (∀ a_43 : Int32, a_43 = v3 + (1 : Int32) → (K21 M L a_42 a_43))
def wpX9_most_21 (post : Int32 → Mm → Ml → Prop) (K21 : Mm → Ml → Int32 → Int32 → Prop) (M : Mm) (L : Ml) (v2 : Int32) (v3 : Int32) : Prop :=
  ((6 : Int32) ≤ v3 → post v2 M L) ∧ (¬ ((6 : Int32) ≤ v3) → wpX9_canGetOwn v3 M L (fun r_30 M_30 L_30 => (r_30 = 0 → wpX9_most_41 post K21 M_30 L_30 v3 (0 : Int32) v2) ∧ (¬ (r_30 = 0) → wpX9_most_41 post K21 M_30 L_30 v3 (1 : Int32) v2)))
def wlX9_most_21 (post : Int32 → Mm → Ml → Prop) : Nat → (Mm × Ml × Int32 × Int32) → Prop := zlp (fun K s => wpX9_most_21 post (fun M L v2 v3 => K (M, L, v2, v3)) s.1 s.2.1 s.2.2.1 s.2.2.2)
def wpX9_most_93 (post : Int32 → Mm → Ml → Prop) (K74 : Mm → Ml → Int32 → Prop) (M : Mm) (L : Ml) (v2 : Int32) : Prop :=
  ∀ a_93 : Int32, a_93 = v2 + (1 : Int32) → (K74 M L a_93)
def wpX9_most_74 (post : Int32 → Mm → Ml → Prop) (K74 : Mm → Ml → Int32 → Prop) (M : Mm) (L : Ml) (v2 : Int32) : Prop :=
  ((8 : Int32) ≤ v2 → vp_in (63 : Int32) 64 ∧ (post (M 59 (63 : Int32).toNatClampNeg) M L)) ∧ (¬ ((8 : Int32) ≤ v2) → wpX9_isAbove v2 M L (fun r_82 M_82 L_82 => (r_82 = 0 → wpX9_most_93 post K74 M_82 L_82 v2) ∧ (¬ (r_82 = 0) → wpX9_addFlake v2 M_82 L_82 (fun M_90 L_90 => wpX9_most_93 post K74 M_90 L_90 v2))))
def wlX9_most_74 (post : Int32 → Mm → Ml → Prop) : Nat → (Mm × Ml × Int32) → Prop := zlp (fun K s => wpX9_most_74 post (fun M L v2 => K (M, L, v2)) s.1 s.2.1 s.2.2)
def wpX9_most_53 (post : Int32 → Mm → Ml → Prop) (K53 : Mm → Ml → Int32 → Prop) (M : Mm) (L : Ml) (v2 : Int32) : Prop :=
  ((64 : Int32) ≤ v2 → ∃ j9 : Nat, wlX9_most_74 post j9 (M, L, (0 : Int32))) ∧ (¬ ((64 : Int32) ≤ v2) → vp_in v2 64 ∧ (∀ M_65 : Mm, M_65 = zs M 59 v2.toNatClampNeg (0 : Int32) → (∀ a_66 : Int32, a_66 = v2 + (1 : Int32) → (K53 M_65 L a_66))))
def wlX9_most_53 (post : Int32 → Mm → Ml → Prop) : Nat → (Mm × Ml × Int32) → Prop := zlp (fun K s => wpX9_most_53 post (fun M L v2 => K (M, L, v2)) s.1 s.2.1 s.2.2)
def wpX9_most (x1 : Int32) (M : Mm) (L : Ml) (post : Int32 → Mm → Ml → Prop) : Prop :=
  wpX9_in (x1.toInt64) (0 : Int64) (1 : Int64) M L (fun r_4 M_4 L_4 => (¬ r_4 = 0 → (¬ x1 = 0 → ∃ j9 : Nat, wlX9_most_53 post j9 (M_4, L_4, (0 : Int32))) ∧ (x1 = 0 → ∃ j9 : Nat, wlX9_most_21 post j9 (M_4, L_4, (0 : Int32), (0 : Int32)))) ∧ (r_4 = 0 → post (-2 : Int32) M_4 L_4))
def wpX9_isFree_29 (post : Int32 → Mm → Ml → Prop) (K4 : Mm → Ml → Int32 → Int32 → Int32 → Prop) (M : Mm) (L : Ml) (v1 : Int32) (v3 : Int32) (s0 : Int32) : Prop :=
  ∀ a_30 : Int32, a_30 = v3 + (1 : Int32) → (K4 M L v1 s0 a_30)
def wpX9_isFree_28 (post : Int32 → Mm → Ml → Prop) (K4 : Mm → Ml → Int32 → Int32 → Int32 → Prop) (M : Mm) (L : Ml) (v1 : Int32) (v3 : Int32) : Prop :=
  wpX9_isFree_29 post K4 M L v1 v3 (0 : Int32)
def wpX9_isFree_101 (post : Int32 → Mm → Ml → Prop) (K38 : Mm → Ml → Int32 → Int32 → Int32 → Prop) (M : Mm) (L : Ml) (v1 : Int32) (v3 : Int32) (s0 : Int32) : Prop :=
  ∀ a_102 : Int32, a_102 = v3 + (1 : Int32) → (K38 M L v1 s0 a_102)
def wpX9_isFree_96 (post : Int32 → Mm → Ml → Prop) (K38 : Mm → Ml → Int32 → Int32 → Int32 → Prop) (M : Mm) (L : Ml) (v1 : Int32) (v3 : Int32) : Prop :=
  wpX9_isFree_101 post K38 M L v1 v3 (1 : Int32)
def wpX9_isFree_100 (post : Int32 → Mm → Ml → Prop) (K38 : Mm → Ml → Int32 → Int32 → Int32 → Prop) (M : Mm) (L : Ml) (v1 : Int32) (v3 : Int32) : Prop :=
  wpX9_isFree_101 post K38 M L v1 v3 (0 : Int32)
def wpX9_isFree_75 (post : Int32 → Mm → Ml → Prop) (K38 : Mm → Ml → Int32 → Int32 → Int32 → Prop) (M : Mm) (L : Ml) (v1 : Int32) (v2 : Int32) (v3 : Int32) (s0 : Int32) : Prop :=
  (v2 = 0 → wpX9_isFree_100 post K38 M L v1 v3) ∧ (¬ (v2 = 0) → (s0 = 0 → wpX9_isFree_96 post K38 M L v1 v3) ∧ (¬ (s0 = 0) → vp_in v3 8 ∧ (((M 44 v3.toNatClampNeg) = v1 → wpX9_isFree_100 post K38 M L v1 v3) ∧ (¬ ((M 44 v3.toNatClampNeg) = v1) → wpX9_isFree_96 post K38 M L v1 v3))))
def wpX9_isFree_74 (post : Int32 → Mm → Ml → Prop) (K38 : Mm → Ml → Int32 → Int32 → Int32 → Prop) (M : Mm) (L : Ml) (v1 : Int32) (v2 : Int32) (v3 : Int32) : Prop :=
  wpX9_isFree_75 post K38 M L v1 v2 v3 (0 : Int32)
def wpX9_isFree_38 (post : Int32 → Mm → Ml → Prop) (K38 : Mm → Ml → Int32 → Int32 → Int32 → Prop) (M : Mm) (L : Ml) (v1 : Int32) (v2 : Int32) (v3 : Int32) : Prop :=
  ((8 : Int32) ≤ v3 → (v2 = 0 ∨ v2 = 1) ∧ post v2 M L) ∧ (¬ ((8 : Int32) ≤ v3) → wpX9_isFlake v3 M L (fun r_46 M_46 L_46 => (r_46 = 0 → wpX9_isFree_74 post K38 M_46 L_46 v1 v2 v3) ∧ (¬ (r_46 = 0) → vp_in v3 8 ∧ ((¬ (M_46 45 v3.toNatClampNeg) = 0 → wpX9_isFree_74 post K38 M_46 L_46 v1 v2 v3) ∧ ((M_46 45 v3.toNatClampNeg) = 0 → vp_in v3 8 ∧ ((0 ≤ (M_46 47 v3.toNatClampNeg) → wpX9_isFree_74 post K38 M_46 L_46 v1 v2 v3) ∧ (¬ (0 ≤ (M_46 47 v3.toNatClampNeg)) → wpX9_isFree_75 post K38 M_46 L_46 v1 v2 v3 (1 : Int32))))))))
def wlX9_isFree_38 (post : Int32 → Mm → Ml → Prop) : Nat → (Mm × Ml × Int32 × Int32 × Int32) → Prop := zlp (fun K s => wpX9_isFree_38 post (fun M L v1 v2 v3 => K (M, L, v1, v2, v3)) s.1 s.2.1 s.2.2.1 s.2.2.2.1 s.2.2.2.2)
def wpX9_isFree_4 (post : Int32 → Mm → Ml → Prop) (K4 : Mm → Ml → Int32 → Int32 → Int32 → Prop) (M : Mm) (L : Ml) (v1 : Int32) (v2 : Int32) (v3 : Int32) : Prop :=
  ((6 : Int32) ≤ v3 → ∃ j9 : Nat, wlX9_isFree_38 post j9 (M, L, v1, v2, (0 : Int32))) ∧ (¬ ((6 : Int32) ≤ v3) → (v2 = 0 → wpX9_isFree_28 post K4 M L v1 v3) ∧ (¬ (v2 = 0) → vp_in v3 6 ∧ (((M 48 v3.toNatClampNeg) = v1 → wpX9_isFree_28 post K4 M L v1 v3) ∧ (¬ ((M 48 v3.toNatClampNeg) = v1) → wpX9_isFree_29 post K4 M L v1 v3 (1 : Int32)))))
def wlX9_isFree_4 (post : Int32 → Mm → Ml → Prop) : Nat → (Mm × Ml × Int32 × Int32 × Int32) → Prop := zlp (fun K s => wpX9_isFree_4 post (fun M L v1 v2 v3 => K (M, L, v1, v2, v3)) s.1 s.2.1 s.2.2.1 s.2.2.2.1 s.2.2.2.2)
def wpX9_isFree (x1 : Int32) (M : Mm) (L : Ml) (post : Int32 → Mm → Ml → Prop) : Prop :=
  ∃ j9 : Nat, wlX9_isFree_4 post j9 (M, L, x1, (1 : Int32), (0 : Int32))
def wpX9_patch_80 (post : Int32 → Mm → Ml → Prop) (K24 : Mm → Ml → Int32 → Int32 → Int32 → Int32 → Int32 → Prop) (M : Mm) (L : Ml) (v1 : Int32) (v3 : Int32) (v4 : Int32) (v5 : Int32) (s0 : Int32) : Prop :=
  ∀ a_81 : Int32, a_81 = v5 + (1 : Int32) → (K24 M L v1 s0 v3 v4 a_81)
def wpX9_patch_67 (post : Int32 → Mm → Ml → Prop) (K24 : Mm → Ml → Int32 → Int32 → Int32 → Int32 → Int32 → Prop) (M : Mm) (L : Ml) (v1 : Int32) (v2 : Int32) (v4 : Int32) (v5 : Int32) (s0 : Int32) : Prop :=
  (v4 ≤ v2 → wpX9_patch_80 post K24 M L v1 s0 v4 v5 v2) ∧ (¬ (v4 ≤ v2) → wpX9_patch_80 post K24 M L v1 s0 v4 v5 v4)
def wpX9_patch_48 (post : Int32 → Mm → Ml → Prop) (K24 : Mm → Ml → Int32 → Int32 → Int32 → Int32 → Int32 → Prop) (M : Mm) (L : Ml) (v1 : Int32) (v2 : Int32) (v3 : Int32) (v5 : Int32) (s0 : Int32) : Prop :=
  (s0 ≤ v2 → wpX9_patch_67 post K24 M L v1 v2 s0 v5 v3) ∧ (¬ (s0 ≤ v2) → wpX9_patch_67 post K24 M L v1 v2 s0 v5 ((v5 - s0) + (1 : Int32)))
def wpX9_patch_96 (post : Int32 → Mm → Ml → Prop) (M : Mm) (L : Ml) (s0 : Int32) : Prop :=
  post s0 M L
def wpX9_patch_24 (post : Int32 → Mm → Ml → Prop) (K24 : Mm → Ml → Int32 → Int32 → Int32 → Int32 → Int32 → Prop) (M : Mm) (L : Ml) (v1 : Int32) (v2 : Int32) (v3 : Int32) (v4 : Int32) (v5 : Int32) : Prop :=
  ((16 : Int32) ≤ v5 → (¬ v1 = 0 → wpX9_patch_96 post M L v3) ∧ (v1 = 0 → wpX9_patch_96 post M L v2)) ∧ (¬ ((16 : Int32) ≤ v5) → wpX9_isFree v5 M L (fun r_34 M_34 L_34 => (r_34 = 0 → wpX9_patch_48 post K24 M_34 L_34 v1 v2 v3 v5 (0 : Int32)) ∧ (¬ (r_34 = 0) → wpX9_patch_48 post K24 M_34 L_34 v1 v2 v3 v5 (v4 + (1 : Int32)))))
def wlX9_patch_24 (post : Int32 → Mm → Ml → Prop) : Nat → (Mm × Ml × Int32 × Int32 × Int32 × Int32 × Int32) → Prop := zlp (fun K s => wpX9_patch_24 post (fun M L v1 v2 v3 v4 v5 => K (M, L, v1, v2, v3, v4, v5)) s.1 s.2.1 s.2.2.1 s.2.2.2.1 s.2.2.2.2.1 s.2.2.2.2.2.1 s.2.2.2.2.2.2)
def wpX9_patch (x1 : Int32) (M : Mm) (L : Ml) (post : Int32 → Mm → Ml → Prop) : Prop :=
  wpX9_in (x1.toInt64) (0 : Int64) (1 : Int64) M L (fun r_4 M_4 L_4 => (¬ r_4 = 0 → ∃ j9 : Nat, wlX9_patch_24 post j9 (M_4, L_4, x1, (0 : Int32), (-6 : Int32), (0 : Int32), (0 : Int32))) ∧ (r_4 = 0 → post (-2 : Int32) M_4 L_4))
def wpX9_seen_14 (post : Int32 → Mm → Ml → Prop) (M : Mm) (L : Ml) : Prop :=
  post (-2 : Int32) M L
def wpX9_seen (x1 : Int32) (x2 : Int32) (M : Mm) (L : Ml) (post : Int32 → Mm → Ml → Prop) : Prop :=
  wpX9_isArm x1 M L (fun r_1 M_1 L_1 => (r_1 = 0 → wpX9_seen_14 post M_1 L_1) ∧ (¬ (r_1 = 0) → wpX9_isArm x2 M_1 L_1 (fun r_8 M_8 L_8 => (¬ r_8 = 0 → (¬ (M_8 42 11) = (8 : Int32) → vp_in (M_8 42 11) 8 ∧ (∀ M_38 : Mm, M_38 = zs M_8 51 (M_8 42 11).toNatClampNeg x1 → (vp_in (M_38 42 11) 8 ∧ (∀ M_48 : Mm, M_48 = zs M_38 52 (M_38 42 11).toNatClampNeg x2 → (∀ M_56 : Mm, M_56 = zs M_48 42 11 ((M_48 42 11) + (1 : Int32)) → (post (M_56 42 11) M_56 L_8)))))) ∧ ((M_8 42 11) = (8 : Int32) → post (-4 : Int32) M_8 L_8)) ∧ (r_8 = 0 → wpX9_seen_14 post M_8 L_8))))
def wpX9_forget (M : Mm) (L : Ml) (post : Int32 → Mm → Ml → Prop) : Prop :=
  ∀ a_4 : Int32, a_4 = M 42 11 → (∀ M_7 : Mm, M_7 = zs M 42 11 (0 : Int32) → (post a_4 M_7 L))
def wpX9_fits_40 (post : Int32 → Mm → Ml → Prop) (K4 : Mm → Ml → Int32 → Int32 → Int32 → Prop) (M : Mm) (L : Ml) (v1 : Int32) (v3 : Int32) (s0 : Int32) : Prop :=
  ∀ a_41 : Int32, a_41 = v3 + (1 : Int32) → (K4 M L v1 s0 a_41)
def wpX9_fits_39 (post : Int32 → Mm → Ml → Prop) (K4 : Mm → Ml → Int32 → Int32 → Int32 → Prop) (M : Mm) (L : Ml) (v1 : Int32) (v3 : Int32) : Prop :=
  wpX9_fits_40 post K4 M L v1 v3 (0 : Int32)
def wpX9_fits_4 (post : Int32 → Mm → Ml → Prop) (K4 : Mm → Ml → Int32 → Int32 → Int32 → Prop) (M : Mm) (L : Ml) (v1 : Int32) (v2 : Int32) (v3 : Int32) : Prop :=
  ((M 42 11) ≤ v3 → (v2 = 0 ∨ v2 = 1) ∧ post v2 M L) ∧ (¬ ((M 42 11) ≤ v3) → (v2 = 0 → wpX9_fits_39 post K4 M L v1 v3) ∧ (¬ (v2 = 0) → vp_in v3 8 ∧ (wpX9_grown (M 51 v3.toNatClampNeg) v1 M L (fun r_23 M_23 L_23 => vp_in v3 8 ∧ ((¬ r_23 = (M_23 52 v3.toNatClampNeg) → wpX9_fits_39 post K4 M_23 L_23 v1 v3) ∧ (r_23 = (M_23 52 v3.toNatClampNeg) → wpX9_fits_40 post K4 M_23 L_23 v1 v3 (1 : Int32)))))))
def wlX9_fits_4 (post : Int32 → Mm → Ml → Prop) : Nat → (Mm × Ml × Int32 × Int32 × Int32) → Prop := zlp (fun K s => wpX9_fits_4 post (fun M L v1 v2 v3 => K (M, L, v1, v2, v3)) s.1 s.2.1 s.2.2.1 s.2.2.2.1 s.2.2.2.2)
def wpX9_fits (x1 : Int32) (M : Mm) (L : Ml) (post : Int32 → Mm → Ml → Prop) : Prop :=
  ∃ j9 : Nat, wlX9_fits_4 post j9 (M, L, x1, (1 : Int32), (0 : Int32))
def wpX9_laws_29 (post : Int32 → Mm → Ml → Prop) (K4 : Mm → Ml → Int32 → Int32 → Int32 → Prop) (M : Mm) (L : Ml) (v1 : Int32) (v2 : Int32) (v3 : Int32) : Prop :=
  ∀ a_29 : Int32, a_29 = v3 + (1 : Int32) → (K4 M L v1 v2 a_29)
def wpX9_laws_46 (post : Int32 → Mm → Ml → Prop) (M : Mm) (L : Ml) (s0 : Int32) : Prop :=
  post s0 M L
def wpX9_laws_4 (post : Int32 → Mm → Ml → Prop) (K4 : Mm → Ml → Int32 → Int32 → Int32 → Prop) (M : Mm) (L : Ml) (v1 : Int32) (v2 : Int32) (v3 : Int32) : Prop :=
  ((256 : Int32) ≤ v3 → (¬ v1 = (-1 : Int32) → wpX9_laws_46 post M L (-6 : Int32)) ∧ (v1 = (-1 : Int32) → wpX9_laws_46 post M L v2)) ∧ (¬ ((256 : Int32) ≤ v3) → wpX9_fits v3 M L (fun r_13 M_13 L_13 => (r_13 = 0 → wpX9_laws_29 post K4 M_13 L_13 v1 v2 v3) ∧ (¬ (r_13 = 0) → (¬ v2 = v1 → ∀ a_26 : Int32, a_26 = v2 + (1 : Int32) → (wpX9_laws_29 post K4 M_13 L_13 v1 a_26 v3)) ∧ (v2 = v1 → post v3 M_13 L_13))))
def wlX9_laws_4 (post : Int32 → Mm → Ml → Prop) : Nat → (Mm × Ml × Int32 × Int32 × Int32) → Prop := zlp (fun K s => wpX9_laws_4 post (fun M L v1 v2 v3 => K (M, L, v1, v2, v3)) s.1 s.2.1 s.2.2.1 s.2.2.2.1 s.2.2.2.2)
def wpX9_laws (x1 : Int32) (M : Mm) (L : Ml) (post : Int32 → Mm → Ml → Prop) : Prop :=
  ∃ j9 : Nat, wlX9_laws_4 post j9 (M, L, x1, (0 : Int32), (0 : Int32))
def wpX9_mostLeft_83 (post : Int32 → Mm → Ml → Prop) (K26 : Mm → Ml → Int32 → Int32 → Int32 → Prop) (M : Mm) (L : Ml) (v1 : Int32) (v2 : Int32) (v3 : Int32) : Prop :=
  ∀ a_83 : Int32, a_83 = v3 + (1 : Int32) → (K26 M L v1 v2 a_83)
def wpX9_mostLeft_82 (post : Int32 → Mm → Ml → Prop) (K26 : Mm → Ml → Int32 → Int32 → Int32 → Prop) (M : Mm) (L : Ml) (v1 : Int32) (v3 : Int32) (s0 : Int32) : Prop :=
  wpX9_mostLeft_83 post K26 M L v1 s0 v3
def wpX9_mostLeft_26 (post : Int32 → Mm → Ml → Prop) (K26 : Mm → Ml → Int32 → Int32 → Int32 → Prop) (M : Mm) (L : Ml) (v1 : Int32) (v2 : Int32) (v3 : Int32) : Prop :=
  ((256 : Int32) ≤ v3 → post v2 M L) ∧ (¬ ((256 : Int32) ≤ v3) → vp_in v3 256 ∧ (((M 61 v3.toNatClampNeg) = 0 → wpX9_mostLeft_83 post K26 M L v1 v2 v3) ∧ (¬ ((M 61 v3.toNatClampNeg) = 0) → wpX9_grown v1 v3 M L (fun r_44 M_44 L_44 => vp_in r_44 256 ∧ (vp_in r_44 256 ∧ (∀ M_59 : Mm, M_59 = zs M_44 60 r_44.toNatClampNeg ((M_44 60 r_44.toNatClampNeg) + (1 : Int32)) → (vp_in r_44 256 ∧ (((M_59 60 r_44.toNatClampNeg) ≤ v2 → wpX9_mostLeft_82 post K26 M_59 L_44 v1 v3 v2) ∧ (¬ ((M_59 60 r_44.toNatClampNeg) ≤ v2) → vp_in r_44 256 ∧ (wpX9_mostLeft_82 post K26 M_59 L_44 v1 v3 (M_59 60 r_44.toNatClampNeg)))))))))))
def wlX9_mostLeft_26 (post : Int32 → Mm → Ml → Prop) : Nat → (Mm × Ml × Int32 × Int32 × Int32) → Prop := zlp (fun K s => wpX9_mostLeft_26 post (fun M L v1 v2 v3 => K (M, L, v1, v2, v3)) s.1 s.2.1 s.2.2.1 s.2.2.2.1 s.2.2.2.2)
def wpX9_mostLeft_4 (post : Int32 → Mm → Ml → Prop) (K4 : Mm → Ml → Int32 → Int32 → Int32 → Prop) (M : Mm) (L : Ml) (v1 : Int32) (v2 : Int32) (v3 : Int32) : Prop :=
  ((256 : Int32) ≤ v3 → ∃ j9 : Nat, wlX9_mostLeft_26 post j9 (M, L, v1, v2, (0 : Int32))) ∧ (¬ ((256 : Int32) ≤ v3) → vp_in v3 256 ∧ (∀ M_17 : Mm, M_17 = zs M 60 v3.toNatClampNeg (0 : Int32) → (∀ a_18 : Int32, a_18 = v3 + (1 : Int32) → (K4 M_17 L v1 v2 a_18))))
def wlX9_mostLeft_4 (post : Int32 → Mm → Ml → Prop) : Nat → (Mm × Ml × Int32 × Int32 × Int32) → Prop := zlp (fun K s => wpX9_mostLeft_4 post (fun M L v1 v2 v3 => K (M, L, v1, v2, v3)) s.1 s.2.1 s.2.2.1 s.2.2.2.1 s.2.2.2.2)
def wpX9_mostLeft (x1 : Int32) (M : Mm) (L : Ml) (post : Int32 → Mm → Ml → Prop) : Prop :=
  ∃ j9 : Nat, wlX9_mostLeft_4 post j9 (M, L, x1, (0 : Int32), (0 : Int32))
def wpX9_look_91 (post : Int32 → Mm → Ml → Prop) (K50 : Mm → Ml → Int32 → Int32 → Int32 → Int32 → Prop) (M : Mm) (L : Ml) (v1 : Int32) (v2 : Int32) (v4 : Int32) (s0 : Int32) : Prop :=
  ∀ a_92 : Int32, a_92 = v4 + (1 : Int32) → (K50 M L v1 v2 s0 a_92)
def wpX9_look_78 (post : Int32 → Mm → Ml → Prop) (K50 : Mm → Ml → Int32 → Int32 → Int32 → Int32 → Prop) (M : Mm) (L : Ml) (v1 : Int32) (v3 : Int32) (v4 : Int32) (v5 : Int32) (s0 : Int32) : Prop :=
  (v3 ≤ v5 → wpX9_look_91 post K50 M L v1 s0 v4 v3) ∧ (¬ (v3 ≤ v5) → wpX9_look_91 post K50 M L v1 s0 v4 v5)
def wpX9_look_116 (post : Int32 → Mm → Ml → Prop) (M : Mm) (L : Ml) (s0 : Int32) : Prop :=
  post s0 M L
def wpX9_look_50 (post : Int32 → Mm → Ml → Prop) (K50 : Mm → Ml → Int32 → Int32 → Int32 → Int32 → Prop) (M : Mm) (L : Ml) (v1 : Int32) (v2 : Int32) (v3 : Int32) (v4 : Int32) : Prop :=
  ((256 : Int32) ≤ v4 → (¬ v3 = 0 → (¬ v1 = 0 → wpX9_look_116 post M L v3) ∧ (v1 = 0 → wpX9_look_116 post M L v2)) ∧ (v3 = 0 → wpX9_look_116 post M L (-6 : Int32))) ∧ (¬ ((256 : Int32) ≤ v4) → wpX9_mostLeft v4 M L (fun r_61 M_61 L_61 => (v3 ≤ r_61 → wpX9_look_78 post K50 M_61 L_61 v1 v3 v4 r_61 v2) ∧ (¬ (v3 ≤ r_61) → wpX9_look_78 post K50 M_61 L_61 v1 v3 v4 r_61 v4)))
def wlX9_look_50 (post : Int32 → Mm → Ml → Prop) : Nat → (Mm × Ml × Int32 × Int32 × Int32 × Int32) → Prop := zlp (fun K s => wpX9_look_50 post (fun M L v1 v2 v3 v4 => K (M, L, v1, v2, v3, v4)) s.1 s.2.1 s.2.2.1 s.2.2.2.1 s.2.2.2.2.1 s.2.2.2.2.2)
def wpX9_look_15 (post : Int32 → Mm → Ml → Prop) (K15 : Mm → Ml → Int32 → Int32 → Prop) (M : Mm) (L : Ml) (v1 : Int32) (v2 : Int32) : Prop :=
  ((256 : Int32) ≤ v2 → wpX9_mostLeft (0 : Int32) M L (fun r_43 M_43 L_43 => ∃ j9 : Nat, wlX9_look_50 post j9 (M_43, L_43, v1, (0 : Int32), r_43, (1 : Int32)))) ∧ (¬ ((256 : Int32) ≤ v2) → wpX9_fits v2 M L (fun r_29 M_29 L_29 => vp_in v2 256 ∧ (∀ M_32 : Mm, M_32 = zs M_29 61 v2.toNatClampNeg (vp_nar .boolean r_29) → (∀ a_33 : Int32, a_33 = v2 + (1 : Int32) → (K15 M_32 L_29 v1 a_33)))))
def wlX9_look_15 (post : Int32 → Mm → Ml → Prop) : Nat → (Mm × Ml × Int32 × Int32) → Prop := zlp (fun K s => wpX9_look_15 post (fun M L v1 v2 => K (M, L, v1, v2)) s.1 s.2.1 s.2.2.1 s.2.2.2)
def wpX9_look (x1 : Int32) (M : Mm) (L : Ml) (post : Int32 → Mm → Ml → Prop) : Prop :=
  wpX9_in (x1.toInt64) (0 : Int64) (1 : Int64) M L (fun r_4 M_4 L_4 => (¬ r_4 = 0 → ∃ j9 : Nat, wlX9_look_15 post j9 (M_4, L_4, x1, (0 : Int32))) ∧ (r_4 = 0 → post (-2 : Int32) M_4 L_4))
def wpX9_gust_33 (post : Mm → Ml → Prop) (K2 : Mm → Ml → Int32 → Int32 → Int32 → Prop) (M : Mm) (L : Ml) (v1 : Int32) (v2 : Int32) (v3 : Int32) (s0 : Int64) (s1 : Int32) : Prop :=
  vp_in s1 17 ∧ (∀ L_33 : Ml, L_33 = zsl L 63 s1.toNatClampNeg s0 → (∀ a_34 : Int32, a_34 = v3 + (1 : Int32) → (K2 M L_33 v1 v2 a_34)))
def wpX9_gust_64 (post : Mm → Ml → Prop) (K42 : Mm → Ml → Int32 → Int32 → Int32 → Prop) (M : Mm) (L : Ml) (v1 : Int32) (v2 : Int32) (v3 : Int32) (s0 : Int32) : Prop :=
  vp_in s0 17 ∧ (vp_in v3 17 ∧ (vp_in s0 17 ∧ (∀ L_76 : Ml, L_76 = zsl L 63 s0.toNatClampNeg ((L 63 s0.toNatClampNeg) + ((v1.toInt64) * (L 62 v3.toNatClampNeg))) → (vp_in (v3 + (1 : Int32)) 17 ∧ (vp_in v3 17 ∧ (vp_in (v3 + (1 : Int32)) 17 ∧ (∀ L_96 : Ml, L_96 = zsl L_76 63 (v3 + (1 : Int32)).toNatClampNeg ((L_76 63 (v3 + (1 : Int32)).toNatClampNeg) + ((v2.toInt64) * (L_76 62 v3.toNatClampNeg))) → (vp_in v3 17 ∧ (vp_in v3 17 ∧ (vp_in v3 17 ∧ (∀ L_121 : Ml, L_121 = zsl L_96 63 v3.toNatClampNeg ((L_96 63 v3.toNatClampNeg) + ((((10 : Int64) - (v1.toInt64)) - (v2.toInt64)) * (L_96 62 v3.toNatClampNeg))) → (∀ a_122 : Int32, a_122 = v3 + (1 : Int32) → (K42 M L_121 v1 v2 a_122)))))))))))))
def wpX9_gust_130 (post : Mm → Ml → Prop) (K130 : Mm → Ml → Int32 → Prop) (M : Mm) (L : Ml) (v3 : Int32) : Prop :=
  ((16 : Int32) < v3 → post M L) ∧ (¬ ((16 : Int32) < v3) → vp_in v3 17 ∧ (vp_in v3 17 ∧ (∀ L_147 : Ml, L_147 = zsl L 62 v3.toNatClampNeg (L 63 v3.toNatClampNeg) → (∀ a_148 : Int32, a_148 = v3 + (1 : Int32) → (K130 M L_147 a_148)))))
def wlX9_gust_130 (post : Mm → Ml → Prop) : Nat → (Mm × Ml × Int32) → Prop := zlp (fun K s => wpX9_gust_130 post (fun M L v3 => K (M, L, v3)) s.1 s.2.1 s.2.2)
def wpX9_gust_42 (post : Mm → Ml → Prop) (K42 : Mm → Ml → Int32 → Int32 → Int32 → Prop) (M : Mm) (L : Ml) (v1 : Int32) (v2 : Int32) (v3 : Int32) : Prop :=
  ((16 : Int32) ≤ v3 → ∃ j9 : Nat, wlX9_gust_130 post j9 (M, L, (0 : Int32))) ∧ (¬ ((16 : Int32) ≤ v3) → (¬ v3 = 0 → wpX9_gust_64 post K42 M L v1 v2 v3 (v3 - (1 : Int32))) ∧ (v3 = 0 → wpX9_gust_64 post K42 M L v1 v2 v3 (16 : Int32)))
def wlX9_gust_42 (post : Mm → Ml → Prop) : Nat → (Mm × Ml × Int32 × Int32 × Int32) → Prop := zlp (fun K s => wpX9_gust_42 post (fun M L v1 v2 v3 => K (M, L, v1, v2, v3)) s.1 s.2.1 s.2.2.1 s.2.2.2.1 s.2.2.2.2)
def wpX9_gust_2 (post : Mm → Ml → Prop) (K2 : Mm → Ml → Int32 → Int32 → Int32 → Prop) (M : Mm) (L : Ml) (v1 : Int32) (v2 : Int32) (v3 : Int32) : Prop :=
  ((16 : Int32) < v3 → ∃ j9 : Nat, wlX9_gust_42 post j9 (M, L, v1, v2, (0 : Int32))) ∧ (¬ ((16 : Int32) < v3) → (¬ v3 = (16 : Int32) → wpX9_gust_33 post K2 M L v1 v2 v3 (0 : Int64) v3) ∧ (v3 = (16 : Int32) → vp_in v3 17 ∧ (wpX9_gust_33 post K2 M L v1 v2 v3 ((10 : Int64) * (L 62 v3.toNatClampNeg)) v3)))
def wlX9_gust_2 (post : Mm → Ml → Prop) : Nat → (Mm × Ml × Int32 × Int32 × Int32) → Prop := zlp (fun K s => wpX9_gust_2 post (fun M L v1 v2 v3 => K (M, L, v1, v2, v3)) s.1 s.2.1 s.2.2.1 s.2.2.2.1 s.2.2.2.2)
def wpX9_gust (x1 : Int32) (x2 : Int32) (M : Mm) (L : Ml) (post : Mm → Ml → Prop) : Prop :=
  ∃ j9 : Nat, wlX9_gust_2 post j9 (M, L, x1, x2, (0 : Int32))
def wpX9_lowest_47 (post : Int64 → Mm → Ml → Prop) (M : Mm) (L : Ml) (s0 : Int64) : Prop :=
  post s0 M L
def wpX9_lowest_6 (post : Int64 → Mm → Ml → Prop) (K6 : Mm → Ml → Int64 → Int64 → Int32 → Int64 → Int64 → Prop) (M : Mm) (L : Ml) (v0 : Int64) (v2 : Int64) (v4 : Int32) (v5 : Int64) (v7 : Int64) : Prop :=
  ((lg_cmp v7 (0 : Int64)) = 0 → (¬ v4 = 0 → (¬ v5 = 0) ∧ (wpX9_lowest_47 post M L (v2 / v5))) ∧ (v4 = 0 → (¬ v5 = 0) ∧ (wpX9_lowest_47 post M L (v0 / v5)))) ∧ (¬ ((lg_cmp v7 (0 : Int64)) = 0) → (¬ v7 = 0) ∧ (∀ a_18 : Int64, a_18 = v5 - v5 / v7 * v7 → (K6 M L v0 v2 v4 v7 a_18)))
def wlX9_lowest_6 (post : Int64 → Mm → Ml → Prop) : Nat → (Mm × Ml × Int64 × Int64 × Int32 × Int64 × Int64) → Prop := zlp (fun K s => wpX9_lowest_6 post (fun M L v0 v2 v4 v5 v7 => K (M, L, v0, v2, v4, v5, v7)) s.1 s.2.1 s.2.2.1 s.2.2.2.1 s.2.2.2.2.1 s.2.2.2.2.2.1 s.2.2.2.2.2.2)
def wpX9_lowest (x1 : Int64) (x2 : Int64) (x3 : Int32) (M : Mm) (L : Ml) (post : Int64 → Mm → Ml → Prop) : Prop :=
  ∃ j9 : Nat, wlX9_lowest_6 post j9 (M, L, x1, x2, x3, x2, x1)
def wpX9_areGusts_83 (post : Int32 → Mm → Ml → Prop) (M : Mm) (L : Ml) (s0 : Int32) : Prop :=
  (s0 = 0 ∨ s0 = 1) ∧ post s0 M L
def wpX9_areGusts_82 (post : Int32 → Mm → Ml → Prop) (M : Mm) (L : Ml) : Prop :=
  wpX9_areGusts_83 post M L (0 : Int32)
def wpX9_areGusts (x1 : Int32) (x2 : Int32) (x3 : Int32) (x4 : Int32) (x5 : Int32) (M : Mm) (L : Ml) (post : Int32 → Mm → Ml → Prop) : Prop :=
  wpX9_in (x1.toInt64) (0 : Int64) (15 : Int64) M L (fun r_6 M_6 L_6 => (r_6 = 0 → wpX9_areGusts_82 post M_6 L_6) ∧ (¬ (r_6 = 0) → wpX9_in (x2.toInt64) (0 : Int64) (6 : Int64) M_6 L_6 (fun r_18 M_18 L_18 => (r_18 = 0 → wpX9_areGusts_82 post M_18 L_18) ∧ (¬ (r_18 = 0) → wpX9_in (x3.toInt64) (0 : Int64) (10 : Int64) M_18 L_18 (fun r_30 M_30 L_30 => (r_30 = 0 → wpX9_areGusts_82 post M_30 L_30) ∧ (¬ (r_30 = 0) → wpX9_in (x4.toInt64) (0 : Int64) (10 : Int64) M_30 L_30 (fun r_42 M_42 L_42 => (r_42 = 0 → wpX9_areGusts_82 post M_42 L_42) ∧ (¬ (r_42 = 0) → wpX9_in ((x3.toInt64) + (x4.toInt64)) (0 : Int64) (10 : Int64) M_42 L_42 (fun r_57 M_57 L_57 => (r_57 = 0 → wpX9_areGusts_82 post M_57 L_57) ∧ (¬ (r_57 = 0) → wpX9_in (x5.toInt64) (-1 : Int64) (15 : Int64) M_57 L_57 (fun r_72 M_72 L_72 => (r_72 = 0 → wpX9_areGusts_82 post M_72 L_72) ∧ (¬ (r_72 = 0) → wpX9_areGusts_83 post M_72 L_72 (1 : Int32)))))))))))))
def wpX9_gusts_24 (post : Int64 → Mm → Ml → Prop) (M : Mm) (L : Ml) : Prop :=
  post (-1000000000000000002 : Int64) M L
def wpX9_gusts_55 (post : Int64 → Mm → Ml → Prop) (K31 : Mm → Ml → Int32 → Int32 → Int32 → Int32 → Int32 → Int32 → Int32 → Prop) (M : Mm) (L : Ml) (v1 : Int32) (v2 : Int32) (v3 : Int32) (v4 : Int32) (v5 : Int32) (v6 : Int32) (v7 : Int32) (s0 : Int64) (s1 : Int32) : Prop :=
  vp_in s1 17 ∧ (∀ L_55 : Ml, L_55 = zsl L 62 s1.toNatClampNeg s0 → (∀ a_56 : Int32, a_56 = v7 + (1 : Int32) → (K31 M L_55 v1 v2 v3 v4 v5 v6 a_56)))
def wpX9_gusts_111 (post : Int64 → Mm → Ml → Prop) (M : Mm) (L : Ml) (v6 : Int32) (v7 : Int64) (s0 : Int32) : Prop :=
  vp_in s0 17 ∧ (wpX9_lowest (L 62 s0.toNatClampNeg) v7 v6 M L (fun r_116 M_116 L_116 => post r_116 M_116 L_116))
def wpX9_gusts_68 (post : Int64 → Mm → Ml → Prop) (K68 : Mm → Ml → Int32 → Int32 → Int32 → Int32 → Int32 → Int64 → Int32 → Prop) (M : Mm) (L : Ml) (v2 : Int32) (v3 : Int32) (v4 : Int32) (v5 : Int32) (v6 : Int32) (v7 : Int64) (v9 : Int32) : Prop :=
  (v2 ≤ v9 → (0 ≤ v5 → wpX9_gusts_111 post M L v6 v7 v5) ∧ (¬ (0 ≤ v5) → wpX9_gusts_111 post M L v6 v7 (16 : Int32))) ∧ (¬ (v2 ≤ v9) → wpX9_gust v3 v4 M L (fun M_78 L_78 => ∀ a_87 : Int64, a_87 = v7 * (10 : Int64) → (∀ a_89 : Int32, a_89 = v9 + (1 : Int32) → (K68 M_78 L_78 v2 v3 v4 v5 v6 a_87 a_89))))
def wlX9_gusts_68 (post : Int64 → Mm → Ml → Prop) : Nat → (Mm × Ml × Int32 × Int32 × Int32 × Int32 × Int32 × Int64 × Int32) → Prop := zlp (fun K s => wpX9_gusts_68 post (fun M L v2 v3 v4 v5 v6 v7 v9 => K (M, L, v2, v3, v4, v5, v6, v7, v9)) s.1 s.2.1 s.2.2.1 s.2.2.2.1 s.2.2.2.2.1 s.2.2.2.2.2.1 s.2.2.2.2.2.2.1 s.2.2.2.2.2.2.2.1 s.2.2.2.2.2.2.2.2)
def wpX9_gusts_31 (post : Int64 → Mm → Ml → Prop) (K31 : Mm → Ml → Int32 → Int32 → Int32 → Int32 → Int32 → Int32 → Int32 → Prop) (M : Mm) (L : Ml) (v1 : Int32) (v2 : Int32) (v3 : Int32) (v4 : Int32) (v5 : Int32) (v6 : Int32) (v7 : Int32) : Prop :=
  ((16 : Int32) < v7 → ∃ j9 : Nat, wlX9_gusts_68 post j9 (M, L, v2, v3, v4, v5, v6, (1 : Int64), (0 : Int32))) ∧ (¬ ((16 : Int32) < v7) → (¬ v7 = v1 → wpX9_gusts_55 post K31 M L v1 v2 v3 v4 v5 v6 v7 (0 : Int64) v7) ∧ (v7 = v1 → wpX9_gusts_55 post K31 M L v1 v2 v3 v4 v5 v6 v7 (1 : Int64) v7))
def wlX9_gusts_31 (post : Int64 → Mm → Ml → Prop) : Nat → (Mm × Ml × Int32 × Int32 × Int32 × Int32 × Int32 × Int32 × Int32) → Prop := zlp (fun K s => wpX9_gusts_31 post (fun M L v1 v2 v3 v4 v5 v6 v7 => K (M, L, v1, v2, v3, v4, v5, v6, v7)) s.1 s.2.1 s.2.2.1 s.2.2.2.1 s.2.2.2.2.1 s.2.2.2.2.2.1 s.2.2.2.2.2.2.1 s.2.2.2.2.2.2.2.1 s.2.2.2.2.2.2.2.2)
def wpX9_gusts (x1 : Int32) (x2 : Int32) (x3 : Int32) (x4 : Int32) (x5 : Int32) (x6 : Int32) (M : Mm) (L : Ml) (post : Int64 → Mm → Ml → Prop) : Prop :=
  wpX9_areGusts x1 x2 x3 x4 x5 M L (fun r_7 M_7 L_7 => (r_7 = 0 → wpX9_gusts_24 post M_7 L_7) ∧ (¬ (r_7 = 0) → wpX9_in (x6.toInt64) (0 : Int64) (1 : Int64) M_7 L_7 (fun r_18 M_18 L_18 => (¬ r_18 = 0 → ∃ j9 : Nat, wlX9_gusts_31 post j9 (M_18, L_18, x1, x2, x3, x4, x5, x6, (0 : Int32))) ∧ (r_18 = 0 → wpX9_gusts_24 post M_18 L_18))))
def wpX9_bestTake_66 (post : Int32 → Mm → Ml → Prop) (K5 : Mm → Ml → Int32 → Int32 → Int32 → Int32 → Prop) (M : Mm) (L : Ml) (v1 : Int32) (v2 : Int32) (v4 : Int32) (s0 : Int32) : Prop :=
  ∀ a_67 : Int32, a_67 = v4 + (-1 : Int32) → (K5 M L v1 v2 s0 a_67)
def wpX9_bestTake_65 (post : Int32 → Mm → Ml → Prop) (K5 : Mm → Ml → Int32 → Int32 → Int32 → Int32 → Prop) (M : Mm) (L : Ml) (v1 : Int32) (v2 : Int32) (v3 : Int32) (v4 : Int32) : Prop :=
  wpX9_bestTake_66 post K5 M L v1 v2 v4 v3
def wpX9_bestTake_51 (post : Int32 → Mm → Ml → Prop) (K5 : Mm → Ml → Int32 → Int32 → Int32 → Int32 → Prop) (M : Mm) (L : Ml) (v1 : Int32) (v2 : Int32) (v3 : Int32) (v4 : Int32) (s0 : Int32) (s1 : Int32) (s2 : Int32) : Prop :=
  vp_in ((s2 * (s1 - s0)) + v4) 244 ∧ ((¬ (M 64 ((s2 * (s1 - s0)) + v4).toNatClampNeg) = 0 → wpX9_bestTake_65 post K5 M L v1 v2 v3 v4) ∧ ((M 64 ((s2 * (s1 - s0)) + v4).toNatClampNeg) = 0 → wpX9_bestTake_66 post K5 M L v1 v2 v4 v4))
def wpX9_bestTake_27 (post : Int32 → Mm → Ml → Prop) (K5 : Mm → Ml → Int32 → Int32 → Int32 → Int32 → Prop) (M : Mm) (L : Ml) (v1 : Int32) (v2 : Int32) (v3 : Int32) (v4 : Int32) (s0 : Int32) : Prop :=
  (s0 = 0 → wpX9_bestTake_65 post K5 M L v1 v2 v3 v4) ∧ (¬ (s0 = 0) → (s0 = 0 → wpX9_bestTake_51 post K5 M L v1 v2 v3 v4 (0 : Int32) v1 (4 : Int32)) ∧ (¬ (s0 = 0) → wpX9_bestTake_51 post K5 M L v1 v2 v3 v4 v4 v1 (4 : Int32)))
def wpX9_bestTake_26 (post : Int32 → Mm → Ml → Prop) (K5 : Mm → Ml → Int32 → Int32 → Int32 → Int32 → Prop) (M : Mm) (L : Ml) (v1 : Int32) (v2 : Int32) (v3 : Int32) (v4 : Int32) : Prop :=
  wpX9_bestTake_27 post K5 M L v1 v2 v3 v4 (0 : Int32)
def wpX9_bestTake_5 (post : Int32 → Mm → Ml → Prop) (K5 : Mm → Ml → Int32 → Int32 → Int32 → Int32 → Prop) (M : Mm) (L : Ml) (v1 : Int32) (v2 : Int32) (v3 : Int32) (v4 : Int32) : Prop :=
  (v4 ≤ 0 → post v3 M L) ∧ (¬ (v4 ≤ 0) → (v4 = v2 → wpX9_bestTake_26 post K5 M L v1 v2 v3 v4) ∧ (¬ (v4 = v2) → (v1 < v4 → wpX9_bestTake_26 post K5 M L v1 v2 v3 v4) ∧ (¬ (v1 < v4) → wpX9_bestTake_27 post K5 M L v1 v2 v3 v4 (1 : Int32))))
def wlX9_bestTake_5 (post : Int32 → Mm → Ml → Prop) : Nat → (Mm × Ml × Int32 × Int32 × Int32 × Int32) → Prop := zlp (fun K s => wpX9_bestTake_5 post (fun M L v1 v2 v3 v4 => K (M, L, v1, v2, v3, v4)) s.1 s.2.1 s.2.2.1 s.2.2.2.1 s.2.2.2.2.1 s.2.2.2.2.2)
def wpX9_bestTake (x1 : Int32) (x2 : Int32) (M : Mm) (L : Ml) (post : Int32 → Mm → Ml → Prop) : Prop :=
  ∃ j9 : Nat, wlX9_bestTake_5 post j9 (M, L, x1, x2, (0 : Int32), (3 : Int32))
def wpX9_spoon_22 (post : Int32 → Mm → Ml → Prop) (M : Mm) (L : Ml) : Prop :=
  post (-2 : Int32) M L
def wpX9_spoon_35 (post : Int32 → Mm → Ml → Prop) (K27 : Mm → Ml → Int32 → Int32 → Int32 → Prop) (K35 : Mm → Ml → Int32 → Int32 → Int32 → Int32 → Prop) (M : Mm) (L : Ml) (v1 : Int32) (v2 : Int32) (v3 : Int32) (v4 : Int32) : Prop :=
  ((4 : Int32) ≤ v4 → ∀ a_65 : Int32, a_65 = v3 + (1 : Int32) → (K27 M L v1 v2 a_65)) ∧ (¬ ((4 : Int32) ≤ v4) → wpX9_bestTake v3 v4 M L (fun r_55 M_55 L_55 => vp_in (((4 : Int32) * v3) + v4) 244 ∧ (∀ M_58 : Mm, M_58 = zs M_55 64 (((4 : Int32) * v3) + v4).toNatClampNeg r_55 → (∀ a_59 : Int32, a_59 = v4 + (1 : Int32) → (K35 M_58 L_55 v1 v2 v3 a_59)))))
def wlX9_spoon_35 (post : Int32 → Mm → Ml → Prop) (K27 : Mm → Ml → Int32 → Int32 → Int32 → Prop) : Nat → (Mm × Ml × Int32 × Int32 × Int32 × Int32) → Prop := zlp (fun K s => wpX9_spoon_35 post K27 (fun M L v1 v2 v3 v4 => K (M, L, v1, v2, v3, v4)) s.1 s.2.1 s.2.2.1 s.2.2.2.1 s.2.2.2.2.1 s.2.2.2.2.2)
def wpX9_spoon_106 (post : Int32 → Mm → Ml → Prop) (M : Mm) (L : Ml) (s0 : Int32) : Prop :=
  post s0 M L
def wpX9_spoon_27 (post : Int32 → Mm → Ml → Prop) (K27 : Mm → Ml → Int32 → Int32 → Int32 → Prop) (M : Mm) (L : Ml) (v1 : Int32) (v2 : Int32) (v3 : Int32) : Prop :=
  (v1 < v3 → vp_in ((4 : Int32) * v1) 244 ∧ (∀ a_79 : Int32, a_79 = M 64 ((4 : Int32) * v1).toNatClampNeg → ((¬ v2 = 0 → (a_79 ≤ 0 → wpX9_spoon_106 post M L (-6 : Int32)) ∧ (¬ (a_79 ≤ 0) → wpX9_spoon_106 post M L a_79)) ∧ (v2 = 0 → (a_79 ≤ 0 → wpX9_spoon_106 post M L (0 : Int32)) ∧ (¬ (a_79 ≤ 0) → wpX9_spoon_106 post M L (1 : Int32)))))) ∧ (¬ (v1 < v3) → ∃ j9 : Nat, wlX9_spoon_35 post K27 j9 (M, L, v1, v2, v3, (0 : Int32)))
def wlX9_spoon_27 (post : Int32 → Mm → Ml → Prop) : Nat → (Mm × Ml × Int32 × Int32 × Int32) → Prop := zlp (fun K s => wpX9_spoon_27 post (fun M L v1 v2 v3 => K (M, L, v1, v2, v3)) s.1 s.2.1 s.2.2.1 s.2.2.2.1 s.2.2.2.2)
def wpX9_spoon (x1 : Int32) (x2 : Int32) (M : Mm) (L : Ml) (post : Int32 → Mm → Ml → Prop) : Prop :=
  wpX9_in (x1.toInt64) (0 : Int64) (60 : Int64) M L (fun r_6 M_6 L_6 => (r_6 = 0 → wpX9_spoon_22 post M_6 L_6) ∧ (¬ (r_6 = 0) → wpX9_in (x2.toInt64) (0 : Int64) (1 : Int64) M_6 L_6 (fun r_16 M_16 L_16 => (¬ r_16 = 0 → ∃ j9 : Nat, wlX9_spoon_27 post j9 (M_16, L_16, x1, x2, (0 : Int32))) ∧ (r_16 = 0 → wpX9_spoon_22 post M_16 L_16))))
def wpX9_year_36 (post : Int32 → Mm → Ml → Prop) (M : Mm) (L : Ml) : Prop :=
  post (-2 : Int32) M L
def wpX9_year_108 (post : Int32 → Mm → Ml → Prop) (K49 : Mm → Ml → Int32 → Int32 → Int32 → Int32 → Prop) (M : Mm) (L : Ml) (v2 : Int32) (v3 : Int32) (v4 : Int32) (v5 : Int32) : Prop :=
  ∀ a_108 : Int32, a_108 = v5 + (1 : Int32) → (K49 M L v2 v3 v4 a_108)
def wpX9_year_147 (post : Int32 → Mm → Ml → Prop) (M : Mm) (L : Ml) (s0 : Int32) : Prop :=
  wpX9_back s0 M L (fun r_152 M_152 L_152 => post r_152 M_152 L_152)
def wpX9_year_49 (post : Int32 → Mm → Ml → Prop) (K49 : Mm → Ml → Int32 → Int32 → Int32 → Int32 → Prop) (M : Mm) (L : Ml) (v2 : Int32) (v3 : Int32) (v4 : Int32) (v5 : Int32) : Prop :=
  (v2 ≤ v5 → (¬ v3 = 0 → (¬ v3 = (1 : Int32) → wpX9_aboveMany M L (fun r_144 M_144 L_144 => wpX9_year_147 post M_144 L_144 r_144)) ∧ (v3 = (1 : Int32) → wpX9_riverNow M L (fun r_134 M_134 L_134 => wpX9_bitsOf r_134 M_134 L_134 (fun r_137 M_137 L_137 => wpX9_year_147 post M_137 L_137 r_137)))) ∧ (v3 = 0 → wpX9_postedNow M L (fun r_119 M_119 L_119 => wpX9_bitsOf r_119 M_119 L_119 (fun r_122 M_122 L_122 => wpX9_year_147 post M_122 L_122 r_122)))) ∧ (¬ (v2 ≤ v5) → ∀ a_71 : Int32, a_71 = ((((75 : Int64) * (v4.toInt64)) + (74 : Int64)) - (((75 : Int64) * (v4.toInt64)) + (74 : Int64)) / (65537 : Int64) * (65537 : Int64)).toInt32 → (∀ a_81 : Int32, a_81 = (a_71 / (8 : Int32)) - (a_71 / (8 : Int32)) / (6 : Int32) * (6 : Int32) → (wpX9_whyNot (a_71 - a_71 / (8 : Int32) * (8 : Int32)) a_81 M L (fun r_91 M_91 L_91 => (¬ r_91 = 0 → wpX9_year_108 post K49 M_91 L_91 v2 v3 a_71 v5) ∧ (r_91 = 0 → wpX9_happen (a_71 - a_71 / (8 : Int32) * (8 : Int32)) a_81 M_91 L_91 (fun M_105 L_105 => wpX9_year_108 post K49 M_105 L_105 v2 v3 a_71 v5))))))
def wlX9_year_49 (post : Int32 → Mm → Ml → Prop) : Nat → (Mm × Ml × Int32 × Int32 × Int32 × Int32) → Prop := zlp (fun K s => wpX9_year_49 post (fun M L v2 v3 v4 v5 => K (M, L, v2, v3, v4, v5)) s.1 s.2.1 s.2.2.1 s.2.2.2.1 s.2.2.2.2.1 s.2.2.2.2.2)
def wpX9_year (x1 : Int32) (x2 : Int32) (x3 : Int32) (M : Mm) (L : Ml) (post : Int32 → Mm → Ml → Prop) : Prop :=
  wpX9_in (x1.toInt64) (0 : Int64) (9999 : Int64) M L (fun r_6 M_6 L_6 => (r_6 = 0 → wpX9_year_36 post M_6 L_6) ∧ (¬ (r_6 = 0) → wpX9_in (x2.toInt64) (1 : Int64) (99 : Int64) M_6 L_6 (fun r_18 M_18 L_18 => (r_18 = 0 → wpX9_year_36 post M_18 L_18) ∧ (¬ (r_18 = 0) → wpX9_in (x3.toInt64) (0 : Int64) (2 : Int64) M_18 L_18 (fun r_30 M_30 L_30 => (¬ r_30 = 0 → wpX9_keepNow M_30 L_30 (fun M_40 L_40 => ∃ j9 : Nat, wlX9_year_49 post j9 (M_40, L_40, x2, x3, x1, (0 : Int32)))) ∧ (r_30 = 0 → wpX9_year_36 post M_30 L_30))))))
def wpX9_pass_20 (post : Int32 → Mm → Ml → Prop) (M : Mm) (L : Ml) (s0 : Int32) : Prop :=
  vp_in (M 42 33) 180 ∧ (∀ M_30 : Mm, M_30 = zs M 65 (M 42 33).toNatClampNeg s0 → (∀ M_38 : Mm, M_38 = zs M_30 42 33 ((M_30 42 33) + (1 : Int32)) → (post s0 M_38 L)))
def wpX9_pass (x1 : Int32) (M : Mm) (L : Ml) (post : Int32 → Mm → Ml → Prop) : Prop :=
  ((M 42 34) = 0 → vp_in (M 42 33) 180 ∧ (wpX9_pass_20 post M L (M 65 (M 42 33).toNatClampNeg))) ∧ (¬ ((M 42 34) = 0) → wpX9_pass_20 post M L x1)
def wpX9_passRow_2 (r : Nat) (n : Nat) (post : Mm → Ml → Prop) (K2 : Mm → Ml → Int32 → Int32 → Prop) (M : Mm) (L : Ml) (v2 : Int32) (v3 : Int32) : Prop :=
  (v2 ≤ v3 → post M L) ∧ (¬ (v2 ≤ v3) → vp_in v3 n ∧ (wpX9_pass (M r v3.toNatClampNeg) M L (fun r_13 M_13 L_13 => vp_in v3 n ∧ (∀ M_16 : Mm, M_16 = zs M_13 r v3.toNatClampNeg r_13 → (∀ a_17 : Int32, a_17 = v3 + (1 : Int32) → (K2 M_16 L_13 v2 a_17))))))
def wlX9_passRow_2 (r : Nat) (n : Nat) (post : Mm → Ml → Prop) : Nat → (Mm × Ml × Int32 × Int32) → Prop := zlp (fun K s => wpX9_passRow_2 r n post (fun M L v2 v3 => K (M, L, v2, v3)) s.1 s.2.1 s.2.2.1 s.2.2.2)
def wpX9_passRow (r : Nat) (n : Nat) (x1 : Int32) (M : Mm) (L : Ml) (post : Mm → Ml → Prop) : Prop :=
  ∃ j9 : Nat, wlX9_passRow_2 r n post j9 (M, L, x1, (0 : Int32))
def wpX9_passAll (M : Mm) (L : Ml) (post : Mm → Ml → Prop) : Prop :=
  wpX9_pass (M 42 0) M L (fun r_6 M_6 L_6 => ∀ M_9 : Mm, M_9 = zs M_6 42 0 r_6 → (wpX9_pass (M_9 42 11) M_9 L_6 (fun r_18 M_18 L_18 => ∀ M_21 : Mm, M_21 = zs M_18 42 11 r_18 → (wpX9_passRow 43 8 (8 : Int32) M_21 L_18 (fun M_31 L_31 => wpX9_passRow 44 8 (8 : Int32) M_31 L_31 (fun M_41 L_41 => wpX9_passRow 45 8 (8 : Int32) M_41 L_41 (fun M_51 L_51 => wpX9_passRow 46 8 (8 : Int32) M_51 L_51 (fun M_61 L_61 => wpX9_passRow 47 8 (8 : Int32) M_61 L_61 (fun M_71 L_71 => wpX9_passRow 48 6 (6 : Int32) M_71 L_71 (fun M_81 L_81 => wpX9_passRow 49 6 (6 : Int32) M_81 L_81 (fun M_91 L_91 => wpX9_passRow 50 2 (2 : Int32) M_91 L_91 (fun M_100 L_100 => wpX9_passRow 51 8 (8 : Int32) M_100 L_100 (fun M_110 L_110 => wpX9_passRow 52 8 (8 : Int32) M_110 L_110 (fun M_120 L_120 => post M_120 L_120))))))))))))))
def wpX9_image (x1 : Int32) (M : Mm) (L : Ml) (post : Int32 → Mm → Ml → Prop) : Prop :=
  wpX9_in (x1.toInt64) (0 : Int64) (1 : Int64) M L (fun r_4 M_4 L_4 => (¬ r_4 = 0 → ∀ M_18 : Mm, M_18 = zs M_4 42 33 ((90 : Int32) * x1) → (∀ M_23 : Mm, M_23 = zs M_18 42 34 (1 : Int32) → (wpX9_passAll M_23 L_4 (fun M_27 L_27 => vp_in x1 2 ∧ (∀ M_36 : Mm, M_36 = zs M_27 66 x1.toNatClampNeg (vp_nar .boolean (1 : Int32)) → (post (1 : Int32) M_36 L_27)))))) ∧ (r_4 = 0 → post (-2 : Int32) M_4 L_4))
def wpX9_restore (x1 : Int32) (M : Mm) (L : Ml) (post : Int32 → Mm → Ml → Prop) : Prop :=
  wpX9_in (x1.toInt64) (0 : Int64) (1 : Int64) M L (fun r_4 M_4 L_4 => (¬ r_4 = 0 → vp_in x1 2 ∧ ((¬ (M_4 66 x1.toNatClampNeg) = 0 → ∀ M_30 : Mm, M_30 = zs M_4 42 33 ((90 : Int32) * x1) → (∀ M_35 : Mm, M_35 = zs M_30 42 34 (0 : Int32) → (wpX9_passAll M_35 L_4 (fun M_39 L_39 => post (1 : Int32) M_39 L_39)))) ∧ ((M_4 66 x1.toNatClampNeg) = 0 → post (-3 : Int32) M_4 L_4))) ∧ (r_4 = 0 → post (-2 : Int32) M_4 L_4))
def wpX9_toldOf (x1 : Int32) (x2 : Int32) (M : Mm) (L : Ml) (post : Int32 → Mm → Ml → Prop) : Prop :=
  wpX9_isFlake x1 M L (fun r_2 M_2 L_2 => (¬ r_2 = 0 → ((x2 = (0 : Int32) → vp_in x1 8 ∧ (post (M_2 43 x1.toNatClampNeg) M_2 L_2)) ∧ (¬ (x2 = (0 : Int32)) → (x2 = (1 : Int32) → vp_in x1 8 ∧ (post (M_2 44 x1.toNatClampNeg) M_2 L_2)) ∧ (¬ (x2 = (1 : Int32)) → (x2 = (2 : Int32) → vp_in x1 8 ∧ (post (M_2 45 x1.toNatClampNeg) M_2 L_2)) ∧ (¬ (x2 = (2 : Int32)) → (x2 = (3 : Int32) → vp_in x1 8 ∧ (post (M_2 46 x1.toNatClampNeg) M_2 L_2)) ∧ (¬ (x2 = (3 : Int32)) → (x2 = (4 : Int32) → vp_in x1 8 ∧ (post (M_2 47 x1.toNatClampNeg) M_2 L_2)) ∧ (¬ (x2 = (4 : Int32)) → post (-2 : Int32) M_2 L_2))))))) ∧ (r_2 = 0 → post (-2 : Int32) M_2 L_2))
def wpX9_told_57 (post : Int32 → Mm → Ml → Prop) (M : Mm) (L : Ml) (s0 : Int32) : Prop :=
  post s0 M L
def wpX9_told (x1 : Int32) (M : Mm) (L : Ml) (post : Int32 → Mm → Ml → Prop) : Prop :=
  wpX9_in (x1.toInt64) (100 : Int64) (159 : Int64) M L (fun r_8 M_8 L_8 => (r_8 = 0 → wpX9_in (x1.toInt64) (10 : Int64) (89 : Int64) M_8 L_8 (fun r_66 M_66 L_66 => (r_66 = 0 → ((x1 = (0 : Int32) → post (M_66 42 13) M_66 L_66) ∧ (¬ (x1 = (0 : Int32)) → (x1 = (1 : Int32) → post (M_66 42 0) M_66 L_66) ∧ (¬ (x1 = (1 : Int32)) → (x1 = (2 : Int32) → vp_in (0 : Int32) 2 ∧ (post (M_66 50 (0 : Int32).toNatClampNeg) M_66 L_66)) ∧ (¬ (x1 = (2 : Int32)) → (x1 = (3 : Int32) → vp_in (1 : Int32) 2 ∧ (post (M_66 50 (1 : Int32).toNatClampNeg) M_66 L_66)) ∧ (¬ (x1 = (3 : Int32)) → (x1 = (4 : Int32) → post (M_66 42 11) M_66 L_66) ∧ (¬ (x1 = (4 : Int32)) → (x1 = (5 : Int32) → wpX9_riverNow M_66 L_66 (fun r_158 M_158 L_158 => post r_158 M_158 L_158)) ∧ (¬ (x1 = (5 : Int32)) → post (-2 : Int32) M_66 L_66)))))))) ∧ (¬ (r_66 = 0) → wpX9_toldOf ((x1 / (10 : Int32)) - (1 : Int32)) (x1 - x1 / (10 : Int32) * (10 : Int32)) M_66 L_66 (fun r_83 M_83 L_83 => post r_83 M_83 L_83)))) ∧ (¬ (r_8 = 0) → ∀ a_21 : Int32, a_21 = (x1 - (100 : Int32)) / (10 : Int32) → ((¬ (x1 - x1 / (10 : Int32) * (10 : Int32)) = 0 → (¬ (x1 - x1 / (10 : Int32) * (10 : Int32)) = (1 : Int32) → wpX9_told_57 post M_8 L_8 (-2 : Int32)) ∧ ((x1 - x1 / (10 : Int32) * (10 : Int32)) = (1 : Int32) → vp_in a_21 6 ∧ (wpX9_told_57 post M_8 L_8 (M_8 49 a_21.toNatClampNeg)))) ∧ ((x1 - x1 / (10 : Int32) * (10 : Int32)) = 0 → vp_in a_21 6 ∧ (wpX9_told_57 post M_8 L_8 (M_8 48 a_21.toNatClampNeg))))))
