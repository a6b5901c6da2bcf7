/-! the system as one world: 67 cells, at the addresses ad 0 .. ad 66; M the ints, L the longs of each cell -/
abbrev Mm : Type := Nat → Nat → Int32
abbrev Ml : Type := Nat → Nat → Int64
def zr (M : Mm) (k : Nat) (f : Nat → Int32) : Mm := fun a => if a = k then f else M a
def zrl (L : Ml) (k : Nat) (f : Nat → Int64) : Ml := fun a => if a = k then f else L a
def zs (M : Mm) (k j : Nat) (v : Int32) : Mm := zr M k (upd (M k) j v)
def zsl (L : Ml) (k j : Nat) (v : Int64) : Ml := zrl L k (vp_updL (L k) j v)
/-- the cell of the image with number j -/
def zY (j : Nat) : Nat := if j = 0 then 21 else 28
def isY (b : Nat) : Prop := b = 14 ∨ b = 21 ∨ b = 28 ∨ b = 35
theorem isY_14 : isY 14 := Or.inl rfl
theorem isY_21 : isY 21 := Or.inr (Or.inl rfl)
theorem isY_28 : isY 28 := Or.inr (Or.inr (Or.inl rfl))
theorem isY_35 : isY 35 := Or.inr (Or.inr (Or.inr rfl))
theorem isY_z (j : Nat) : isY (zY j) := by unfold zY; split; exact isY_21; exact isY_28
def zW (cy : Nat → ClassId) (ad : Nat → Nat) (M : Mm) (L : Ml) : va_W := [
  (ad 0, .inr (6, [.ref (ad 14), .ref (ad 1), .int (M 0 2), .ref (ad 2), .ref (ad 6), .ref (ad 7), .ref (ad 10), .ref (ad 12)])),
  (ad 1, .inl (cy 1, 2, .inr (.inr (.inr (.inr (fun j => some (ad (zY j)))))))),
  (ad 2, .inr (3, [.ref (ad 3), .int (M 2 1), .ref (ad 4), .ref (ad 5), .int (M 2 4)])),
  (ad 3, .inl (cy 3, 60, .inl (M 3))),
  (ad 4, .inl (cy 4, 60, .inl (M 4))),
  (ad 5, .inl (cy 5, 60, .inl (M 5))),
  (ad 6, .inr (1, [.ref (ad 35), .int (M 6 1), .int (M 6 2), .int (M 6 3), .int (M 6 4)])),
  (ad 7, .inr (0, [.ref (ad 8), .ref (ad 9), .int (M 7 2)])),
  (ad 8, .inl (cy 8, 256, .inl (M 8))),
  (ad 9, .inl (cy 9, 256, .inl (M 9))),
  (ad 10, .inr (2, [.ref (ad 11)])),
  (ad 11, .inl (cy 11, 16, .inl (M 11))),
  (ad 12, .inr (4, [.ref (ad 13)])),
  (ad 13, .inl (cy 13, 61, .inl (M 13))),
  (ad 14, .inr (5, [.int (M 14 0), .ref (ad 15), .ref (ad 16), .ref (ad 17), .ref (ad 18), .ref (ad 19), .ref (ad 20), .int (M 14 7), .int (M 14 8), .int (M 14 9), .int (M 14 10), .int (M 14 11), .int (M 14 12)])),
  (ad 15, .inl (cy 15, 8, .inl (M 15))),
  (ad 16, .inl (cy 16, 8, .inl (M 16))),
  (ad 17, .inl (cy 17, 8, .inl (M 17))),
  (ad 18, .inl (cy 18, 8, .inl (M 18))),
  (ad 19, .inl (cy 19, 8, .inl (M 19))),
  (ad 20, .inl (cy 20, 6, .inl (M 20))),
  (ad 21, .inr (5, [.int (M 21 0), .ref (ad 22), .ref (ad 23), .ref (ad 24), .ref (ad 25), .ref (ad 26), .ref (ad 27), .int (M 21 7), .int (M 21 8), .int (M 21 9), .int (M 21 10), .int (M 21 11), .int (M 21 12)])),
  (ad 22, .inl (cy 22, 8, .inl (M 22))),
  (ad 23, .inl (cy 23, 8, .inl (M 23))),
  (ad 24, .inl (cy 24, 8, .inl (M 24))),
  (ad 25, .inl (cy 25, 8, .inl (M 25))),
  (ad 26, .inl (cy 26, 8, .inl (M 26))),
  (ad 27, .inl (cy 27, 6, .inl (M 27))),
  (ad 28, .inr (5, [.int (M 28 0), .ref (ad 29), .ref (ad 30), .ref (ad 31), .ref (ad 32), .ref (ad 33), .ref (ad 34), .int (M 28 7), .int (M 28 8), .int (M 28 9), .int (M 28 10), .int (M 28 11), .int (M 28 12)])),
  (ad 29, .inl (cy 29, 8, .inl (M 29))),
  (ad 30, .inl (cy 30, 8, .inl (M 30))),
  (ad 31, .inl (cy 31, 8, .inl (M 31))),
  (ad 32, .inl (cy 32, 8, .inl (M 32))),
  (ad 33, .inl (cy 33, 8, .inl (M 33))),
  (ad 34, .inl (cy 34, 6, .inl (M 34))),
  (ad 35, .inr (5, [.int (M 35 0), .ref (ad 36), .ref (ad 37), .ref (ad 38), .ref (ad 39), .ref (ad 40), .ref (ad 41), .int (M 35 7), .int (M 35 8), .int (M 35 9), .int (M 35 10), .int (M 35 11), .int (M 35 12)])),
  (ad 36, .inl (cy 36, 8, .inl (M 36))),
  (ad 37, .inl (cy 37, 8, .inl (M 37))),
  (ad 38, .inl (cy 38, 8, .inl (M 38))),
  (ad 39, .inl (cy 39, 8, .inl (M 39))),
  (ad 40, .inl (cy 40, 8, .inl (M 40))),
  (ad 41, .inl (cy 41, 6, .inl (M 41))),
  (ad 42, .inr (7, [.int (M 42 0), .ref (ad 43), .ref (ad 44), .ref (ad 45), .ref (ad 46), .ref (ad 47), .ref (ad 48), .ref (ad 49), .ref (ad 50), .ref (ad 51), .ref (ad 52), .int (M 42 11), .ref (ad 53), .int (M 42 13), .ref (ad 54), .ref (ad 55), .int (M 42 16), .int (M 42 17), .int (M 42 18), .int (M 42 19), .ref (ad 56), .int (M 42 21), .int (M 42 22), .ref (ad 57), .ref (ad 58), .ref (ad 59), .ref (ad 60), .ref (ad 61), .ref (ad 62), .ref (ad 63), .ref (ad 64), .ref (ad 65), .ref (ad 66), .int (M 42 33), .int (M 42 34)])),
  (ad 43, .inl (cy 43, 8, .inl (M 43))),
  (ad 44, .inl (cy 44, 8, .inl (M 44))),
  (ad 45, .inl (cy 45, 8, .inl (M 45))),
  (ad 46, .inl (cy 46, 8, .inl (M 46))),
  (ad 47, .inl (cy 47, 8, .inl (M 47))),
  (ad 48, .inl (cy 48, 6, .inl (M 48))),
  (ad 49, .inl (cy 49, 6, .inl (M 49))),
  (ad 50, .inl (cy 50, 2, .inl (M 50))),
  (ad 51, .inl (cy 51, 8, .inl (M 51))),
  (ad 52, .inl (cy 52, 8, .inl (M 52))),
  (ad 53, .inl (cy 53, 60, .inl (M 53))),
  (ad 54, .inl (cy 54, 60, .inl (M 54))),
  (ad 55, .inl (cy 55, 60, .inl (M 55))),
  (ad 56, .inl (cy 56, 44, .inl (M 56))),
  (ad 57, .inl (cy 57, 2816, .inr (.inl (L 57)))),
  (ad 58, .inl (cy 58, 256, .inl (M 58))),
  (ad 59, .inl (cy 59, 64, .inl (M 59))),
  (ad 60, .inl (cy 60, 256, .inl (M 60))),
  (ad 61, .inl (cy 61, 256, .inl (M 61))),
  (ad 62, .inl (cy 62, 17, .inr (.inl (L 62)))),
  (ad 63, .inl (cy 63, 17, .inr (.inl (L 63)))),
  (ad 64, .inl (cy 64, 244, .inl (M 64))),
  (ad 65, .inl (cy 65, 180, .inl (M 65))),
  (ad 66, .inl (cy 66, 2, .inl (M 66)))]
/-- the classes of the arrays -/
def zT (cy : Nat → ClassId) : List (ClassId × FieldType) := [(cy 1, .object RX7), (cy 3, .int), (cy 4, .int), (cy 5, .int), (cy 8, .int), (cy 9, .int), (cy 11, .int), (cy 13, .int), (cy 15, .int), (cy 16, .int), (cy 17, .int), (cy 18, .int), (cy 19, .int), (cy 20, .int), (cy 22, .int), (cy 23, .int), (cy 24, .int), (cy 25, .int), (cy 26, .int), (cy 27, .int), (cy 29, .int), (cy 30, .int), (cy 31, .int), (cy 32, .int), (cy 33, .int), (cy 34, .int), (cy 36, .int), (cy 37, .int), (cy 38, .int), (cy 39, .int), (cy 40, .int), (cy 41, .int), (cy 43, .int), (cy 44, .int), (cy 45, .int), (cy 46, .int), (cy 47, .int), (cy 48, .int), (cy 49, .int), (cy 50, .int), (cy 51, .int), (cy 52, .int), (cy 53, .int), (cy 54, .int), (cy 55, .int), (cy 56, .int), (cy 57, .long), (cy 58, .int), (cy 59, .int), (cy 60, .int), (cy 61, .boolean), (cy 62, .long), (cy 63, .long), (cy 64, .int), (cy 65, .int), (cy 66, .boolean)]
theorem zW_len (cy : Nat → ClassId) (ad : Nat → Nat) (M : Mm) (L : Ml) : (zW cy ad M L).map Prod.fst = (List.range 67).map ad := rfl
theorem zW_at {cy : Nat → ClassId} {ad : Nat → Nat} {M : Mm} {L : Ml} {i : Nat} {q : Nat × va_E} (h : (zW cy ad M L)[i]? = some q) : i < 67 ∧ q.1 = ad i := by
  have h1 : ((zW cy ad M L).map Prod.fst)[i]? = some q.1 := by rw [List.getElem?_map, h]; rfl
  rw [zW_len, List.getElem?_map] at h1
  by_cases hi : i < 67
  · rw [List.getElem?_range hi] at h1
    exact ⟨hi, (Option.some.inj h1).symm⟩
  · rw [List.getElem?_eq_none (by simpa using Nat.le_of_not_lt hi)] at h1
    cases h1
def zInj (ad : Nat → Nat) : Prop := ∀ i j, i < 67 → j < 67 → ad i = ad j → i = j
theorem zD {cy : Nat → ClassId} {ad : Nat → Nat} {A : Nat → Prop} (hi : zInj ad) (hA : ∀ k, k < 67 → A (ad k)) (M : Mm) (L : Ml) : va_D A (zW cy ad M L) :=
  ⟨fun i j p q h1 h2 e => hi i j (zW_at h1).1 (zW_at h2).1 (by rw [← (zW_at h1).2, ← (zW_at h2).2]; exact e), fun k q h => by rw [(zW_at h).2]; exact hA k (zW_at h).1⟩
/-- a row of n ints at the cell k -/
def zRow (k n : Nat) : Prop := (∃ t0 : Nat, ∀ cy, (zT cy)[t0]? = some (cy k, .int)) ∧ ∀ cy ad M L, (zW cy ad M L)[k]? = some (ad k, .inl (cy k, n, .inl (M k))) ∧ ∀ f, (zW cy ad M L).set k (ad k, .inl (cy k, n, .inl f)) = zW cy ad (zr M k f) L
def zRowZ (k n : Nat) : Prop := (∃ t0 : Nat, ∀ cy, (zT cy)[t0]? = some (cy k, .boolean)) ∧ ∀ cy ad M L, (zW cy ad M L)[k]? = some (ad k, .inl (cy k, n, .inl (M k))) ∧ ∀ f, (zW cy ad M L).set k (ad k, .inl (cy k, n, .inl f)) = zW cy ad (zr M k f) L
def zRowJ (k n : Nat) : Prop := (∃ t0 : Nat, ∀ cy, (zT cy)[t0]? = some (cy k, .long)) ∧ ∀ cy ad M L, (zW cy ad M L)[k]? = some (ad k, .inl (cy k, n, .inr (.inl (L k)))) ∧ ∀ f, (zW cy ad M L).set k (ad k, .inl (cy k, n, .inr (.inl f))) = zW cy ad M (zrl L k f)
/-- the object at the cell k; its int j; its cell j -/
def zOb (ci k : Nat) : Prop := ∃ fs : (Nat → Nat) → Mm → List Value, ∀ cy ad M L, (zW cy ad M L)[k]? = some (ad k, .inr (ci, fs ad M))
def zFi (ci k j : Nat) : Prop := ∃ fs : (Nat → Nat) → Mm → List Value, ∀ cy ad M L, (zW cy ad M L)[k]? = some (ad k, .inr (ci, fs ad M)) ∧ (fs ad M)[j]? = some (.int (M k j)) ∧ ∀ v, (zW cy ad M L).set k (ad k, .inr (ci, (fs ad M).set j (.int v))) = zW cy ad (zs M k j v) L
def zFr (ci k j k2 : Nat) : Prop := ∃ fs : (Nat → Nat) → Mm → List Value, ∀ cy ad M L, (zW cy ad M L)[k]? = some (ad k, .inr (ci, fs ad M)) ∧ (fs ad M)[j]? = some (.ref (ad k2))
theorem zI_3 : zRow 3 60 := ⟨⟨1, fun _ => rfl⟩, fun _ _ _ _ => ⟨rfl, fun _ => rfl⟩⟩
theorem zI_4 : zRow 4 60 := ⟨⟨2, fun _ => rfl⟩, fun _ _ _ _ => ⟨rfl, fun _ => rfl⟩⟩
theorem zI_5 : zRow 5 60 := ⟨⟨3, fun _ => rfl⟩, fun _ _ _ _ => ⟨rfl, fun _ => rfl⟩⟩
theorem zI_8 : zRow 8 256 := ⟨⟨4, fun _ => rfl⟩, fun _ _ _ _ => ⟨rfl, fun _ => rfl⟩⟩
theorem zI_9 : zRow 9 256 := ⟨⟨5, fun _ => rfl⟩, fun _ _ _ _ => ⟨rfl, fun _ => rfl⟩⟩
theorem zI_11 : zRow 11 16 := ⟨⟨6, fun _ => rfl⟩, fun _ _ _ _ => ⟨rfl, fun _ => rfl⟩⟩
theorem zI_13 : zRow 13 61 := ⟨⟨7, fun _ => rfl⟩, fun _ _ _ _ => ⟨rfl, fun _ => rfl⟩⟩
theorem zI_43 : zRow 43 8 := ⟨⟨32, fun _ => rfl⟩, fun _ _ _ _ => ⟨rfl, fun _ => rfl⟩⟩
theorem zI_44 : zRow 44 8 := ⟨⟨33, fun _ => rfl⟩, fun _ _ _ _ => ⟨rfl, fun _ => rfl⟩⟩
theorem zI_45 : zRow 45 8 := ⟨⟨34, fun _ => rfl⟩, fun _ _ _ _ => ⟨rfl, fun _ => rfl⟩⟩
theorem zI_46 : zRow 46 8 := ⟨⟨35, fun _ => rfl⟩, fun _ _ _ _ => ⟨rfl, fun _ => rfl⟩⟩
theorem zI_47 : zRow 47 8 := ⟨⟨36, fun _ => rfl⟩, fun _ _ _ _ => ⟨rfl, fun _ => rfl⟩⟩
theorem zI_48 : zRow 48 6 := ⟨⟨37, fun _ => rfl⟩, fun _ _ _ _ => ⟨rfl, fun _ => rfl⟩⟩
theorem zI_49 : zRow 49 6 := ⟨⟨38, fun _ => rfl⟩, fun _ _ _ _ => ⟨rfl, fun _ => rfl⟩⟩
theorem zI_50 : zRow 50 2 := ⟨⟨39, fun _ => rfl⟩, fun _ _ _ _ => ⟨rfl, fun _ => rfl⟩⟩
theorem zI_51 : zRow 51 8 := ⟨⟨40, fun _ => rfl⟩, fun _ _ _ _ => ⟨rfl, fun _ => rfl⟩⟩
theorem zI_52 : zRow 52 8 := ⟨⟨41, fun _ => rfl⟩, fun _ _ _ _ => ⟨rfl, fun _ => rfl⟩⟩
theorem zI_53 : zRow 53 60 := ⟨⟨42, fun _ => rfl⟩, fun _ _ _ _ => ⟨rfl, fun _ => rfl⟩⟩
theorem zI_54 : zRow 54 60 := ⟨⟨43, fun _ => rfl⟩, fun _ _ _ _ => ⟨rfl, fun _ => rfl⟩⟩
theorem zI_55 : zRow 55 60 := ⟨⟨44, fun _ => rfl⟩, fun _ _ _ _ => ⟨rfl, fun _ => rfl⟩⟩
theorem zI_56 : zRow 56 44 := ⟨⟨45, fun _ => rfl⟩, fun _ _ _ _ => ⟨rfl, fun _ => rfl⟩⟩
theorem zI_57 : zRowJ 57 2816 := ⟨⟨46, fun _ => rfl⟩, fun _ _ _ _ => ⟨rfl, fun _ => rfl⟩⟩
theorem zI_58 : zRow 58 256 := ⟨⟨47, fun _ => rfl⟩, fun _ _ _ _ => ⟨rfl, fun _ => rfl⟩⟩
theorem zI_59 : zRow 59 64 := ⟨⟨48, fun _ => rfl⟩, fun _ _ _ _ => ⟨rfl, fun _ => rfl⟩⟩
theorem zI_60 : zRow 60 256 := ⟨⟨49, fun _ => rfl⟩, fun _ _ _ _ => ⟨rfl, fun _ => rfl⟩⟩
theorem zI_61 : zRowZ 61 256 := ⟨⟨50, fun _ => rfl⟩, fun _ _ _ _ => ⟨rfl, fun _ => rfl⟩⟩
theorem zI_62 : zRowJ 62 17 := ⟨⟨51, fun _ => rfl⟩, fun _ _ _ _ => ⟨rfl, fun _ => rfl⟩⟩
theorem zI_63 : zRowJ 63 17 := ⟨⟨52, fun _ => rfl⟩, fun _ _ _ _ => ⟨rfl, fun _ => rfl⟩⟩
theorem zI_64 : zRow 64 244 := ⟨⟨53, fun _ => rfl⟩, fun _ _ _ _ => ⟨rfl, fun _ => rfl⟩⟩
theorem zI_65 : zRow 65 180 := ⟨⟨54, fun _ => rfl⟩, fun _ _ _ _ => ⟨rfl, fun _ => rfl⟩⟩
theorem zI_66 : zRowZ 66 2 := ⟨⟨55, fun _ => rfl⟩, fun _ _ _ _ => ⟨rfl, fun _ => rfl⟩⟩
theorem zO_0 : zOb 6 0 := ⟨fun ad M => [.ref (ad 14), .ref (ad 1), .int (M 0 2), .ref (ad 2), .ref (ad 6), .ref (ad 7), .ref (ad 10), .ref (ad 12)], fun _ _ _ _ => rfl⟩
theorem zR_0_0 : zFr 6 0 0 14 := ⟨fun ad M => [.ref (ad 14), .ref (ad 1), .int (M 0 2), .ref (ad 2), .ref (ad 6), .ref (ad 7), .ref (ad 10), .ref (ad 12)], fun _ _ _ _ => ⟨rfl, rfl⟩⟩
theorem zR_0_1 : zFr 6 0 1 1 := ⟨fun ad M => [.ref (ad 14), .ref (ad 1), .int (M 0 2), .ref (ad 2), .ref (ad 6), .ref (ad 7), .ref (ad 10), .ref (ad 12)], fun _ _ _ _ => ⟨rfl, rfl⟩⟩
theorem zF_0_2 : zFi 6 0 2 := ⟨fun ad M => [.ref (ad 14), .ref (ad 1), .int (M 0 2), .ref (ad 2), .ref (ad 6), .ref (ad 7), .ref (ad 10), .ref (ad 12)], fun _ _ _ _ => ⟨rfl, rfl, fun _ => rfl⟩⟩
theorem zR_0_3 : zFr 6 0 3 2 := ⟨fun ad M => [.ref (ad 14), .ref (ad 1), .int (M 0 2), .ref (ad 2), .ref (ad 6), .ref (ad 7), .ref (ad 10), .ref (ad 12)], fun _ _ _ _ => ⟨rfl, rfl⟩⟩
theorem zR_0_4 : zFr 6 0 4 6 := ⟨fun ad M => [.ref (ad 14), .ref (ad 1), .int (M 0 2), .ref (ad 2), .ref (ad 6), .ref (ad 7), .ref (ad 10), .ref (ad 12)], fun _ _ _ _ => ⟨rfl, rfl⟩⟩
theorem zR_0_5 : zFr 6 0 5 7 := ⟨fun ad M => [.ref (ad 14), .ref (ad 1), .int (M 0 2), .ref (ad 2), .ref (ad 6), .ref (ad 7), .ref (ad 10), .ref (ad 12)], fun _ _ _ _ => ⟨rfl, rfl⟩⟩
theorem zR_0_6 : zFr 6 0 6 10 := ⟨fun ad M => [.ref (ad 14), .ref (ad 1), .int (M 0 2), .ref (ad 2), .ref (ad 6), .ref (ad 7), .ref (ad 10), .ref (ad 12)], fun _ _ _ _ => ⟨rfl, rfl⟩⟩
theorem zR_0_7 : zFr 6 0 7 12 := ⟨fun ad M => [.ref (ad 14), .ref (ad 1), .int (M 0 2), .ref (ad 2), .ref (ad 6), .ref (ad 7), .ref (ad 10), .ref (ad 12)], fun _ _ _ _ => ⟨rfl, rfl⟩⟩
theorem zO_2 : zOb 3 2 := ⟨fun ad M => [.ref (ad 3), .int (M 2 1), .ref (ad 4), .ref (ad 5), .int (M 2 4)], fun _ _ _ _ => rfl⟩
theorem zR_2_0 : zFr 3 2 0 3 := ⟨fun ad M => [.ref (ad 3), .int (M 2 1), .ref (ad 4), .ref (ad 5), .int (M 2 4)], fun _ _ _ _ => ⟨rfl, rfl⟩⟩
theorem zF_2_1 : zFi 3 2 1 := ⟨fun ad M => [.ref (ad 3), .int (M 2 1), .ref (ad 4), .ref (ad 5), .int (M 2 4)], fun _ _ _ _ => ⟨rfl, rfl, fun _ => rfl⟩⟩
theorem zR_2_2 : zFr 3 2 2 4 := ⟨fun ad M => [.ref (ad 3), .int (M 2 1), .ref (ad 4), .ref (ad 5), .int (M 2 4)], fun _ _ _ _ => ⟨rfl, rfl⟩⟩
theorem zR_2_3 : zFr 3 2 3 5 := ⟨fun ad M => [.ref (ad 3), .int (M 2 1), .ref (ad 4), .ref (ad 5), .int (M 2 4)], fun _ _ _ _ => ⟨rfl, rfl⟩⟩
theorem zF_2_4 : zFi 3 2 4 := ⟨fun ad M => [.ref (ad 3), .int (M 2 1), .ref (ad 4), .ref (ad 5), .int (M 2 4)], fun _ _ _ _ => ⟨rfl, rfl, fun _ => rfl⟩⟩
theorem zO_6 : zOb 1 6 := ⟨fun ad M => [.ref (ad 35), .int (M 6 1), .int (M 6 2), .int (M 6 3), .int (M 6 4)], fun _ _ _ _ => rfl⟩
theorem zR_6_0 : zFr 1 6 0 35 := ⟨fun ad M => [.ref (ad 35), .int (M 6 1), .int (M 6 2), .int (M 6 3), .int (M 6 4)], fun _ _ _ _ => ⟨rfl, rfl⟩⟩
theorem zF_6_1 : zFi 1 6 1 := ⟨fun ad M => [.ref (ad 35), .int (M 6 1), .int (M 6 2), .int (M 6 3), .int (M 6 4)], fun _ _ _ _ => ⟨rfl, rfl, fun _ => rfl⟩⟩
theorem zF_6_2 : zFi 1 6 2 := ⟨fun ad M => [.ref (ad 35), .int (M 6 1), .int (M 6 2), .int (M 6 3), .int (M 6 4)], fun _ _ _ _ => ⟨rfl, rfl, fun _ => rfl⟩⟩
theorem zF_6_3 : zFi 1 6 3 := ⟨fun ad M => [.ref (ad 35), .int (M 6 1), .int (M 6 2), .int (M 6 3), .int (M 6 4)], fun _ _ _ _ => ⟨rfl, rfl, fun _ => rfl⟩⟩
theorem zF_6_4 : zFi 1 6 4 := ⟨fun ad M => [.ref (ad 35), .int (M 6 1), .int (M 6 2), .int (M 6 3), .int (M 6 4)], fun _ _ _ _ => ⟨rfl, rfl, fun _ => rfl⟩⟩
theorem zO_7 : zOb 0 7 := ⟨fun ad M => [.ref (ad 8), .ref (ad 9), .int (M 7 2)], fun _ _ _ _ => rfl⟩
theorem zR_7_0 : zFr 0 7 0 8 := ⟨fun ad M => [.ref (ad 8), .ref (ad 9), .int (M 7 2)], fun _ _ _ _ => ⟨rfl, rfl⟩⟩
theorem zR_7_1 : zFr 0 7 1 9 := ⟨fun ad M => [.ref (ad 8), .ref (ad 9), .int (M 7 2)], fun _ _ _ _ => ⟨rfl, rfl⟩⟩
theorem zF_7_2 : zFi 0 7 2 := ⟨fun ad M => [.ref (ad 8), .ref (ad 9), .int (M 7 2)], fun _ _ _ _ => ⟨rfl, rfl, fun _ => rfl⟩⟩
theorem zO_10 : zOb 2 10 := ⟨fun ad M => [.ref (ad 11)], fun _ _ _ _ => rfl⟩
theorem zR_10_0 : zFr 2 10 0 11 := ⟨fun ad M => [.ref (ad 11)], fun _ _ _ _ => ⟨rfl, rfl⟩⟩
theorem zO_12 : zOb 4 12 := ⟨fun ad M => [.ref (ad 13)], fun _ _ _ _ => rfl⟩
theorem zR_12_0 : zFr 4 12 0 13 := ⟨fun ad M => [.ref (ad 13)], fun _ _ _ _ => ⟨rfl, rfl⟩⟩
theorem zO_42 : zOb 7 42 := ⟨fun ad M => [.int (M 42 0), .ref (ad 43), .ref (ad 44), .ref (ad 45), .ref (ad 46), .ref (ad 47), .ref (ad 48), .ref (ad 49), .ref (ad 50), .ref (ad 51), .ref (ad 52), .int (M 42 11), .ref (ad 53), .int (M 42 13), .ref (ad 54), .ref (ad 55), .int (M 42 16), .int (M 42 17), .int (M 42 18), .int (M 42 19), .ref (ad 56), .int (M 42 21), .int (M 42 22), .ref (ad 57), .ref (ad 58), .ref (ad 59), .ref (ad 60), .ref (ad 61), .ref (ad 62), .ref (ad 63), .ref (ad 64), .ref (ad 65), .ref (ad 66), .int (M 42 33), .int (M 42 34)], fun _ _ _ _ => rfl⟩
theorem zF_42_0 : zFi 7 42 0 := ⟨fun ad M => [.int (M 42 0), .ref (ad 43), .ref (ad 44), .ref (ad 45), .ref (ad 46), .ref (ad 47), .ref (ad 48), .ref (ad 49), .ref (ad 50), .ref (ad 51), .ref (ad 52), .int (M 42 11), .ref (ad 53), .int (M 42 13), .ref (ad 54), .ref (ad 55), .int (M 42 16), .int (M 42 17), .int (M 42 18), .int (M 42 19), .ref (ad 56), .int (M 42 21), .int (M 42 22), .ref (ad 57), .ref (ad 58), .ref (ad 59), .ref (ad 60), .ref (ad 61), .ref (ad 62), .ref (ad 63), .ref (ad 64), .ref (ad 65), .ref (ad 66), .int (M 42 33), .int (M 42 34)], fun _ _ _ _ => ⟨rfl, rfl, fun _ => rfl⟩⟩
theorem zR_42_1 : zFr 7 42 1 43 := ⟨fun ad M => [.int (M 42 0), .ref (ad 43), .ref (ad 44), .ref (ad 45), .ref (ad 46), .ref (ad 47), .ref (ad 48), .ref (ad 49), .ref (ad 50), .ref (ad 51), .ref (ad 52), .int (M 42 11), .ref (ad 53), .int (M 42 13), .ref (ad 54), .ref (ad 55), .int (M 42 16), .int (M 42 17), .int (M 42 18), .int (M 42 19), .ref (ad 56), .int (M 42 21), .int (M 42 22), .ref (ad 57), .ref (ad 58), .ref (ad 59), .ref (ad 60), .ref (ad 61), .ref (ad 62), .ref (ad 63), .ref (ad 64), .ref (ad 65), .ref (ad 66), .int (M 42 33), .int (M 42 34)], fun _ _ _ _ => ⟨rfl, rfl⟩⟩
theorem zR_42_2 : zFr 7 42 2 44 := ⟨fun ad M => [.int (M 42 0), .ref (ad 43), .ref (ad 44), .ref (ad 45), .ref (ad 46), .ref (ad 47), .ref (ad 48), .ref (ad 49), .ref (ad 50), .ref (ad 51), .ref (ad 52), .int (M 42 11), .ref (ad 53), .int (M 42 13), .ref (ad 54), .ref (ad 55), .int (M 42 16), .int (M 42 17), .int (M 42 18), .int (M 42 19), .ref (ad 56), .int (M 42 21), .int (M 42 22), .ref (ad 57), .ref (ad 58), .ref (ad 59), .ref (ad 60), .ref (ad 61), .ref (ad 62), .ref (ad 63), .ref (ad 64), .ref (ad 65), .ref (ad 66), .int (M 42 33), .int (M 42 34)], fun _ _ _ _ => ⟨rfl, rfl⟩⟩
theorem zR_42_3 : zFr 7 42 3 45 := ⟨fun ad M => [.int (M 42 0), .ref (ad 43), .ref (ad 44), .ref (ad 45), .ref (ad 46), .ref (ad 47), .ref (ad 48), .ref (ad 49), .ref (ad 50), .ref (ad 51), .ref (ad 52), .int (M 42 11), .ref (ad 53), .int (M 42 13), .ref (ad 54), .ref (ad 55), .int (M 42 16), .int (M 42 17), .int (M 42 18), .int (M 42 19), .ref (ad 56), .int (M 42 21), .int (M 42 22), .ref (ad 57), .ref (ad 58), .ref (ad 59), .ref (ad 60), .ref (ad 61), .ref (ad 62), .ref (ad 63), .ref (ad 64), .ref (ad 65), .ref (ad 66), .int (M 42 33), .int (M 42 34)], fun _ _ _ _ => ⟨rfl, rfl⟩⟩
theorem zR_42_4 : zFr 7 42 4 46 := ⟨fun ad M => [.int (M 42 0), .ref (ad 43), .ref (ad 44), .ref (ad 45), .ref (ad 46), .ref (ad 47), .ref (ad 48), .ref (ad 49), .ref (ad 50), .ref (ad 51), .ref (ad 52), .int (M 42 11), .ref (ad 53), .int (M 42 13), .ref (ad 54), .ref (ad 55), .int (M 42 16), .int (M 42 17), .int (M 42 18), .int (M 42 19), .ref (ad 56), .int (M 42 21), .int (M 42 22), .ref (ad 57), .ref (ad 58), .ref (ad 59), .ref (ad 60), .ref (ad 61), .ref (ad 62), .ref (ad 63), .ref (ad 64), .ref (ad 65), .ref (ad 66), .int (M 42 33), .int (M 42 34)], fun _ _ _ _ => ⟨rfl, rfl⟩⟩
theorem zR_42_5 : zFr 7 42 5 47 := ⟨fun ad M => [.int (M 42 0), .ref (ad 43), .ref (ad 44), .ref (ad 45), .ref (ad 46), .ref (ad 47), .ref (ad 48), .ref (ad 49), .ref (ad 50), .ref (ad 51), .ref (ad 52), .int (M 42 11), .ref (ad 53), .int (M 42 13), .ref (ad 54), .ref (ad 55), .int (M 42 16), .int (M 42 17), .int (M 42 18), .int (M 42 19), .ref (ad 56), .int (M 42 21), .int (M 42 22), .ref (ad 57), .ref (ad 58), .ref (ad 59), .ref (ad 60), .ref (ad 61), .ref (ad 62), .ref (ad 63), .ref (ad 64), .ref (ad 65), .ref (ad 66), .int (M 42 33), .int (M 42 34)], fun _ _ _ _ => ⟨rfl, rfl⟩⟩
theorem zR_42_6 : zFr 7 42 6 48 := ⟨fun ad M => [.int (M 42 0), .ref (ad 43), .ref (ad 44), .ref (ad 45), .ref (ad 46), .ref (ad 47), .ref (ad 48), .ref (ad 49), .ref (ad 50), .ref (ad 51), .ref (ad 52), .int (M 42 11), .ref (ad 53), .int (M 42 13), .ref (ad 54), .ref (ad 55), .int (M 42 16), .int (M 42 17), .int (M 42 18), .int (M 42 19), .ref (ad 56), .int (M 42 21), .int (M 42 22), .ref (ad 57), .ref (ad 58), .ref (ad 59), .ref (ad 60), .ref (ad 61), .ref (ad 62), .ref (ad 63), .ref (ad 64), .ref (ad 65), .ref (ad 66), .int (M 42 33), .int (M 42 34)], fun _ _ _ _ => ⟨rfl, rfl⟩⟩
theorem zR_42_7 : zFr 7 42 7 49 := ⟨fun ad M => [.int (M 42 0), .ref (ad 43), .ref (ad 44), .ref (ad 45), .ref (ad 46), .ref (ad 47), .ref (ad 48), .ref (ad 49), .ref (ad 50), .ref (ad 51), .ref (ad 52), .int (M 42 11), .ref (ad 53), .int (M 42 13), .ref (ad 54), .ref (ad 55), .int (M 42 16), .int (M 42 17), .int (M 42 18), .int (M 42 19), .ref (ad 56), .int (M 42 21), .int (M 42 22), .ref (ad 57), .ref (ad 58), .ref (ad 59), .ref (ad 60), .ref (ad 61), .ref (ad 62), .ref (ad 63), .ref (ad 64), .ref (ad 65), .ref (ad 66), .int (M 42 33), .int (M 42 34)], fun _ _ _ _ => ⟨rfl, rfl⟩⟩
theorem zR_42_8 : zFr 7 42 8 50 := ⟨fun ad M => [.int (M 42 0), .ref (ad 43), .ref (ad 44), .ref (ad 45), .ref (ad 46), .ref (ad 47), .ref (ad 48), .ref (ad 49), .ref (ad 50), .ref (ad 51), .ref (ad 52), .int (M 42 11), .ref (ad 53), .int (M 42 13), .ref (ad 54), .ref (ad 55), .int (M 42 16), .int (M 42 17), .int (M 42 18), .int (M 42 19), .ref (ad 56), .int (M 42 21), .int (M 42 22), .ref (ad 57), .ref (ad 58), .ref (ad 59), .ref (ad 60), .ref (ad 61), .ref (ad 62), .ref (ad 63), .ref (ad 64), .ref (ad 65), .ref (ad 66), .int (M 42 33), .int (M 42 34)], fun _ _ _ _ => ⟨rfl, rfl⟩⟩
theorem zR_42_9 : zFr 7 42 9 51 := ⟨fun ad M => [.int (M 42 0), .ref (ad 43), .ref (ad 44), .ref (ad 45), .ref (ad 46), .ref (ad 47), .ref (ad 48), .ref (ad 49), .ref (ad 50), .ref (ad 51), .ref (ad 52), .int (M 42 11), .ref (ad 53), .int (M 42 13), .ref (ad 54), .ref (ad 55), .int (M 42 16), .int (M 42 17), .int (M 42 18), .int (M 42 19), .ref (ad 56), .int (M 42 21), .int (M 42 22), .ref (ad 57), .ref (ad 58), .ref (ad 59), .ref (ad 60), .ref (ad 61), .ref (ad 62), .ref (ad 63), .ref (ad 64), .ref (ad 65), .ref (ad 66), .int (M 42 33), .int (M 42 34)], fun _ _ _ _ => ⟨rfl, rfl⟩⟩
theorem zR_42_10 : zFr 7 42 10 52 := ⟨fun ad M => [.int (M 42 0), .ref (ad 43), .ref (ad 44), .ref (ad 45), .ref (ad 46), .ref (ad 47), .ref (ad 48), .ref (ad 49), .ref (ad 50), .ref (ad 51), .ref (ad 52), .int (M 42 11), .ref (ad 53), .int (M 42 13), .ref (ad 54), .ref (ad 55), .int (M 42 16), .int (M 42 17), .int (M 42 18), .int (M 42 19), .ref (ad 56), .int (M 42 21), .int (M 42 22), .ref (ad 57), .ref (ad 58), .ref (ad 59), .ref (ad 60), .ref (ad 61), .ref (ad 62), .ref (ad 63), .ref (ad 64), .ref (ad 65), .ref (ad 66), .int (M 42 33), .int (M 42 34)], fun _ _ _ _ => ⟨rfl, rfl⟩⟩
theorem zF_42_11 : zFi 7 42 11 := ⟨fun ad M => [.int (M 42 0), .ref (ad 43), .ref (ad 44), .ref (ad 45), .ref (ad 46), .ref (ad 47), .ref (ad 48), .ref (ad 49), .ref (ad 50), .ref (ad 51), .ref (ad 52), .int (M 42 11), .ref (ad 53), .int (M 42 13), .ref (ad 54), .ref (ad 55), .int (M 42 16), .int (M 42 17), .int (M 42 18), .int (M 42 19), .ref (ad 56), .int (M 42 21), .int (M 42 22), .ref (ad 57), .ref (ad 58), .ref (ad 59), .ref (ad 60), .ref (ad 61), .ref (ad 62), .ref (ad 63), .ref (ad 64), .ref (ad 65), .ref (ad 66), .int (M 42 33), .int (M 42 34)], fun _ _ _ _ => ⟨rfl, rfl, fun _ => rfl⟩⟩
theorem zR_42_12 : zFr 7 42 12 53 := ⟨fun ad M => [.int (M 42 0), .ref (ad 43), .ref (ad 44), .ref (ad 45), .ref (ad 46), .ref (ad 47), .ref (ad 48), .ref (ad 49), .ref (ad 50), .ref (ad 51), .ref (ad 52), .int (M 42 11), .ref (ad 53), .int (M 42 13), .ref (ad 54), .ref (ad 55), .int (M 42 16), .int (M 42 17), .int (M 42 18), .int (M 42 19), .ref (ad 56), .int (M 42 21), .int (M 42 22), .ref (ad 57), .ref (ad 58), .ref (ad 59), .ref (ad 60), .ref (ad 61), .ref (ad 62), .ref (ad 63), .ref (ad 64), .ref (ad 65), .ref (ad 66), .int (M 42 33), .int (M 42 34)], fun _ _ _ _ => ⟨rfl, rfl⟩⟩
theorem zF_42_13 : zFi 7 42 13 := ⟨fun ad M => [.int (M 42 0), .ref (ad 43), .ref (ad 44), .ref (ad 45), .ref (ad 46), .ref (ad 47), .ref (ad 48), .ref (ad 49), .ref (ad 50), .ref (ad 51), .ref (ad 52), .int (M 42 11), .ref (ad 53), .int (M 42 13), .ref (ad 54), .ref (ad 55), .int (M 42 16), .int (M 42 17), .int (M 42 18), .int (M 42 19), .ref (ad 56), .int (M 42 21), .int (M 42 22), .ref (ad 57), .ref (ad 58), .ref (ad 59), .ref (ad 60), .ref (ad 61), .ref (ad 62), .ref (ad 63), .ref (ad 64), .ref (ad 65), .ref (ad 66), .int (M 42 33), .int (M 42 34)], fun _ _ _ _ => ⟨rfl, rfl, fun _ => rfl⟩⟩
theorem zR_42_14 : zFr 7 42 14 54 := ⟨fun ad M => [.int (M 42 0), .ref (ad 43), .ref (ad 44), .ref (ad 45), .ref (ad 46), .ref (ad 47), .ref (ad 48), .ref (ad 49), .ref (ad 50), .ref (ad 51), .ref (ad 52), .int (M 42 11), .ref (ad 53), .int (M 42 13), .ref (ad 54), .ref (ad 55), .int (M 42 16), .int (M 42 17), .int (M 42 18), .int (M 42 19), .ref (ad 56), .int (M 42 21), .int (M 42 22), .ref (ad 57), .ref (ad 58), .ref (ad 59), .ref (ad 60), .ref (ad 61), .ref (ad 62), .ref (ad 63), .ref (ad 64), .ref (ad 65), .ref (ad 66), .int (M 42 33), .int (M 42 34)], fun _ _ _ _ => ⟨rfl, rfl⟩⟩
theorem zR_42_15 : zFr 7 42 15 55 := ⟨fun ad M => [.int (M 42 0), .ref (ad 43), .ref (ad 44), .ref (ad 45), .ref (ad 46), .ref (ad 47), .ref (ad 48), .ref (ad 49), .ref (ad 50), .ref (ad 51), .ref (ad 52), .int (M 42 11), .ref (ad 53), .int (M 42 13), .ref (ad 54), .ref (ad 55), .int (M 42 16), .int (M 42 17), .int (M 42 18), .int (M 42 19), .ref (ad 56), .int (M 42 21), .int (M 42 22), .ref (ad 57), .ref (ad 58), .ref (ad 59), .ref (ad 60), .ref (ad 61), .ref (ad 62), .ref (ad 63), .ref (ad 64), .ref (ad 65), .ref (ad 66), .int (M 42 33), .int (M 42 34)], fun _ _ _ _ => ⟨rfl, rfl⟩⟩
theorem zF_42_16 : zFi 7 42 16 := ⟨fun ad M => [.int (M 42 0), .ref (ad 43), .ref (ad 44), .ref (ad 45), .ref (ad 46), .ref (ad 47), .ref (ad 48), .ref (ad 49), .ref (ad 50), .ref (ad 51), .ref (ad 52), .int (M 42 11), .ref (ad 53), .int (M 42 13), .ref (ad 54), .ref (ad 55), .int (M 42 16), .int (M 42 17), .int (M 42 18), .int (M 42 19), .ref (ad 56), .int (M 42 21), .int (M 42 22), .ref (ad 57), .ref (ad 58), .ref (ad 59), .ref (ad 60), .ref (ad 61), .ref (ad 62), .ref (ad 63), .ref (ad 64), .ref (ad 65), .ref (ad 66), .int (M 42 33), .int (M 42 34)], fun _ _ _ _ => ⟨rfl, rfl, fun _ => rfl⟩⟩
theorem zF_42_17 : zFi 7 42 17 := ⟨fun ad M => [.int (M 42 0), .ref (ad 43), .ref (ad 44), .ref (ad 45), .ref (ad 46), .ref (ad 47), .ref (ad 48), .ref (ad 49), .ref (ad 50), .ref (ad 51), .ref (ad 52), .int (M 42 11), .ref (ad 53), .int (M 42 13), .ref (ad 54), .ref (ad 55), .int (M 42 16), .int (M 42 17), .int (M 42 18), .int (M 42 19), .ref (ad 56), .int (M 42 21), .int (M 42 22), .ref (ad 57), .ref (ad 58), .ref (ad 59), .ref (ad 60), .ref (ad 61), .ref (ad 62), .ref (ad 63), .ref (ad 64), .ref (ad 65), .ref (ad 66), .int (M 42 33), .int (M 42 34)], fun _ _ _ _ => ⟨rfl, rfl, fun _ => rfl⟩⟩
theorem zF_42_18 : zFi 7 42 18 := ⟨fun ad M => [.int (M 42 0), .ref (ad 43), .ref (ad 44), .ref (ad 45), .ref (ad 46), .ref (ad 47), .ref (ad 48), .ref (ad 49), .ref (ad 50), .ref (ad 51), .ref (ad 52), .int (M 42 11), .ref (ad 53), .int (M 42 13), .ref (ad 54), .ref (ad 55), .int (M 42 16), .int (M 42 17), .int (M 42 18), .int (M 42 19), .ref (ad 56), .int (M 42 21), .int (M 42 22), .ref (ad 57), .ref (ad 58), .ref (ad 59), .ref (ad 60), .ref (ad 61), .ref (ad 62), .ref (ad 63), .ref (ad 64), .ref (ad 65), .ref (ad 66), .int (M 42 33), .int (M 42 34)], fun _ _ _ _ => ⟨rfl, rfl, fun _ => rfl⟩⟩
theorem zF_42_19 : zFi 7 42 19 := ⟨fun ad M => [.int (M 42 0), .ref (ad 43), .ref (ad 44), .ref (ad 45), .ref (ad 46), .ref (ad 47), .ref (ad 48), .ref (ad 49), .ref (ad 50), .ref (ad 51), .ref (ad 52), .int (M 42 11), .ref (ad 53), .int (M 42 13), .ref (ad 54), .ref (ad 55), .int (M 42 16), .int (M 42 17), .int (M 42 18), .int (M 42 19), .ref (ad 56), .int (M 42 21), .int (M 42 22), .ref (ad 57), .ref (ad 58), .ref (ad 59), .ref (ad 60), .ref (ad 61), .ref (ad 62), .ref (ad 63), .ref (ad 64), .ref (ad 65), .ref (ad 66), .int (M 42 33), .int (M 42 34)], fun _ _ _ _ => ⟨rfl, rfl, fun _ => rfl⟩⟩
theorem zR_42_20 : zFr 7 42 20 56 := ⟨fun ad M => [.int (M 42 0), .ref (ad 43), .ref (ad 44), .ref (ad 45), .ref (ad 46), .ref (ad 47), .ref (ad 48), .ref (ad 49), .ref (ad 50), .ref (ad 51), .ref (ad 52), .int (M 42 11), .ref (ad 53), .int (M 42 13), .ref (ad 54), .ref (ad 55), .int (M 42 16), .int (M 42 17), .int (M 42 18), .int (M 42 19), .ref (ad 56), .int (M 42 21), .int (M 42 22), .ref (ad 57), .ref (ad 58), .ref (ad 59), .ref (ad 60), .ref (ad 61), .ref (ad 62), .ref (ad 63), .ref (ad 64), .ref (ad 65), .ref (ad 66), .int (M 42 33), .int (M 42 34)], fun _ _ _ _ => ⟨rfl, rfl⟩⟩
theorem zF_42_21 : zFi 7 42 21 := ⟨fun ad M => [.int (M 42 0), .ref (ad 43), .ref (ad 44), .ref (ad 45), .ref (ad 46), .ref (ad 47), .ref (ad 48), .ref (ad 49), .ref (ad 50), .ref (ad 51), .ref (ad 52), .int (M 42 11), .ref (ad 53), .int (M 42 13), .ref (ad 54), .ref (ad 55), .int (M 42 16), .int (M 42 17), .int (M 42 18), .int (M 42 19), .ref (ad 56), .int (M 42 21), .int (M 42 22), .ref (ad 57), .ref (ad 58), .ref (ad 59), .ref (ad 60), .ref (ad 61), .ref (ad 62), .ref (ad 63), .ref (ad 64), .ref (ad 65), .ref (ad 66), .int (M 42 33), .int (M 42 34)], fun _ _ _ _ => ⟨rfl, rfl, fun _ => rfl⟩⟩
theorem zF_42_22 : zFi 7 42 22 := ⟨fun ad M => [.int (M 42 0), .ref (ad 43), .ref (ad 44), .ref (ad 45), .ref (ad 46), .ref (ad 47), .ref (ad 48), .ref (ad 49), .ref (ad 50), .ref (ad 51), .ref (ad 52), .int (M 42 11), .ref (ad 53), .int (M 42 13), .ref (ad 54), .ref (ad 55), .int (M 42 16), .int (M 42 17), .int (M 42 18), .int (M 42 19), .ref (ad 56), .int (M 42 21), .int (M 42 22), .ref (ad 57), .ref (ad 58), .ref (ad 59), .ref (ad 60), .ref (ad 61), .ref (ad 62), .ref (ad 63), .ref (ad 64), .ref (ad 65), .ref (ad 66), .int (M 42 33), .int (M 42 34)], fun _ _ _ _ => ⟨rfl, rfl, fun _ => rfl⟩⟩
theorem zR_42_23 : zFr 7 42 23 57 := ⟨fun ad M => [.int (M 42 0), .ref (ad 43), .ref (ad 44), .ref (ad 45), .ref (ad 46), .ref (ad 47), .ref (ad 48), .ref (ad 49), .ref (ad 50), .ref (ad 51), .ref (ad 52), .int (M 42 11), .ref (ad 53), .int (M 42 13), .ref (ad 54), .ref (ad 55), .int (M 42 16), .int (M 42 17), .int (M 42 18), .int (M 42 19), .ref (ad 56), .int (M 42 21), .int (M 42 22), .ref (ad 57), .ref (ad 58), .ref (ad 59), .ref (ad 60), .ref (ad 61), .ref (ad 62), .ref (ad 63), .ref (ad 64), .ref (ad 65), .ref (ad 66), .int (M 42 33), .int (M 42 34)], fun _ _ _ _ => ⟨rfl, rfl⟩⟩
theorem zR_42_24 : zFr 7 42 24 58 := ⟨fun ad M => [.int (M 42 0), .ref (ad 43), .ref (ad 44), .ref (ad 45), .ref (ad 46), .ref (ad 47), .ref (ad 48), .ref (ad 49), .ref (ad 50), .ref (ad 51), .ref (ad 52), .int (M 42 11), .ref (ad 53), .int (M 42 13), .ref (ad 54), .ref (ad 55), .int (M 42 16), .int (M 42 17), .int (M 42 18), .int (M 42 19), .ref (ad 56), .int (M 42 21), .int (M 42 22), .ref (ad 57), .ref (ad 58), .ref (ad 59), .ref (ad 60), .ref (ad 61), .ref (ad 62), .ref (ad 63), .ref (ad 64), .ref (ad 65), .ref (ad 66), .int (M 42 33), .int (M 42 34)], fun _ _ _ _ => ⟨rfl, rfl⟩⟩
theorem zR_42_25 : zFr 7 42 25 59 := ⟨fun ad M => [.int (M 42 0), .ref (ad 43), .ref (ad 44), .ref (ad 45), .ref (ad 46), .ref (ad 47), .ref (ad 48), .ref (ad 49), .ref (ad 50), .ref (ad 51), .ref (ad 52), .int (M 42 11), .ref (ad 53), .int (M 42 13), .ref (ad 54), .ref (ad 55), .int (M 42 16), .int (M 42 17), .int (M 42 18), .int (M 42 19), .ref (ad 56), .int (M 42 21), .int (M 42 22), .ref (ad 57), .ref (ad 58), .ref (ad 59), .ref (ad 60), .ref (ad 61), .ref (ad 62), .ref (ad 63), .ref (ad 64), .ref (ad 65), .ref (ad 66), .int (M 42 33), .int (M 42 34)], fun _ _ _ _ => ⟨rfl, rfl⟩⟩
theorem zR_42_26 : zFr 7 42 26 60 := ⟨fun ad M => [.int (M 42 0), .ref (ad 43), .ref (ad 44), .ref (ad 45), .ref (ad 46), .ref (ad 47), .ref (ad 48), .ref (ad 49), .ref (ad 50), .ref (ad 51), .ref (ad 52), .int (M 42 11), .ref (ad 53), .int (M 42 13), .ref (ad 54), .ref (ad 55), .int (M 42 16), .int (M 42 17), .int (M 42 18), .int (M 42 19), .ref (ad 56), .int (M 42 21), .int (M 42 22), .ref (ad 57), .ref (ad 58), .ref (ad 59), .ref (ad 60), .ref (ad 61), .ref (ad 62), .ref (ad 63), .ref (ad 64), .ref (ad 65), .ref (ad 66), .int (M 42 33), .int (M 42 34)], fun _ _ _ _ => ⟨rfl, rfl⟩⟩
theorem zR_42_27 : zFr 7 42 27 61 := ⟨fun ad M => [.int (M 42 0), .ref (ad 43), .ref (ad 44), .ref (ad 45), .ref (ad 46), .ref (ad 47), .ref (ad 48), .ref (ad 49), .ref (ad 50), .ref (ad 51), .ref (ad 52), .int (M 42 11), .ref (ad 53), .int (M 42 13), .ref (ad 54), .ref (ad 55), .int (M 42 16), .int (M 42 17), .int (M 42 18), .int (M 42 19), .ref (ad 56), .int (M 42 21), .int (M 42 22), .ref (ad 57), .ref (ad 58), .ref (ad 59), .ref (ad 60), .ref (ad 61), .ref (ad 62), .ref (ad 63), .ref (ad 64), .ref (ad 65), .ref (ad 66), .int (M 42 33), .int (M 42 34)], fun _ _ _ _ => ⟨rfl, rfl⟩⟩
theorem zR_42_28 : zFr 7 42 28 62 := ⟨fun ad M => [.int (M 42 0), .ref (ad 43), .ref (ad 44), .ref (ad 45), .ref (ad 46), .ref (ad 47), .ref (ad 48), .ref (ad 49), .ref (ad 50), .ref (ad 51), .ref (ad 52), .int (M 42 11), .ref (ad 53), .int (M 42 13), .ref (ad 54), .ref (ad 55), .int (M 42 16), .int (M 42 17), .int (M 42 18), .int (M 42 19), .ref (ad 56), .int (M 42 21), .int (M 42 22), .ref (ad 57), .ref (ad 58), .ref (ad 59), .ref (ad 60), .ref (ad 61), .ref (ad 62), .ref (ad 63), .ref (ad 64), .ref (ad 65), .ref (ad 66), .int (M 42 33), .int (M 42 34)], fun _ _ _ _ => ⟨rfl, rfl⟩⟩
theorem zR_42_29 : zFr 7 42 29 63 := ⟨fun ad M => [.int (M 42 0), .ref (ad 43), .ref (ad 44), .ref (ad 45), .ref (ad 46), .ref (ad 47), .ref (ad 48), .ref (ad 49), .ref (ad 50), .ref (ad 51), .ref (ad 52), .int (M 42 11), .ref (ad 53), .int (M 42 13), .ref (ad 54), .ref (ad 55), .int (M 42 16), .int (M 42 17), .int (M 42 18), .int (M 42 19), .ref (ad 56), .int (M 42 21), .int (M 42 22), .ref (ad 57), .ref (ad 58), .ref (ad 59), .ref (ad 60), .ref (ad 61), .ref (ad 62), .ref (ad 63), .ref (ad 64), .ref (ad 65), .ref (ad 66), .int (M 42 33), .int (M 42 34)], fun _ _ _ _ => ⟨rfl, rfl⟩⟩
theorem zR_42_30 : zFr 7 42 30 64 := ⟨fun ad M => [.int (M 42 0), .ref (ad 43), .ref (ad 44), .ref (ad 45), .ref (ad 46), .ref (ad 47), .ref (ad 48), .ref (ad 49), .ref (ad 50), .ref (ad 51), .ref (ad 52), .int (M 42 11), .ref (ad 53), .int (M 42 13), .ref (ad 54), .ref (ad 55), .int (M 42 16), .int (M 42 17), .int (M 42 18), .int (M 42 19), .ref (ad 56), .int (M 42 21), .int (M 42 22), .ref (ad 57), .ref (ad 58), .ref (ad 59), .ref (ad 60), .ref (ad 61), .ref (ad 62), .ref (ad 63), .ref (ad 64), .ref (ad 65), .ref (ad 66), .int (M 42 33), .int (M 42 34)], fun _ _ _ _ => ⟨rfl, rfl⟩⟩
theorem zR_42_31 : zFr 7 42 31 65 := ⟨fun ad M => [.int (M 42 0), .ref (ad 43), .ref (ad 44), .ref (ad 45), .ref (ad 46), .ref (ad 47), .ref (ad 48), .ref (ad 49), .ref (ad 50), .ref (ad 51), .ref (ad 52), .int (M 42 11), .ref (ad 53), .int (M 42 13), .ref (ad 54), .ref (ad 55), .int (M 42 16), .int (M 42 17), .int (M 42 18), .int (M 42 19), .ref (ad 56), .int (M 42 21), .int (M 42 22), .ref (ad 57), .ref (ad 58), .ref (ad 59), .ref (ad 60), .ref (ad 61), .ref (ad 62), .ref (ad 63), .ref (ad 64), .ref (ad 65), .ref (ad 66), .int (M 42 33), .int (M 42 34)], fun _ _ _ _ => ⟨rfl, rfl⟩⟩
theorem zR_42_32 : zFr 7 42 32 66 := ⟨fun ad M => [.int (M 42 0), .ref (ad 43), .ref (ad 44), .ref (ad 45), .ref (ad 46), .ref (ad 47), .ref (ad 48), .ref (ad 49), .ref (ad 50), .ref (ad 51), .ref (ad 52), .int (M 42 11), .ref (ad 53), .int (M 42 13), .ref (ad 54), .ref (ad 55), .int (M 42 16), .int (M 42 17), .int (M 42 18), .int (M 42 19), .ref (ad 56), .int (M 42 21), .int (M 42 22), .ref (ad 57), .ref (ad 58), .ref (ad 59), .ref (ad 60), .ref (ad 61), .ref (ad 62), .ref (ad 63), .ref (ad 64), .ref (ad 65), .ref (ad 66), .int (M 42 33), .int (M 42 34)], fun _ _ _ _ => ⟨rfl, rfl⟩⟩
theorem zF_42_33 : zFi 7 42 33 := ⟨fun ad M => [.int (M 42 0), .ref (ad 43), .ref (ad 44), .ref (ad 45), .ref (ad 46), .ref (ad 47), .ref (ad 48), .ref (ad 49), .ref (ad 50), .ref (ad 51), .ref (ad 52), .int (M 42 11), .ref (ad 53), .int (M 42 13), .ref (ad 54), .ref (ad 55), .int (M 42 16), .int (M 42 17), .int (M 42 18), .int (M 42 19), .ref (ad 56), .int (M 42 21), .int (M 42 22), .ref (ad 57), .ref (ad 58), .ref (ad 59), .ref (ad 60), .ref (ad 61), .ref (ad 62), .ref (ad 63), .ref (ad 64), .ref (ad 65), .ref (ad 66), .int (M 42 33), .int (M 42 34)], fun _ _ _ _ => ⟨rfl, rfl, fun _ => rfl⟩⟩
theorem zF_42_34 : zFi 7 42 34 := ⟨fun ad M => [.int (M 42 0), .ref (ad 43), .ref (ad 44), .ref (ad 45), .ref (ad 46), .ref (ad 47), .ref (ad 48), .ref (ad 49), .ref (ad 50), .ref (ad 51), .ref (ad 52), .int (M 42 11), .ref (ad 53), .int (M 42 13), .ref (ad 54), .ref (ad 55), .int (M 42 16), .int (M 42 17), .int (M 42 18), .int (M 42 19), .ref (ad 56), .int (M 42 21), .int (M 42 22), .ref (ad 57), .ref (ad 58), .ref (ad 59), .ref (ad 60), .ref (ad 61), .ref (ad 62), .ref (ad 63), .ref (ad 64), .ref (ad 65), .ref (ad 66), .int (M 42 33), .int (M 42 34)], fun _ _ _ _ => ⟨rfl, rfl, fun _ => rfl⟩⟩
theorem zIY_1 {b : Nat} (h : isY b) : zRow (b + 1) 8 := by
  rcases h with rfl | rfl | rfl | rfl
  · exact ⟨⟨8, fun _ => rfl⟩, fun _ _ _ _ => ⟨rfl, fun _ => rfl⟩⟩
  · exact ⟨⟨14, fun _ => rfl⟩, fun _ _ _ _ => ⟨rfl, fun _ => rfl⟩⟩
  · exact ⟨⟨20, fun _ => rfl⟩, fun _ _ _ _ => ⟨rfl, fun _ => rfl⟩⟩
  · exact ⟨⟨26, fun _ => rfl⟩, fun _ _ _ _ => ⟨rfl, fun _ => rfl⟩⟩
theorem zIY_2 {b : Nat} (h : isY b) : zRow (b + 2) 8 := by
  rcases h with rfl | rfl | rfl | rfl
  · exact ⟨⟨9, fun _ => rfl⟩, fun _ _ _ _ => ⟨rfl, fun _ => rfl⟩⟩
  · exact ⟨⟨15, fun _ => rfl⟩, fun _ _ _ _ => ⟨rfl, fun _ => rfl⟩⟩
  · exact ⟨⟨21, fun _ => rfl⟩, fun _ _ _ _ => ⟨rfl, fun _ => rfl⟩⟩
  · exact ⟨⟨27, fun _ => rfl⟩, fun _ _ _ _ => ⟨rfl, fun _ => rfl⟩⟩
theorem zIY_3 {b : Nat} (h : isY b) : zRow (b + 3) 8 := by
  rcases h with rfl | rfl | rfl | rfl
  · exact ⟨⟨10, fun _ => rfl⟩, fun _ _ _ _ => ⟨rfl, fun _ => rfl⟩⟩
  · exact ⟨⟨16, fun _ => rfl⟩, fun _ _ _ _ => ⟨rfl, fun _ => rfl⟩⟩
  · exact ⟨⟨22, fun _ => rfl⟩, fun _ _ _ _ => ⟨rfl, fun _ => rfl⟩⟩
  · exact ⟨⟨28, fun _ => rfl⟩, fun _ _ _ _ => ⟨rfl, fun _ => rfl⟩⟩
theorem zIY_4 {b : Nat} (h : isY b) : zRow (b + 4) 8 := by
  rcases h with rfl | rfl | rfl | rfl
  · exact ⟨⟨11, fun _ => rfl⟩, fun _ _ _ _ => ⟨rfl, fun _ => rfl⟩⟩
  · exact ⟨⟨17, fun _ => rfl⟩, fun _ _ _ _ => ⟨rfl, fun _ => rfl⟩⟩
  · exact ⟨⟨23, fun _ => rfl⟩, fun _ _ _ _ => ⟨rfl, fun _ => rfl⟩⟩
  · exact ⟨⟨29, fun _ => rfl⟩, fun _ _ _ _ => ⟨rfl, fun _ => rfl⟩⟩
theorem zIY_5 {b : Nat} (h : isY b) : zRow (b + 5) 8 := by
  rcases h with rfl | rfl | rfl | rfl
  · exact ⟨⟨12, fun _ => rfl⟩, fun _ _ _ _ => ⟨rfl, fun _ => rfl⟩⟩
  · exact ⟨⟨18, fun _ => rfl⟩, fun _ _ _ _ => ⟨rfl, fun _ => rfl⟩⟩
  · exact ⟨⟨24, fun _ => rfl⟩, fun _ _ _ _ => ⟨rfl, fun _ => rfl⟩⟩
  · exact ⟨⟨30, fun _ => rfl⟩, fun _ _ _ _ => ⟨rfl, fun _ => rfl⟩⟩
theorem zIY_6 {b : Nat} (h : isY b) : zRow (b + 6) 6 := by
  rcases h with rfl | rfl | rfl | rfl
  · exact ⟨⟨13, fun _ => rfl⟩, fun _ _ _ _ => ⟨rfl, fun _ => rfl⟩⟩
  · exact ⟨⟨19, fun _ => rfl⟩, fun _ _ _ _ => ⟨rfl, fun _ => rfl⟩⟩
  · exact ⟨⟨25, fun _ => rfl⟩, fun _ _ _ _ => ⟨rfl, fun _ => rfl⟩⟩
  · exact ⟨⟨31, fun _ => rfl⟩, fun _ _ _ _ => ⟨rfl, fun _ => rfl⟩⟩
theorem zOY {b : Nat} (h : isY b) : zOb 5 b := by
  rcases h with rfl | rfl | rfl | rfl
  · exact ⟨fun ad M => [.int (M 14 0), .ref (ad 15), .ref (ad 16), .ref (ad 17), .ref (ad 18), .ref (ad 19), .ref (ad 20), .int (M 14 7), .int (M 14 8), .int (M 14 9), .int (M 14 10), .int (M 14 11), .int (M 14 12)], fun _ _ _ _ => rfl⟩
  · exact ⟨fun ad M => [.int (M 21 0), .ref (ad 22), .ref (ad 23), .ref (ad 24), .ref (ad 25), .ref (ad 26), .ref (ad 27), .int (M 21 7), .int (M 21 8), .int (M 21 9), .int (M 21 10), .int (M 21 11), .int (M 21 12)], fun _ _ _ _ => rfl⟩
  · exact ⟨fun ad M => [.int (M 28 0), .ref (ad 29), .ref (ad 30), .ref (ad 31), .ref (ad 32), .ref (ad 33), .ref (ad 34), .int (M 28 7), .int (M 28 8), .int (M 28 9), .int (M 28 10), .int (M 28 11), .int (M 28 12)], fun _ _ _ _ => rfl⟩
  · exact ⟨fun ad M => [.int (M 35 0), .ref (ad 36), .ref (ad 37), .ref (ad 38), .ref (ad 39), .ref (ad 40), .ref (ad 41), .int (M 35 7), .int (M 35 8), .int (M 35 9), .int (M 35 10), .int (M 35 11), .int (M 35 12)], fun _ _ _ _ => rfl⟩
theorem zFY_0 {b : Nat} (h : isY b) : zFi 5 b 0 := by
  rcases h with rfl | rfl | rfl | rfl
  · exact ⟨fun ad M => [.int (M 14 0), .ref (ad 15), .ref (ad 16), .ref (ad 17), .ref (ad 18), .ref (ad 19), .ref (ad 20), .int (M 14 7), .int (M 14 8), .int (M 14 9), .int (M 14 10), .int (M 14 11), .int (M 14 12)], fun _ _ _ _ => ⟨rfl, rfl, fun _ => rfl⟩⟩
  · exact ⟨fun ad M => [.int (M 21 0), .ref (ad 22), .ref (ad 23), .ref (ad 24), .ref (ad 25), .ref (ad 26), .ref (ad 27), .int (M 21 7), .int (M 21 8), .int (M 21 9), .int (M 21 10), .int (M 21 11), .int (M 21 12)], fun _ _ _ _ => ⟨rfl, rfl, fun _ => rfl⟩⟩
  · exact ⟨fun ad M => [.int (M 28 0), .ref (ad 29), .ref (ad 30), .ref (ad 31), .ref (ad 32), .ref (ad 33), .ref (ad 34), .int (M 28 7), .int (M 28 8), .int (M 28 9), .int (M 28 10), .int (M 28 11), .int (M 28 12)], fun _ _ _ _ => ⟨rfl, rfl, fun _ => rfl⟩⟩
  · exact ⟨fun ad M => [.int (M 35 0), .ref (ad 36), .ref (ad 37), .ref (ad 38), .ref (ad 39), .ref (ad 40), .ref (ad 41), .int (M 35 7), .int (M 35 8), .int (M 35 9), .int (M 35 10), .int (M 35 11), .int (M 35 12)], fun _ _ _ _ => ⟨rfl, rfl, fun _ => rfl⟩⟩
theorem zRY_1 {b : Nat} (h : isY b) : zFr 5 b 1 (b + 1) := by
  rcases h with rfl | rfl | rfl | rfl
  · exact ⟨fun ad M => [.int (M 14 0), .ref (ad 15), .ref (ad 16), .ref (ad 17), .ref (ad 18), .ref (ad 19), .ref (ad 20), .int (M 14 7), .int (M 14 8), .int (M 14 9), .int (M 14 10), .int (M 14 11), .int (M 14 12)], fun _ _ _ _ => ⟨rfl, rfl⟩⟩
  · exact ⟨fun ad M => [.int (M 21 0), .ref (ad 22), .ref (ad 23), .ref (ad 24), .ref (ad 25), .ref (ad 26), .ref (ad 27), .int (M 21 7), .int (M 21 8), .int (M 21 9), .int (M 21 10), .int (M 21 11), .int (M 21 12)], fun _ _ _ _ => ⟨rfl, rfl⟩⟩
  · exact ⟨fun ad M => [.int (M 28 0), .ref (ad 29), .ref (ad 30), .ref (ad 31), .ref (ad 32), .ref (ad 33), .ref (ad 34), .int (M 28 7), .int (M 28 8), .int (M 28 9), .int (M 28 10), .int (M 28 11), .int (M 28 12)], fun _ _ _ _ => ⟨rfl, rfl⟩⟩
  · exact ⟨fun ad M => [.int (M 35 0), .ref (ad 36), .ref (ad 37), .ref (ad 38), .ref (ad 39), .ref (ad 40), .ref (ad 41), .int (M 35 7), .int (M 35 8), .int (M 35 9), .int (M 35 10), .int (M 35 11), .int (M 35 12)], fun _ _ _ _ => ⟨rfl, rfl⟩⟩
theorem zRY_2 {b : Nat} (h : isY b) : zFr 5 b 2 (b + 2) := by
  rcases h with rfl | rfl | rfl | rfl
  · exact ⟨fun ad M => [.int (M 14 0), .ref (ad 15), .ref (ad 16), .ref (ad 17), .ref (ad 18), .ref (ad 19), .ref (ad 20), .int (M 14 7), .int (M 14 8), .int (M 14 9), .int (M 14 10), .int (M 14 11), .int (M 14 12)], fun _ _ _ _ => ⟨rfl, rfl⟩⟩
  · exact ⟨fun ad M => [.int (M 21 0), .ref (ad 22), .ref (ad 23), .ref (ad 24), .ref (ad 25), .ref (ad 26), .ref (ad 27), .int (M 21 7), .int (M 21 8), .int (M 21 9), .int (M 21 10), .int (M 21 11), .int (M 21 12)], fun _ _ _ _ => ⟨rfl, rfl⟩⟩
  · exact ⟨fun ad M => [.int (M 28 0), .ref (ad 29), .ref (ad 30), .ref (ad 31), .ref (ad 32), .ref (ad 33), .ref (ad 34), .int (M 28 7), .int (M 28 8), .int (M 28 9), .int (M 28 10), .int (M 28 11), .int (M 28 12)], fun _ _ _ _ => ⟨rfl, rfl⟩⟩
  · exact ⟨fun ad M => [.int (M 35 0), .ref (ad 36), .ref (ad 37), .ref (ad 38), .ref (ad 39), .ref (ad 40), .ref (ad 41), .int (M 35 7), .int (M 35 8), .int (M 35 9), .int (M 35 10), .int (M 35 11), .int (M 35 12)], fun _ _ _ _ => ⟨rfl, rfl⟩⟩
theorem zRY_3 {b : Nat} (h : isY b) : zFr 5 b 3 (b + 3) := by
  rcases h with rfl | rfl | rfl | rfl
  · exact ⟨fun ad M => [.int (M 14 0), .ref (ad 15), .ref (ad 16), .ref (ad 17), .ref (ad 18), .ref (ad 19), .ref (ad 20), .int (M 14 7), .int (M 14 8), .int (M 14 9), .int (M 14 10), .int (M 14 11), .int (M 14 12)], fun _ _ _ _ => ⟨rfl, rfl⟩⟩
  · exact ⟨fun ad M => [.int (M 21 0), .ref (ad 22), .ref (ad 23), .ref (ad 24), .ref (ad 25), .ref (ad 26), .ref (ad 27), .int (M 21 7), .int (M 21 8), .int (M 21 9), .int (M 21 10), .int (M 21 11), .int (M 21 12)], fun _ _ _ _ => ⟨rfl, rfl⟩⟩
  · exact ⟨fun ad M => [.int (M 28 0), .ref (ad 29), .ref (ad 30), .ref (ad 31), .ref (ad 32), .ref (ad 33), .ref (ad 34), .int (M 28 7), .int (M 28 8), .int (M 28 9), .int (M 28 10), .int (M 28 11), .int (M 28 12)], fun _ _ _ _ => ⟨rfl, rfl⟩⟩
  · exact ⟨fun ad M => [.int (M 35 0), .ref (ad 36), .ref (ad 37), .ref (ad 38), .ref (ad 39), .ref (ad 40), .ref (ad 41), .int (M 35 7), .int (M 35 8), .int (M 35 9), .int (M 35 10), .int (M 35 11), .int (M 35 12)], fun _ _ _ _ => ⟨rfl, rfl⟩⟩
theorem zRY_4 {b : Nat} (h : isY b) : zFr 5 b 4 (b + 4) := by
  rcases h with rfl | rfl | rfl | rfl
  · exact ⟨fun ad M => [.int (M 14 0), .ref (ad 15), .ref (ad 16), .ref (ad 17), .ref (ad 18), .ref (ad 19), .ref (ad 20), .int (M 14 7), .int (M 14 8), .int (M 14 9), .int (M 14 10), .int (M 14 11), .int (M 14 12)], fun _ _ _ _ => ⟨rfl, rfl⟩⟩
  · exact ⟨fun ad M => [.int (M 21 0), .ref (ad 22), .ref (ad 23), .ref (ad 24), .ref (ad 25), .ref (ad 26), .ref (ad 27), .int (M 21 7), .int (M 21 8), .int (M 21 9), .int (M 21 10), .int (M 21 11), .int (M 21 12)], fun _ _ _ _ => ⟨rfl, rfl⟩⟩
  · exact ⟨fun ad M => [.int (M 28 0), .ref (ad 29), .ref (ad 30), .ref (ad 31), .ref (ad 32), .ref (ad 33), .ref (ad 34), .int (M 28 7), .int (M 28 8), .int (M 28 9), .int (M 28 10), .int (M 28 11), .int (M 28 12)], fun _ _ _ _ => ⟨rfl, rfl⟩⟩
  · exact ⟨fun ad M => [.int (M 35 0), .ref (ad 36), .ref (ad 37), .ref (ad 38), .ref (ad 39), .ref (ad 40), .ref (ad 41), .int (M 35 7), .int (M 35 8), .int (M 35 9), .int (M 35 10), .int (M 35 11), .int (M 35 12)], fun _ _ _ _ => ⟨rfl, rfl⟩⟩
theorem zRY_5 {b : Nat} (h : isY b) : zFr 5 b 5 (b + 5) := by
  rcases h with rfl | rfl | rfl | rfl
  · exact ⟨fun ad M => [.int (M 14 0), .ref (ad 15), .ref (ad 16), .ref (ad 17), .ref (ad 18), .ref (ad 19), .ref (ad 20), .int (M 14 7), .int (M 14 8), .int (M 14 9), .int (M 14 10), .int (M 14 11), .int (M 14 12)], fun _ _ _ _ => ⟨rfl, rfl⟩⟩
  · exact ⟨fun ad M => [.int (M 21 0), .ref (ad 22), .ref (ad 23), .ref (ad 24), .ref (ad 25), .ref (ad 26), .ref (ad 27), .int (M 21 7), .int (M 21 8), .int (M 21 9), .int (M 21 10), .int (M 21 11), .int (M 21 12)], fun _ _ _ _ => ⟨rfl, rfl⟩⟩
  · exact ⟨fun ad M => [.int (M 28 0), .ref (ad 29), .ref (ad 30), .ref (ad 31), .ref (ad 32), .ref (ad 33), .ref (ad 34), .int (M 28 7), .int (M 28 8), .int (M 28 9), .int (M 28 10), .int (M 28 11), .int (M 28 12)], fun _ _ _ _ => ⟨rfl, rfl⟩⟩
  · exact ⟨fun ad M => [.int (M 35 0), .ref (ad 36), .ref (ad 37), .ref (ad 38), .ref (ad 39), .ref (ad 40), .ref (ad 41), .int (M 35 7), .int (M 35 8), .int (M 35 9), .int (M 35 10), .int (M 35 11), .int (M 35 12)], fun _ _ _ _ => ⟨rfl, rfl⟩⟩
theorem zRY_6 {b : Nat} (h : isY b) : zFr 5 b 6 (b + 6) := by
  rcases h with rfl | rfl | rfl | rfl
  · exact ⟨fun ad M => [.int (M 14 0), .ref (ad 15), .ref (ad 16), .ref (ad 17), .ref (ad 18), .ref (ad 19), .ref (ad 20), .int (M 14 7), .int (M 14 8), .int (M 14 9), .int (M 14 10), .int (M 14 11), .int (M 14 12)], fun _ _ _ _ => ⟨rfl, rfl⟩⟩
  · exact ⟨fun ad M => [.int (M 21 0), .ref (ad 22), .ref (ad 23), .ref (ad 24), .ref (ad 25), .ref (ad 26), .ref (ad 27), .int (M 21 7), .int (M 21 8), .int (M 21 9), .int (M 21 10), .int (M 21 11), .int (M 21 12)], fun _ _ _ _ => ⟨rfl, rfl⟩⟩
  · exact ⟨fun ad M => [.int (M 28 0), .ref (ad 29), .ref (ad 30), .ref (ad 31), .ref (ad 32), .ref (ad 33), .ref (ad 34), .int (M 28 7), .int (M 28 8), .int (M 28 9), .int (M 28 10), .int (M 28 11), .int (M 28 12)], fun _ _ _ _ => ⟨rfl, rfl⟩⟩
  · exact ⟨fun ad M => [.int (M 35 0), .ref (ad 36), .ref (ad 37), .ref (ad 38), .ref (ad 39), .ref (ad 40), .ref (ad 41), .int (M 35 7), .int (M 35 8), .int (M 35 9), .int (M 35 10), .int (M 35 11), .int (M 35 12)], fun _ _ _ _ => ⟨rfl, rfl⟩⟩
theorem zFY_7 {b : Nat} (h : isY b) : zFi 5 b 7 := by
  rcases h with rfl | rfl | rfl | rfl
  · exact ⟨fun ad M => [.int (M 14 0), .ref (ad 15), .ref (ad 16), .ref (ad 17), .ref (ad 18), .ref (ad 19), .ref (ad 20), .int (M 14 7), .int (M 14 8), .int (M 14 9), .int (M 14 10), .int (M 14 11), .int (M 14 12)], fun _ _ _ _ => ⟨rfl, rfl, fun _ => rfl⟩⟩
  · exact ⟨fun ad M => [.int (M 21 0), .ref (ad 22), .ref (ad 23), .ref (ad 24), .ref (ad 25), .ref (ad 26), .ref (ad 27), .int (M 21 7), .int (M 21 8), .int (M 21 9), .int (M 21 10), .int (M 21 11), .int (M 21 12)], fun _ _ _ _ => ⟨rfl, rfl, fun _ => rfl⟩⟩
  · exact ⟨fun ad M => [.int (M 28 0), .ref (ad 29), .ref (ad 30), .ref (ad 31), .ref (ad 32), .ref (ad 33), .ref (ad 34), .int (M 28 7), .int (M 28 8), .int (M 28 9), .int (M 28 10), .int (M 28 11), .int (M 28 12)], fun _ _ _ _ => ⟨rfl, rfl, fun _ => rfl⟩⟩
  · exact ⟨fun ad M => [.int (M 35 0), .ref (ad 36), .ref (ad 37), .ref (ad 38), .ref (ad 39), .ref (ad 40), .ref (ad 41), .int (M 35 7), .int (M 35 8), .int (M 35 9), .int (M 35 10), .int (M 35 11), .int (M 35 12)], fun _ _ _ _ => ⟨rfl, rfl, fun _ => rfl⟩⟩
theorem zFY_8 {b : Nat} (h : isY b) : zFi 5 b 8 := by
  rcases h with rfl | rfl | rfl | rfl
  · exact ⟨fun ad M => [.int (M 14 0), .ref (ad 15), .ref (ad 16), .ref (ad 17), .ref (ad 18), .ref (ad 19), .ref (ad 20), .int (M 14 7), .int (M 14 8), .int (M 14 9), .int (M 14 10), .int (M 14 11), .int (M 14 12)], fun _ _ _ _ => ⟨rfl, rfl, fun _ => rfl⟩⟩
  · exact ⟨fun ad M => [.int (M 21 0), .ref (ad 22), .ref (ad 23), .ref (ad 24), .ref (ad 25), .ref (ad 26), .ref (ad 27), .int (M 21 7), .int (M 21 8), .int (M 21 9), .int (M 21 10), .int (M 21 11), .int (M 21 12)], fun _ _ _ _ => ⟨rfl, rfl, fun _ => rfl⟩⟩
  · exact ⟨fun ad M => [.int (M 28 0), .ref (ad 29), .ref (ad 30), .ref (ad 31), .ref (ad 32), .ref (ad 33), .ref (ad 34), .int (M 28 7), .int (M 28 8), .int (M 28 9), .int (M 28 10), .int (M 28 11), .int (M 28 12)], fun _ _ _ _ => ⟨rfl, rfl, fun _ => rfl⟩⟩
  · exact ⟨fun ad M => [.int (M 35 0), .ref (ad 36), .ref (ad 37), .ref (ad 38), .ref (ad 39), .ref (ad 40), .ref (ad 41), .int (M 35 7), .int (M 35 8), .int (M 35 9), .int (M 35 10), .int (M 35 11), .int (M 35 12)], fun _ _ _ _ => ⟨rfl, rfl, fun _ => rfl⟩⟩
theorem zFY_9 {b : Nat} (h : isY b) : zFi 5 b 9 := by
  rcases h with rfl | rfl | rfl | rfl
  · exact ⟨fun ad M => [.int (M 14 0), .ref (ad 15), .ref (ad 16), .ref (ad 17), .ref (ad 18), .ref (ad 19), .ref (ad 20), .int (M 14 7), .int (M 14 8), .int (M 14 9), .int (M 14 10), .int (M 14 11), .int (M 14 12)], fun _ _ _ _ => ⟨rfl, rfl, fun _ => rfl⟩⟩
  · exact ⟨fun ad M => [.int (M 21 0), .ref (ad 22), .ref (ad 23), .ref (ad 24), .ref (ad 25), .ref (ad 26), .ref (ad 27), .int (M 21 7), .int (M 21 8), .int (M 21 9), .int (M 21 10), .int (M 21 11), .int (M 21 12)], fun _ _ _ _ => ⟨rfl, rfl, fun _ => rfl⟩⟩
  · exact ⟨fun ad M => [.int (M 28 0), .ref (ad 29), .ref (ad 30), .ref (ad 31), .ref (ad 32), .ref (ad 33), .ref (ad 34), .int (M 28 7), .int (M 28 8), .int (M 28 9), .int (M 28 10), .int (M 28 11), .int (M 28 12)], fun _ _ _ _ => ⟨rfl, rfl, fun _ => rfl⟩⟩
  · exact ⟨fun ad M => [.int (M 35 0), .ref (ad 36), .ref (ad 37), .ref (ad 38), .ref (ad 39), .ref (ad 40), .ref (ad 41), .int (M 35 7), .int (M 35 8), .int (M 35 9), .int (M 35 10), .int (M 35 11), .int (M 35 12)], fun _ _ _ _ => ⟨rfl, rfl, fun _ => rfl⟩⟩
theorem zFY_10 {b : Nat} (h : isY b) : zFi 5 b 10 := by
  rcases h with rfl | rfl | rfl | rfl
  · exact ⟨fun ad M => [.int (M 14 0), .ref (ad 15), .ref (ad 16), .ref (ad 17), .ref (ad 18), .ref (ad 19), .ref (ad 20), .int (M 14 7), .int (M 14 8), .int (M 14 9), .int (M 14 10), .int (M 14 11), .int (M 14 12)], fun _ _ _ _ => ⟨rfl, rfl, fun _ => rfl⟩⟩
  · exact ⟨fun ad M => [.int (M 21 0), .ref (ad 22), .ref (ad 23), .ref (ad 24), .ref (ad 25), .ref (ad 26), .ref (ad 27), .int (M 21 7), .int (M 21 8), .int (M 21 9), .int (M 21 10), .int (M 21 11), .int (M 21 12)], fun _ _ _ _ => ⟨rfl, rfl, fun _ => rfl⟩⟩
  · exact ⟨fun ad M => [.int (M 28 0), .ref (ad 29), .ref (ad 30), .ref (ad 31), .ref (ad 32), .ref (ad 33), .ref (ad 34), .int (M 28 7), .int (M 28 8), .int (M 28 9), .int (M 28 10), .int (M 28 11), .int (M 28 12)], fun _ _ _ _ => ⟨rfl, rfl, fun _ => rfl⟩⟩
  · exact ⟨fun ad M => [.int (M 35 0), .ref (ad 36), .ref (ad 37), .ref (ad 38), .ref (ad 39), .ref (ad 40), .ref (ad 41), .int (M 35 7), .int (M 35 8), .int (M 35 9), .int (M 35 10), .int (M 35 11), .int (M 35 12)], fun _ _ _ _ => ⟨rfl, rfl, fun _ => rfl⟩⟩
theorem zFY_11 {b : Nat} (h : isY b) : zFi 5 b 11 := by
  rcases h with rfl | rfl | rfl | rfl
  · exact ⟨fun ad M => [.int (M 14 0), .ref (ad 15), .ref (ad 16), .ref (ad 17), .ref (ad 18), .ref (ad 19), .ref (ad 20), .int (M 14 7), .int (M 14 8), .int (M 14 9), .int (M 14 10), .int (M 14 11), .int (M 14 12)], fun _ _ _ _ => ⟨rfl, rfl, fun _ => rfl⟩⟩
  · exact ⟨fun ad M => [.int (M 21 0), .ref (ad 22), .ref (ad 23), .ref (ad 24), .ref (ad 25), .ref (ad 26), .ref (ad 27), .int (M 21 7), .int (M 21 8), .int (M 21 9), .int (M 21 10), .int (M 21 11), .int (M 21 12)], fun _ _ _ _ => ⟨rfl, rfl, fun _ => rfl⟩⟩
  · exact ⟨fun ad M => [.int (M 28 0), .ref (ad 29), .ref (ad 30), .ref (ad 31), .ref (ad 32), .ref (ad 33), .ref (ad 34), .int (M 28 7), .int (M 28 8), .int (M 28 9), .int (M 28 10), .int (M 28 11), .int (M 28 12)], fun _ _ _ _ => ⟨rfl, rfl, fun _ => rfl⟩⟩
  · exact ⟨fun ad M => [.int (M 35 0), .ref (ad 36), .ref (ad 37), .ref (ad 38), .ref (ad 39), .ref (ad 40), .ref (ad 41), .int (M 35 7), .int (M 35 8), .int (M 35 9), .int (M 35 10), .int (M 35 11), .int (M 35 12)], fun _ _ _ _ => ⟨rfl, rfl, fun _ => rfl⟩⟩
theorem zFY_12 {b : Nat} (h : isY b) : zFi 5 b 12 := by
  rcases h with rfl | rfl | rfl | rfl
  · exact ⟨fun ad M => [.int (M 14 0), .ref (ad 15), .ref (ad 16), .ref (ad 17), .ref (ad 18), .ref (ad 19), .ref (ad 20), .int (M 14 7), .int (M 14 8), .int (M 14 9), .int (M 14 10), .int (M 14 11), .int (M 14 12)], fun _ _ _ _ => ⟨rfl, rfl, fun _ => rfl⟩⟩
  · exact ⟨fun ad M => [.int (M 21 0), .ref (ad 22), .ref (ad 23), .ref (ad 24), .ref (ad 25), .ref (ad 26), .ref (ad 27), .int (M 21 7), .int (M 21 8), .int (M 21 9), .int (M 21 10), .int (M 21 11), .int (M 21 12)], fun _ _ _ _ => ⟨rfl, rfl, fun _ => rfl⟩⟩
  · exact ⟨fun ad M => [.int (M 28 0), .ref (ad 29), .ref (ad 30), .ref (ad 31), .ref (ad 32), .ref (ad 33), .ref (ad 34), .int (M 28 7), .int (M 28 8), .int (M 28 9), .int (M 28 10), .int (M 28 11), .int (M 28 12)], fun _ _ _ _ => ⟨rfl, rfl, fun _ => rfl⟩⟩
  · exact ⟨fun ad M => [.int (M 35 0), .ref (ad 36), .ref (ad 37), .ref (ad 38), .ref (ad 39), .ref (ad 40), .ref (ad 41), .int (M 35 7), .int (M 35 8), .int (M 35 9), .int (M 35 10), .int (M 35 11), .int (M 35 12)], fun _ _ _ _ => ⟨rfl, rfl, fun _ => rfl⟩⟩
