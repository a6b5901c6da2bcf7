/-! rows over the one world -/
/-- a class of the worlds -/
def zCl (ci : Nat) (C : String) (T : u_T) (N : Nat) : Prop := vwCl[ci]? = some (C, T, N) ∧ (∀ w ∈ u_ws C T N, w ∈ zG) ∧ ∃ ty : Nat → FieldType, (∀ k, k < N → parseFieldDescriptor (T k).2.2.1 = some (ty k)) ∧ ∀ a, a < N → ∀ b, b < N → a ≠ b → (T a).2.1 ≠ (T b).2.1
theorem zC0 : zCl 0 RX0 TX0 3 := ⟨rfl, zu_X0, tyX0, tyX0_ok, nmX0⟩
theorem zC1 : zCl 1 RX2 TX2 5 := ⟨rfl, zu_X2, tyX2, tyX2_ok, nmX2⟩
theorem zC2 : zCl 2 RX4 TX4 1 := ⟨rfl, zu_X4, tyX4, tyX4_ok, nmX4⟩
theorem zC3 : zCl 3 RX5 TX5 5 := ⟨rfl, zu_X5, tyX5, tyX5_ok, nmX5⟩
theorem zC4 : zCl 4 RX6 TX6 1 := ⟨rfl, zu_X6, tyX6, tyX6_ok, nmX6⟩
theorem zC5 : zCl 5 RX7 TX7 13 := ⟨rfl, zu_X7, tyX7, tyX7_ok, nmX7⟩
theorem zC6 : zCl 6 RX8 TX8 8 := ⟨rfl, zu_X8, tyX8, tyX8_ok, nmX8⟩
theorem zC7 : zCl 7 RX9 TX9 35 := ⟨rfl, zu_X9, tyX9, tyX9_ok, nmX9⟩
/-- what is free to a method: the system's cells, and what is new -/
def zA (ad : Nat → Nat) (sz : Nat) : Nat → Prop := fun q => (∃ k, k < 67 ∧ q = ad k) ∨ sz ≤ q
def zNs (ws : List Cond) (U : State) : Prop := ∀ w ∈ ws, va_Nw w U
/-- where a walk stands: the machine, the tables' words, the classes, the addresses -/
def zCx (p : Program) (R : Room) (s : State) (m : MethodId) (args : Array Value) (c : Code) (cells slots : Nat) (cc : ByteArray) (nL : Nat) (own : String) (D : va_G) (cy : Nat → ClassId) (ad : Nat → Nat) (A : Nat → Prop) : Prop :=
  CallFix p m c cc nL s args zG own ∧ va_K D vwCl (zT cy) s ∧ zNs zN s ∧ zInj ad ∧ (∀ q, s.heap.size ≤ q → A q) ∧ (∀ k, k < 67 → A (ad k)) ∧ cells ≤ R.cells ∧ slots ≤ R.slots
def zWd (D : va_G) (cy : Nat → ClassId) (ad : Nat → Nat) (A : Nat → Prop) (s : State) (H : Heap) (locs : List Loc) (M : Mm) (L : Ml) : Prop := va_P D vwCl (zW cy ad M L) H ∧ va_S A s.heap H locs
def zPre (D : va_G) (cy : Nat → ClassId) (ad : Nat → Nat) (sz : Nat) (M : Mm) (L : Ml) (h : Prop) (U : State) : Prop := U.heap.size = sz ∧ va_K D vwCl (zT cy) U ∧ zNs zN U ∧ va_P D vwCl (zW cy ad M L) U.heap ∧ h
def zAt (D : va_G) (cy : Nat → ClassId) (ad : Nat → Nat) (u : Mm × Ml) (t : State) : Prop := va_P D vwCl (zW cy ad u.1 u.2) t.heap
/-- the contract of a method over the one world: an int, a long, nothing -/
def zMi (l : Launch) (y : MethodName) (ws : List Cond) (rm : Room) (D : va_G) (cy : Nat → ClassId) (ad : Nat → Nat) (As : List Value) (wp : Mm → Ml → (Int32 → Mm → Ml → Prop) → Prop) : Prop := ∀ (sz : Nat) (M : Mm) (L : Ml) (post : Int32 → Mm → Ml → Prop), Met l y ws rm (va_Pc As (zPre D cy ad sz M L (wp M L post))) (va_Qi (fun (r : Int32) (u : Mm × Ml) => post r u.1 u.2) (zAt D cy ad) (zA ad sz)) 0 0 (zA ad sz)
def zMl (l : Launch) (y : MethodName) (ws : List Cond) (rm : Room) (D : va_G) (cy : Nat → ClassId) (ad : Nat → Nat) (As : List Value) (wp : Mm → Ml → (Int64 → Mm → Ml → Prop) → Prop) : Prop := ∀ (sz : Nat) (M : Mm) (L : Ml) (post : Int64 → Mm → Ml → Prop), Met l y ws rm (va_Pc As (zPre D cy ad sz M L (wp M L post))) (va_Ql (fun (r : Int64) (u : Mm × Ml) => post r u.1 u.2) (zAt D cy ad) (zA ad sz)) 0 0 (zA ad sz)
def zMv (l : Launch) (y : MethodName) (ws : List Cond) (rm : Room) (D : va_G) (cy : Nat → ClassId) (ad : Nat → Nat) (As : List Value) (wp : Mm → Ml → (Mm → Ml → Prop) → Prop) : Prop := ∀ (sz : Nat) (M : Mm) (L : Ml) (post : Mm → Ml → Prop), Met l y ws rm (va_Pc As (zPre D cy ad sz M L (wp M L post))) (va_Qv (fun (u : Mm × Ml) => post u.1 u.2) (zAt D cy ad) (zA ad sz)) 0 0 (zA ad sz)
/-- loops: what holds if the loop ends in n rounds at the most -/
def zlp {α : Type} (F : (α → Prop) → α → Prop) : Nat → α → Prop
  | 0 => fun _ => False
  | n + 1 => F (zlp F n)
theorem zlp_ok {α : Type} {F : (α → Prop) → α → Prop} (I : α → Prop) (μ : α → Nat) (h : ∀ (K : α → Prop) (s : α), I s → (∀ s', I s' → μ s' < μ s → K s') → F K s) {s : α} (hs : I s) : ∃ n, zlp F n s := by
  have key : ∀ (n : Nat) (s : α), I s → μ s < n → zlp F n s := by
    intro n
    induction n with
    | zero => intro s _ h2; exact absurd h2 (Nat.not_lt_zero _)
    | succ n ih => intro s h1 h2; exact h _ s h1 (fun s' h3 h4 => ih s' h3 (by omega))
  exact ⟨μ s + 1, key _ _ hs (Nat.lt_succ_self _)⟩
section ZR
variable {p : Program} {l : Launch} {e : Env} {R : Room} {s : State} {m : MethodId} {args : Array Value} {below : List Frame} {meth : Method} {c : Code} {cells slots : Nat} {Q : State → Prop} {cc : ByteArray} {nL : Nat} {own : String} {D : va_G} {cy : Nat → ClassId} {ad : Nat → Nat} {A : Nat → Prop}
variable {H : Heap} {locs : List Loc} {M : Mm} {L : Ml} {pc : Nat} {ls : Array Slot} {rest : List Value}
theorem zNs_moved {U : State} (hW : s.WarmedH U.vm) (h : zNs zN s) : zNs zN U := by
  intro w hw
  have h1 := h w hw
  rcases zN_nest w hw with ⟨a, i, b, n, d, g, rfl⟩ | ⟨a, i, x, g, rfl⟩
  · exact va_Nw.warmF hW h1
  · exact va_Nw.warmM hW h1
theorem z_getI {ci k j N index : Nat} {Cn ref : String} {T : u_T} (X : zCx p R s m args c cells slots cc nL own D cy ad A) (hW : zWd D cy ad A s H locs M L) (hC : zCl ci Cn T N) (hF : zFi ci k j) (hj : j < N) (hr : (T j).1 = ref) (hl : Cond.fieldLink own index ref (T j).2.1 (T j).2.2.1 ∈ zG) (hdg : decode cc pc = .ok (.getfield index, 3))
    (kk : W p l e R s m args below meth c H locs cells slots Q (F0 m (pc + 3) ls (.int (M k j) :: rest))) : W p l e R s m args below meth c H locs cells slots Q (F0 m pc ls (.ref (ad k) :: rest)) := by
  obtain ⟨fs, h1⟩ := hF
  obtain ⟨h2, h3, -⟩ := h1 cy ad M L
  exact va_get X.1.1 X.1.2.1 X.1.2.2.2.2 hC.2.1 X.1.2.2.2.1 X.2.1 hW.1 k h2 hC.1 j hj (X.1.2.2.2.2 _ hl) (fun x h => by rw [← hr]; exact h) h3 hdg kk
theorem z_getR {ci k j k2 N index : Nat} {Cn ref : String} {T : u_T} (X : zCx p R s m args c cells slots cc nL own D cy ad A) (hW : zWd D cy ad A s H locs M L) (hC : zCl ci Cn T N) (hF : zFr ci k j k2) (hj : j < N) (hr : (T j).1 = ref) (hl : Cond.fieldLink own index ref (T j).2.1 (T j).2.2.1 ∈ zG) (hdg : decode cc pc = .ok (.getfield index, 3))
    (kk : W p l e R s m args below meth c H locs cells slots Q (F0 m (pc + 3) ls (.ref (ad k2) :: rest))) : W p l e R s m args below meth c H locs cells slots Q (F0 m pc ls (.ref (ad k) :: rest)) := by
  obtain ⟨fs, h1⟩ := hF
  obtain ⟨h2, h3⟩ := h1 cy ad M L
  exact va_get X.1.1 X.1.2.1 X.1.2.2.2.2 hC.2.1 X.1.2.2.2.1 X.2.1 hW.1 k h2 hC.1 j hj (X.1.2.2.2.2 _ hl) (fun x h => by rw [← hr]; exact h) h3 hdg kk
theorem z_getIN {ci k j N index : Nat} {Cn ref host : String} {T : u_T} (X : zCx p R s m args c cells slots cc nL own D cy ad A) (hW : zWd D cy ad A s H locs M L) (hC : zCl ci Cn T N) (hF : zFi ci k j) (hj : j < N) (hr : (T j).1 = ref) (hl : Cond.fieldLinkNest own index ref (T j).2.1 (T j).2.2.1 host ∈ zN) (hdg : decode cc pc = .ok (.getfield index, 3))
    (kk : W p l e R s m args below meth c H locs cells slots Q (F0 m (pc + 3) ls (.int (M k j) :: rest))) : W p l e R s m args below meth c H locs cells slots Q (F0 m pc ls (.ref (ad k) :: rest)) := by
  obtain ⟨fs, h1⟩ := hF
  obtain ⟨h2, h3, -⟩ := h1 cy ad M L
  exact va_getN X.1.1 X.1.2.1 X.1.2.2.2.2 hC.2.1 X.1.2.2.2.1 X.2.1 hW.1 k h2 hC.1 j hj (va_Nw.use rfl (X.2.2.1 _ hl)) (fun x h => by rw [← hr]; exact h) h3 hdg kk
theorem z_getRN {ci k j k2 N index : Nat} {Cn ref host : String} {T : u_T} (X : zCx p R s m args c cells slots cc nL own D cy ad A) (hW : zWd D cy ad A s H locs M L) (hC : zCl ci Cn T N) (hF : zFr ci k j k2) (hj : j < N) (hr : (T j).1 = ref) (hl : Cond.fieldLinkNest own index ref (T j).2.1 (T j).2.2.1 host ∈ zN) (hdg : decode cc pc = .ok (.getfield index, 3))
    (kk : W p l e R s m args below meth c H locs cells slots Q (F0 m (pc + 3) ls (.ref (ad k2) :: rest))) : W p l e R s m args below meth c H locs cells slots Q (F0 m pc ls (.ref (ad k) :: rest)) := by
  obtain ⟨fs, h1⟩ := hF
  obtain ⟨h2, h3⟩ := h1 cy ad M L
  exact va_getN X.1.1 X.1.2.1 X.1.2.2.2.2 hC.2.1 X.1.2.2.2.1 X.2.1 hW.1 k h2 hC.1 j hj (va_Nw.use rfl (X.2.2.1 _ hl)) (fun x h => by rw [← hr]; exact h) h3 hdg kk
theorem z_put {ci k j N index : Nat} {Cn ref : String} {T : u_T} {v : Int32} {ty : FieldType} (X : zCx p R s m args c cells slots cc nL own D cy ad A) (hW : zWd D cy ad A s H locs M L) (hC : zCl ci Cn T N) (hF : zFi ci k j) (hj : j < N) (hr : (T j).1 = ref) (hl : Cond.fieldLink own index ref (T j).2.1 (T j).2.2.1 ∈ zG) (hfin : (T j).2.2.2 = false) (hd : parseFieldDescriptor (T j).2.2.1 = some ty) (hn : narrow ty (.int v) = .int v) (hfit : fits ty (.int v) = true) (hdg : decode cc pc = .ok (.putfield index, 3))
    (kk : ∀ (M1 : Mm) (H1 : Heap) (locs1 : List Loc), M1 = zs M k j v → zWd D cy ad A s H1 locs1 M1 L → W p l e R s m args below meth c H1 locs1 cells slots Q (F0 m (pc + 3) ls rest)) : W p l e R s m args below meth c H locs cells slots Q (F0 m pc ls (.int v :: .ref (ad k) :: rest)) := by
  obtain ⟨fs, h1⟩ := hF
  obtain ⟨h2, h3, h4⟩ := h1 cy ad M L
  obtain ⟨hC1, hC2, ty0, hC3, hC4⟩ := hC
  refine va_put X.1.1 X.1.2.1 X.1.2.2.2.2 hC2 ty0 hC3 hC4 X.1.2.2.2.1 X.2.1 hW.1 (zD X.2.2.2.1 X.2.2.2.2.2.1 M L) hW.2 k h2 hC1 j hj (X.1.2.2.2.2 _ hl) (fun x h => by rw [← hr]; exact h) hfin hd hn hfit (List.getElem?_eq_some_iff.mp h3).1 hdg (fun H1 locs1 g1 g2 g3 => kk _ H1 locs1 rfl ⟨?_, g3⟩)
  rw [h4] at g1
  exact g1
theorem z_putN {ci k j N index : Nat} {Cn ref host : String} {T : u_T} {v : Int32} {ty : FieldType} (X : zCx p R s m args c cells slots cc nL own D cy ad A) (hW : zWd D cy ad A s H locs M L) (hC : zCl ci Cn T N) (hF : zFi ci k j) (hj : j < N) (hr : (T j).1 = ref) (hl : Cond.fieldLinkNest own index ref (T j).2.1 (T j).2.2.1 host ∈ zN) (hfin : (T j).2.2.2 = false) (hd : parseFieldDescriptor (T j).2.2.1 = some ty) (hn : narrow ty (.int v) = .int v) (hfit : fits ty (.int v) = true) (hdg : decode cc pc = .ok (.putfield index, 3))
    (kk : ∀ (M1 : Mm) (H1 : Heap) (locs1 : List Loc), M1 = zs M k j v → zWd D cy ad A s H1 locs1 M1 L → W p l e R s m args below meth c H1 locs1 cells slots Q (F0 m (pc + 3) ls rest)) : W p l e R s m args below meth c H locs cells slots Q (F0 m pc ls (.int v :: .ref (ad k) :: rest)) := by
  obtain ⟨fs, h1⟩ := hF
  obtain ⟨h2, h3, h4⟩ := h1 cy ad M L
  obtain ⟨hC1, hC2, ty0, hC3, hC4⟩ := hC
  refine va_putN X.1.1 X.1.2.1 X.1.2.2.2.2 hC2 ty0 hC3 hC4 X.1.2.2.2.1 X.2.1 hW.1 (zD X.2.2.2.1 X.2.2.2.2.2.1 M L) hW.2 k h2 hC1 j hj (va_Nw.use rfl (X.2.2.1 _ hl)) (fun x h => by rw [← hr]; exact h) hfin hd hn hfit (List.getElem?_eq_some_iff.mp h3).1 hdg (fun H1 locs1 g1 g2 g3 => kk _ H1 locs1 rfl ⟨?_, g3⟩)
  rw [h4] at g1
  exact g1
theorem z_iald {k n : Nat} {i : Int32} (X : zCx p R s m args c cells slots cc nL own D cy ad A) (hW : zWd D cy ad A s H locs M L) (hR : zRow k n) (hin : vp_in i n) (hdg : decode cc pc = .ok (.iaload, 1))
    (kk : W p l e R s m args below meth c H locs cells slots Q (F0 m (pc + 1) ls (.int (M k i.toNatClampNeg) :: rest))) : W p l e R s m args below meth c H locs cells slots Q (F0 m pc ls (.int i :: .ref (ad k) :: rest)) := by
  obtain ⟨⟨t0, h1⟩, h2⟩ := hR
  exact va_iald X.1.1 X.1.2.1 X.2.1 hW.1 k t0 (h2 cy ad M L).1 (h1 cy) hin hdg kk
theorem z_zald {k n : Nat} {i : Int32} (X : zCx p R s m args c cells slots cc nL own D cy ad A) (hW : zWd D cy ad A s H locs M L) (hR : zRowZ k n) (hin : vp_in i n) (hdg : decode cc pc = .ok (.baload, 1))
    (kk : W p l e R s m args below meth c H locs cells slots Q (F0 m (pc + 1) ls (.int (M k i.toNatClampNeg) :: rest))) : W p l e R s m args below meth c H locs cells slots Q (F0 m pc ls (.int i :: .ref (ad k) :: rest)) := by
  obtain ⟨⟨t0, h1⟩, h2⟩ := hR
  exact va_zald X.1.1 X.1.2.1 X.2.1 hW.1 k t0 (h2 cy ad M L).1 (h1 cy) hin hdg kk
theorem z_lald {k n : Nat} {i : Int32} (X : zCx p R s m args c cells slots cc nL own D cy ad A) (hW : zWd D cy ad A s H locs M L) (hR : zRowJ k n) (hin : vp_in i n) (hdg : decode cc pc = .ok (.laload, 1))
    (kk : W p l e R s m args below meth c H locs cells slots Q (F0 m (pc + 1) ls (.long (L k i.toNatClampNeg) :: rest))) : W p l e R s m args below meth c H locs cells slots Q (F0 m pc ls (.int i :: .ref (ad k) :: rest)) := by
  obtain ⟨⟨t0, h1⟩, h2⟩ := hR
  exact va_lald X.1.1 X.1.2.1 X.2.1 hW.1 k t0 (h2 cy ad M L).1 (h1 cy) hin hdg kk
theorem z_iast {k n : Nat} {i x : Int32} (X : zCx p R s m args c cells slots cc nL own D cy ad A) (hW : zWd D cy ad A s H locs M L) (hR : zRow k n) (hin : vp_in i n) (hdg : decode cc pc = .ok (.iastore, 1))
    (kk : ∀ (M1 : Mm) (H1 : Heap) (locs1 : List Loc), M1 = zs M k i.toNatClampNeg x → zWd D cy ad A s H1 locs1 M1 L → W p l e R s m args below meth c H1 locs1 cells slots Q (F0 m (pc + 1) ls rest)) : W p l e R s m args below meth c H locs cells slots Q (F0 m pc ls (.int x :: .int i :: .ref (ad k) :: rest)) := by
  obtain ⟨⟨t0, h1⟩, h2⟩ := hR
  obtain ⟨h3, h4⟩ := h2 cy ad M L
  refine va_iast X.1.1 X.1.2.1 X.2.1 hW.1 (zD X.2.2.2.1 X.2.2.2.2.2.1 M L) hW.2 k t0 h3 (h1 cy) hin hdg (fun H1 locs1 g1 g2 g3 => kk _ H1 locs1 rfl ⟨?_, g3⟩)
  rw [h4] at g1
  exact g1
theorem z_zast {k n : Nat} {i x : Int32} (X : zCx p R s m args c cells slots cc nL own D cy ad A) (hW : zWd D cy ad A s H locs M L) (hR : zRowZ k n) (hin : vp_in i n) (hdg : decode cc pc = .ok (.bastore, 1))
    (kk : ∀ (M1 : Mm) (H1 : Heap) (locs1 : List Loc), M1 = zs M k i.toNatClampNeg (vp_nar .boolean x) → zWd D cy ad A s H1 locs1 M1 L → W p l e R s m args below meth c H1 locs1 cells slots Q (F0 m (pc + 1) ls rest)) : W p l e R s m args below meth c H locs cells slots Q (F0 m pc ls (.int x :: .int i :: .ref (ad k) :: rest)) := by
  obtain ⟨⟨t0, h1⟩, h2⟩ := hR
  obtain ⟨h3, h4⟩ := h2 cy ad M L
  refine va_zast X.1.1 X.1.2.1 X.2.1 hW.1 (zD X.2.2.2.1 X.2.2.2.2.2.1 M L) hW.2 k t0 h3 (h1 cy) hin hdg (fun H1 locs1 g1 g2 g3 => kk _ H1 locs1 rfl ⟨?_, g3⟩)
  rw [h4] at g1
  exact g1
theorem z_last {k n : Nat} {i : Int32} {x : Int64} (X : zCx p R s m args c cells slots cc nL own D cy ad A) (hW : zWd D cy ad A s H locs M L) (hR : zRowJ k n) (hin : vp_in i n) (hdg : decode cc pc = .ok (.lastore, 1))
    (kk : ∀ (L1 : Ml) (H1 : Heap) (locs1 : List Loc), L1 = zsl L k i.toNatClampNeg x → zWd D cy ad A s H1 locs1 M L1 → W p l e R s m args below meth c H1 locs1 cells slots Q (F0 m (pc + 1) ls rest)) : W p l e R s m args below meth c H locs cells slots Q (F0 m pc ls (.long x :: .int i :: .ref (ad k) :: rest)) := by
  obtain ⟨⟨t0, h1⟩, h2⟩ := hR
  obtain ⟨h3, h4⟩ := h2 cy ad M L
  refine va_last X.1.1 X.1.2.1 X.2.1 hW.1 (zD X.2.2.2.1 X.2.2.2.2.2.1 M L) hW.2 k t0 h3 (h1 cy) hin hdg (fun H1 locs1 g1 g2 g3 => kk _ H1 locs1 rfl ⟨?_, g3⟩)
  rw [h4] at g1
  exact g1
theorem z_alen {k n : Nat} (X : zCx p R s m args c cells slots cc nL own D cy ad A) (hW : zWd D cy ad A s H locs M L) (hR : zRow k n) (hdg : decode cc pc = .ok (.arraylength, 1))
    (kk : W p l e R s m args below meth c H locs cells slots Q (F0 m (pc + 1) ls (.int (Int32.ofNat n) :: rest))) : W p l e R s m args below meth c H locs cells slots Q (F0 m pc ls (.ref (ad k) :: rest)) := by
  obtain ⟨⟨t0, h1⟩, h2⟩ := hR
  exact va_alen X.1.1 X.1.2.1 X.2.1 hW.1 k t0 (h2 cy ad M L).1 (h1 cy) rfl hdg kk
theorem z_aald {i : Int32} (X : zCx p R s m args c cells slots cc nL own D cy ad A) (hW : zWd D cy ad A s H locs M L) (hin : vp_in i 2) (hdg : decode cc pc = .ok (.aaload, 1))
    (kk : W p l e R s m args below meth c H locs cells slots Q (F0 m (pc + 1) ls (.ref (ad (zY i.toNatClampNeg)) :: rest))) : W p l e R s m args below meth c H locs cells slots Q (F0 m pc ls (.int i :: .ref (ad 1) :: rest)) :=
  va_aldq X.1.1 X.1.2.1 X.2.1 hW.1 1 0 (f := fun j => some (ad (zY j))) rfl rfl hin hdg kk
/-- System.arraycopy of whole rows -/
theorem z_copy {k k1 n index : Nat} (X : zCx p R s m args c cells slots cc nL own D cy ad A) (hW : zWd D cy ad A s H locs M L) (hR : zRow k n) (hR1 : zRow k1 n) (hn : n < 2 ^ 31) {v : Int32} (hv : v = Int32.ofNat n) (hlink : Cond.methodLink own index arraycopyName ∈ zG) (hnat : Cond.native arraycopyName ∈ zG) (hstat : Cond.static arraycopyName ∈ zG) (hini : Cond.initialized "java/lang/System" ∈ zG) (hls : ls.size = nL) (hframes : 1 ≤ R.frames) (hlocals : (rest.map fun v => v.category).sum + (nativeFrameWords "java/lang/System" "arraycopy" 5 + 11) ≤ R.locals) (hdg : decode cc pc = .ok (.invokestatic index, 3))
    (kk : ∀ (M1 : Mm) (H1 : Heap) (locs1 : List Loc), M1 = zr M k1 (va_cpy (M k) (M k1) 0 0 n) → zWd D cy ad A s H1 locs1 M1 L → W p l e R s m args below meth c H1 locs1 cells slots Q (F0 m (pc + 3) ls rest)) : W p l e R s m args below meth c H locs cells slots Q (F0 m pc ls (.int v :: .int 0 :: .ref (ad k1) :: .int 0 :: .ref (ad k) :: rest)) := by
  subst hv
  obtain ⟨⟨t0, h1⟩, h2⟩ := hR
  obtain ⟨⟨t1, g1⟩, g2⟩ := hR1
  have e0 : (0 : Int32).toNatClampNeg = 0 := rfl
  have en : (Int32.ofNat n).toNatClampNeg = n := nI_clamp hn
  refine va_copyi X.1.1 X.1.2.1 (X.1.2.2.1.trans hls.symm) X.1.2.2.2.1 (X.1.2.2.2.2 _ hlink) (X.1.2.2.2.2 _ hnat) (X.1.2.2.2.2 _ hstat) (X.1.2.2.2.2 _ hini) X.2.1 hW.1 (zD X.2.2.2.1 X.2.2.2.2.2.1 M L) hW.2 k k1 t0 t1 (h2 cy ad M L).1 (g2 cy ad M L).1 (h1 cy) (g1 cy) rfl (by decide) (by decide) (nI_pos hn) (by rw [e0, en]; omega) (by rw [e0, en]; omega) (fun _ _ => rfl) hframes hlocals hdg (fun H1 locs1 q1 q2 q3 => kk _ H1 locs1 rfl ⟨?_, q3⟩)
  rw [(g2 cy ad M L).2, e0, en] at q1
  exact q1
end ZR
