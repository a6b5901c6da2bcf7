/-! the world at the start: the constructors' cells in the order of the one world; what holds there -/
def fS : Nat → Int32 := upd (upd (upd (upd (upd (upd (fun _ => 0) (Int32.toNatClampNeg 0) 0) (Int32.toNatClampNeg 1) 1) (Int32.toNatClampNeg 2) 2) (Int32.toNatClampNeg 3) 3) (Int32.toNatClampNeg 4) 4) (Int32.toNatClampNeg 5) 5
def fA : Nat → Int32 := upd (upd (fun _ => 0) (Int32.toNatClampNeg 0) 90) (Int32.toNatClampNeg 1) 30
def fY : Nat → Int32 := fun j => ([0, 0, 0, 0, 0, 0, 0, 0, 90, 30] : List Int32).getD j 0
def fDay : Nat → Int32 := fun j => ([0, -6, -6, -6] : List Int32).getD j 0
def mL0 (g : Nat → Int32) : List (Nat → Int32) := [(fun _ => 0), (fun _ => 0), (fun _ => 0), (fun _ => 0), (fun _ => 0), (fun _ => 0), fDay, (fun _ => 0), (fun _ => 0), (fun _ => 0), (fun _ => 0), (fun _ => 0), (fun _ => 0), g, fY, (fun _ => 0), (fun _ => 0), (fun _ => 0), (fun _ => 0), (fun _ => 0), fS, fY, (fun _ => 0), (fun _ => 0), (fun _ => 0), (fun _ => 0), (fun _ => 0), fS, fY, (fun _ => 0), (fun _ => 0), (fun _ => 0), (fun _ => 0), (fun _ => 0), fS, fY, (fun _ => 0), (fun _ => 0), (fun _ => 0), (fun _ => 0), (fun _ => 0), fS, (fun _ => 0), (fun _ => 0), (fun _ => 0), (fun _ => 0), (fun _ => 0), (fun _ => 0), fS, (fun _ => 0), fA, (fun _ => 0), (fun _ => 0), (fun _ => 0), (fun _ => 0), (fun _ => 0), (fun _ => 0), (fun _ => 0), (fun _ => 0), (fun _ => 0), (fun _ => 0), (fun _ => 0), (fun _ => 0), (fun _ => 0), (fun _ => 0), (fun _ => 0), (fun _ => 0)]
def M0 (g : Nat → Int32) : Mm := fun k => (mL0 g).getD k (fun _ => 0)
def L0 : Ml := fun _ _ => 0
def aL0 (ad1 ad2 : Nat → Nat) : List Nat := [ad1 0, ad1 8, ad1 23, ad1 24, ad1 25, ad1 26, ad1 27, ad1 35, ad1 36, ad1 37, ad1 38, ad1 39, ad1 40, ad1 41, ad1 1, ad1 2, ad1 3, ad1 4, ad1 5, ad1 6, ad1 7, ad1 9, ad1 10, ad1 11, ad1 12, ad1 13, ad1 14, ad1 15, ad1 16, ad1 17, ad1 18, ad1 19, ad1 20, ad1 21, ad1 22, ad1 28, ad1 29, ad1 30, ad1 31, ad1 32, ad1 33, ad1 34, ad2 0, ad2 1, ad2 2, ad2 3, ad2 4, ad2 5, ad2 6, ad2 7, ad2 8, ad2 9, ad2 10, ad2 11, ad2 12, ad2 13, ad2 14, ad2 15, ad2 16, ad2 17, ad2 18, ad2 19, ad2 20, ad2 21, ad2 22, ad2 23, ad2 24]
def ad0 (ad1 ad2 : Nat → Nat) : Nat → Nat := fun k => (aL0 ad1 ad2).getD k 0
def cL0 (cy1 cy2 : Nat → ClassId) : List ClassId := [cy1 0, cy1 8, cy1 23, cy1 24, cy1 25, cy1 26, cy1 27, cy1 35, cy1 36, cy1 37, cy1 38, cy1 39, cy1 40, cy1 41, cy1 1, cy1 2, cy1 3, cy1 4, cy1 5, cy1 6, cy1 7, cy1 9, cy1 10, cy1 11, cy1 12, cy1 13, cy1 14, cy1 15, cy1 16, cy1 17, cy1 18, cy1 19, cy1 20, cy1 21, cy1 22, cy1 28, cy1 29, cy1 30, cy1 31, cy1 32, cy1 33, cy1 34, cy2 0, cy2 1, cy2 2, cy2 3, cy2 4, cy2 5, cy2 6, cy2 7, cy2 8, cy2 9, cy2 10, cy2 11, cy2 12, cy2 13, cy2 14, cy2 15, cy2 16, cy2 17, cy2 18, cy2 19, cy2 20, cy2 21, cy2 22, cy2 23, cy2 24]
def cy0 (cy1 cy2 : Nat → ClassId) : Nat → ClassId := fun k => (cL0 cy1 cy2).getD k (cy1 0)
theorem fS_val : ∀ e, e < 6 → fS e = nI e := by decide +kernel
theorem fA_val : fA 0 = 90 ∧ fA 1 = 30 := by decide +kernel
theorem RI_start {g : Nat → Int32} (hg : gOK g) : RI (M0 g) := by
  refine ⟨⟨0, 0, by decide, by decide, rfl, rfl, rfl, fun k hk => ⟨fun h => absurd h (by rw [Nat.zero_testBit]; decide), fun _ => rfl⟩, fun e he => ⟨rfl, ⟨e, by omega, fS_val e he⟩, ?_⟩, ⟨fA_val.1, fA_val.2, ⟨90, by decide, rfl⟩, ⟨30, by decide, rfl⟩⟩, 0, 0, 0, by decide, by decide, by decide, rfl, rfl, rfl, rfl, fun e he => absurd he (by omega), fun w _ => ⟨fun _ e he => absurd he (by omega), fun _ => ⟨by simp, by simp⟩⟩⟩, ⟨0, by decide, rfl, rfl, fun i hi => absurd hi (by omega)⟩, fun n hn => hg n hn, 0, by decide, rfl, fun k hk => ⟨?_, fun h => absurd h (by rw [Nat.zero_testBit]; decide)⟩⟩
  · rw [Nat.zero_testBit]
    rfl
  · rw [Nat.zero_testBit]
    rfl
theorem va_P_cell {D : va_G} {cl : List vw_C} {ws : va_W} {H : Heap} (h : va_P D cl ws H) {q0 a : Nat} {cA : ClassId} {x y : vp_A} (he : ws[q0]? = some (a, .inl (cA, x))) (hxy : vp_cell cA x = vp_cell cA y) : va_P D cl (ws.set q0 (a, .inl (cA, y))) H := by
  intro k q hq
  by_cases hk : k = q0
  · subst hk
    have hlt := (List.getElem?_eq_some_iff.mp he).1
    rw [List.getElem?_set_self hlt] at hq
    cases hq
    have h1 : H[a]? = some (vp_cell cA x) := h k _ he
    show H[a]? = some (vp_cell cA y)
    rw [← hxy]
    exact h1
  · rw [List.getElem?_set_ne (Ne.symm hk)] at hq
    exact h k q hq
theorem vp_cell_img (cA : ClassId) (f f2 : Nat → Option Nat) (h : ∀ j, j < 2 → f j = f2 j) : vp_cell cA (2, .inr (.inr (.inr (.inr f)))) = vp_cell cA (2, .inr (.inr (.inr (.inr f2)))) := by
  rw [vp_cell_q, vp_cell_q]
  unfold arrV
  congr 1
  congr 1
  funext j
  show va_rf (f j.val) = va_rf (f2 j.val)
  rw [h j.val j.isLt]
theorem img_up (a b : Nat) : ∀ j, j < 2 → va_up (va_up (fun _ => none) (Int32.toNatClampNeg 0) (some a)) (Int32.toNatClampNeg 1) (some b) j = some (if j = 0 then a else b) := by
  intro j hj
  match j, hj with
  | 0, _ => rfl
  | 1, _ => rfl
  | k + 2, h => omega
set_option maxRecDepth 100000 in
set_option maxHeartbeats 4000000 in
theorem zW_start {D : va_G} {A : Nat → Prop} {s : State} {H : Heap} {locs : List Loc} {ad1 ad2 : Nat → Nat} {cy1 cy2 : Nat → ClassId} {g : Nat → Int32} (hW : zB D A s H locs (wX8 ad1 cy1 g ++ wX9 ad2 cy2) (tX8 cy1 ++ tX9 cy2)) : zB D A s H locs (zW (cy0 cy1 cy2) (ad0 ad1 ad2) (M0 g) L0) (zT (cy0 cy1 cy2)) := by
  obtain ⟨hP, hD, hS, hK⟩ := hW
  have hP1 := va_P_cell (q0 := 8) hP rfl (vp_cell_img (cy1 8) _ (fun j => some (ad0 ad1 ad2 (zY j))) (fun j hj => (img_up (ad1 9) (ad1 16) j hj).trans (by
    match j, hj with
    | 0, _ => rfl
    | 1, _ => rfl
    | k + 2, h => omega)))
  have hD1 : va_D A ((wX8 ad1 cy1 g ++ wX9 ad2 cy2).set 8 (ad1 8, .inl (cy1 8, 2, .inr (.inr (.inr (.inr (fun j => some (ad0 ad1 ad2 (zY j))))))))) := hD.set rfl
  refine ⟨hP1.sub [0, 8, 23, 24, 25, 26, 27, 35, 36, 37, 38, 39, 40, 41, 1, 2, 3, 4, 5, 6, 7, 9, 10, 11, 12, 13, 14, 15, 16, 17, 18, 19, 20, 21, 22, 28, 29, 30, 31, 32, 33, 34, 42, 43, 44, 45, 46, 47, 48, 49, 50, 51, 52, 53, 54, 55, 56, 57, 58, 59, 60, 61, 62, 63, 64, 65, 66] rfl, hD1.sub [0, 8, 23, 24, 25, 26, 27, 35, 36, 37, 38, 39, 40, 41, 1, 2, 3, 4, 5, 6, 7, 9, 10, 11, 12, 13, 14, 15, 16, 17, 18, 19, 20, 21, 22, 28, 29, 30, 31, 32, 33, 34, 42, 43, 44, 45, 46, 47, 48, 49, 50, 51, 52, 53, 54, 55, 56, 57, 58, 59, 60, 61, 62, 63, 64, 65, 66] rfl rfl, hS, hK.sub [6, 19, 20, 21, 28, 29, 30, 31, 0, 1, 2, 3, 4, 5, 7, 8, 9, 10, 11, 12, 13, 14, 15, 16, 17, 18, 22, 23, 24, 25, 26, 27, 32, 33, 34, 35, 36, 37, 38, 39, 40, 41, 42, 43, 44, 45, 46, 47, 48, 49, 50, 51, 52, 53, 54, 55] rfl⟩
theorem zW_get {cy : Nat → ClassId} {ad : Nat → Nat} {M : Mm} {L : Ml} {i : Nat} (h : i < 67) : ∃ q, (zW cy ad M L)[i]? = some q ∧ q.1 = ad i := by
  have hl : (zW cy ad M L).length = 67 := rfl
  have e : (zW cy ad M L)[i]? = some ((zW cy ad M L)[i]'(by rw [hl]; exact h)) := List.getElem?_eq_getElem (by rw [hl]; exact h)
  exact ⟨_, e, (zW_at e).2⟩
theorem zD_inj {A : Nat → Prop} {cy : Nat → ClassId} {ad : Nat → Nat} {M : Mm} {L : Ml} (hD : va_D A (zW cy ad M L)) : zInj ad ∧ ∀ k, k < 67 → A (ad k) := by
  refine ⟨fun i j hi hj e => ?_, fun k hk => ?_⟩
  · obtain ⟨p, h1, h2⟩ := zW_get (cy := cy) (ad := ad) (M := M) (L := L) hi
    obtain ⟨q, h3, h4⟩ := zW_get (cy := cy) (ad := ad) (M := M) (L := L) hj
    exact hD.1 i j p q h1 h3 (by rw [h2, h4]; exact e)
  · obtain ⟨p, h1, h2⟩ := zW_get (cy := cy) (ad := ad) (M := M) (L := L) hk
    rw [← h2]
    exact hD.2 k p h1
/-- where the law's walk stands before its world is whole -/
def zL (p : Program) (s : State) (m : MethodId) (args : Array Value) (c : Code) (cc : ByteArray) (nL : Nat) (own : String) (A : Nat → Prop) : Prop :=
  CallFix p m c cc nL s args zG own ∧ zNs zN s ∧ va_AO RX7 s ∧ ∀ q, s.heap.size ≤ q → A q
section ZL
variable {p : Program} {l : Launch} {e : Env} {R : Room} {s : State} {m : MethodId} {args : Array Value} {below : List Frame} {meth : Method} {c : Code} {cells slots : Nat} {Q : State → Prop} {cc : ByteArray} {nL : Nat} {own : String} {D : va_G} {A : Nat → Prop}
variable {H : Heap} {locs : List Loc} {ws : va_W} {tys : List (ClassId × FieldType)} {pc : Nat} {ls : Array Slot} {rest st : List Value} {y : MethodName} {index a : Nat}
theorem jl_new {ci N : Nat} {C : String} {T : u_T} {fs : List Value} (J : zL p s m args c cc nL own A) (hW : zB D A s H locs ws tys) (hc : vwCl[ci]? = some (C, T, N)) (hin : ∀ w ∈ u_ws C T N, w ∈ zG) (ty : Nat → FieldType) (hty : ∀ k, k < N → parseFieldDescriptor (T k).2.2.1 = some (ty k)) (hcl : Cond.classLink own index C ∈ zG) (hinst : Cond.instantiable C N ∈ zG) (hini : Cond.initialized C ∈ zG) (hfs : ∀ j, j < N → defaultValue (ty j) = vp_V fs j) (hcells : cells + 1 ≤ R.cells) (hslots : slots + N ≤ R.slots) (hdg : decode cc pc = .ok (.new index, 3))
    (kk : ∀ (q : Nat) (H1 : Heap), zB D A s H1 locs (ws ++ [(q, .inr (ci, fs))]) tys → W p l e R s m args below meth c H1 locs (cells + 1) (slots + N) Q (F0 m (pc + 3) ls (.ref q :: rest))) : W p l e R s m args below meth c H locs cells slots Q (F0 m pc ls rest) :=
  va_new J.1.1 J.1.2.1 J.1.2.2.2.2 hin ty hty J.1.2.2.2.1 (J.1.2.2.2.2 _ hcl) (J.1.2.2.2.2 _ hinst) (J.1.2.2.2.2 _ hini) hW.2.2.2 hW.1 hW.2.1 hW.2.2.1 J.2.2.2 hc hfs hcells hslots hdg (fun q H1 g2 g3 g4 => kk q H1 ⟨g2, g3, g4, hW.2.2.2⟩)
theorem jl_pre {b : Nat} {wc : va_W} (J : zL p s m args c cc nL own A) (hW : zB D A s H locs ws tys) (isC : List Nat) (hC : isC.map (fun i => ws[i]?) = wc.map some) (hn : va_nd isC = true) : PreS s H (va_Pc [.ref b] (zI0 D H.size wc)) [.ref b] := by
  have hs : isC.filterMap (fun i => ws[i]?) = wc := by
    have h1 : (isC.map (fun i => ws[i]?)).filterMap id = (wc.map some).filterMap id := by rw [hC]
    rw [List.filterMap_map, List.filterMap_map] at h1
    have h2 : wc.filterMap (id ∘ some) = wc := by
      show wc.filterMap some = wc
      exact List.filterMap_some
    rw [h2] at h1
    exact h1
  exact ⟨fun a U g mk q => by
    obtain ⟨q0, q1, qP, qK, qD, qN, qA⟩ := q
    exact ⟨q0, q1, qP, va_K.moved (u := U) (U := U.calling g mk a) (Vm.Alike.refl U.vm) qK, qD, zNs_same (u := U) (U := U.calling g mk a) rfl qN, va_AO.moved (u := U) (U := U.calling g mk a) (Vm.Alike.refl U.vm) qA⟩,
   fun U hU hWm => ⟨rfl, by rw [hU], by rw [hU]; exact hW.1.sub isC hs, va_K.moved hWm.alike (hW.2.2.2.sub [] rfl), (hW.2.1.sub isC hn hC).weaken (fun _ _ _ _ => trivial), zNs_moved hWm J.2.1, va_AO.moved hWm.alike J.2.2.1⟩⟩
theorem jl_call {S : Type} {post : S → Prop} {w1 : S → va_W} {t1 : S → List (ClassId × FieldType)} {mc ms maxL b : Nat} {bytes : ByteArray} {rm : Room} {wc wr : va_W} (J : zL p s m args c cc nL own A) (hW : zB D A s H locs ws tys) (isC isR : List Nat) (hC : isC.map (fun i => ws[i]?) = wc.map some) (hnC : va_nd isC = true) (hRR : isR.map (fun i => ws[i]?) = wr.map some) (hnR : va_nd isR = true) (hdis : ∀ i ∈ isR, i ∉ isC) (hc : zCal y bytes maxL none) (hin : Cond.instanceMethod y ∈ zG) (hlk : Cond.methodLink own index y ∈ zG) (hyn : y.name = "<init>") (hpar : (parseMethodDescriptor y.desc).map (fun d => d.parameters.length) = some 0) (hrm : rm.cells = mc ∧ rm.slots = ms) (hR : rm.frames + 1 ≤ R.frames ∧ 8 + (maxL + 11) + rm.locals ≤ R.locals) (hM : zIc l y bytes maxL rm D b wc post w1 t1 mc ms) (hls : ls.size = nL) (hsum : (rest.map fun v => v.category).sum ≤ 8) (hf : cells + mc ≤ R.cells ∧ slots + ms ≤ R.slots) (hdg : decode cc pc = .ok (.invokespecial index, 3))
    (kk : ∀ (u : S) (H1 : Heap) (locs1 : List Loc), post u → zB D A s H1 locs1 (wr ++ w1 u) (tys ++ t1 u) → W p l e R s m args below meth c H1 locs1 (cells + mc) (slots + ms) Q (F0 m (pc + 3) ls rest)) : W p l e R s m args below meth c H locs cells slots Q (F0 m pc ls (.ref b :: rest)) := by
  have hF := va_free (wc := wc) hW.2.1 hW.2.2.1 J.2.2.2 isC hC
  refine va_callv (va_runI (As := []) J.1 (hM H.size) ⟨callB_of 0 J.1.2.2.2.2 (z_good hc.1) rfl hrm.1 hrm.2 (J.1.2.2.2.2 _ hc.2.1) (J.1.2.2.2.2 _ hlk) ⟨hc.2.2.1, hc.2.2.2, hpar⟩ hR, hyn, J.1.2.2.2.2 _ hin⟩ (jl_pre J hW isC hC hnC) rfl rfl hls rfl (lv_room hsum) hdg hf) hW.2.2.1 (fun q _ h => hF q h) hF (fun u t H1 locs1 ht hvm hw hB hz1 hk1 hS => ?_)
  obtain ⟨hP1, hK1, hD1⟩ := hB
  rw [ht] at hP1
  obtain ⟨hP, hD⟩ := va_join hW.1 hW.2.1 isC isR hC hRR hnR hdis hk1 hF hP1 hD1
  exact kk u H1 locs1 hw ⟨hP, hD, hS, hW.2.2.2.app (va_K.moved hvm.symm hK1)⟩
end ZL
