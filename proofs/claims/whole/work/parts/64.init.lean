/-! constructors: a method that makes cells, over the small world of its own object -/
def zI0 (D : va_G) (sz : Nat) (w0 : va_W) (U : State) : Prop := U.heap.size = sz ∧ va_P D vwCl w0 U.heap ∧ va_K D vwCl [] U ∧ va_D (fun _ => True) w0 ∧ zNs zN U ∧ va_AO RX7 U
/-- the contract of a constructor: from the world w0 of the fresh object alone to the world w1 -/
def zIc {S : Type} (l : Launch) (y : MethodName) (cc : ByteArray) (maxL : Nat) (rm : Room) (D : va_G) (h0 : Nat) (w0 : va_W) (post : S → Prop) (w1 : S → va_W) (t1 : S → List (ClassId × FieldType)) (mc ms : Nat) : Prop := ∀ sz, Met l y (.code y cc maxL none :: zG) rm (va_Pc [.ref h0] (zI0 D sz w0)) (va_Qv post (fun u t => va_P D vwCl (w1 u) t.heap ∧ va_K D vwCl (t1 u) t ∧ va_D (va_A w0 sz) (w1 u)) (va_A w0 sz)) mc ms (va_A w0 sz)
/-- where a constructor's walk stands -/
def zJ (p : Program) (s : State) (m : MethodId) (args : Array Value) (meth : Method) (c : Code) (cc : ByteArray) (nL : Nat) (own : String) (A : Nat → Prop) : Prop :=
  CallFix p m c cc nL s args zG own ∧ zNs zN s ∧ va_AO RX7 s ∧ (∀ q, s.heap.size ≤ q → A q) ∧ meth.name = "<init>"
def zB (D : va_G) (A : Nat → Prop) (s : State) (H : Heap) (locs : List Loc) (ws : va_W) (tys : List (ClassId × FieldType)) : Prop :=
  va_P D vwCl ws H ∧ va_D A ws ∧ va_S A s.heap H locs ∧ va_K D vwCl tys s
theorem zIc_of {S : Type} {l : Launch} {y : MethodName} {cc : ByteArray} {maxL : Nat} {rm : Room} {D : va_G} {h0 : Nat} {w0 : va_W} {post : S → Prop} {w1 : S → va_W} {t1 : S → List (ClassId × FieldType)} {mc ms : Nat} (hy : plainName y.cls = true) (hyn : y.name = "<init>") (hlen : (lg_sl [.ref h0]).length ≤ maxL)
    (body : ∀ {p : Program} {e : Env} {s : State} {m : MethodId} {args : Array Value} {below : List Frame} {meth : Method} {c : Code} (_ : zJ p s m args meth c cc maxL y.cls (va_A w0 s.heap.size)) {Q : State → Prop} (_ : ∀ (pc : Nat) (ls : Array Slot) (H : Heap) (locs : List Loc) (u : S), decode cc pc = .ok (.return_, 1) → post u → zB D (va_A w0 s.heap.size) s H locs (w1 u) (t1 u) → W p l e rm s m args below meth c H locs mc ms Q (F0 m pc ls [])) (ls : Array Slot) (_ : lv_has ls maxL (lv_args 0 [.ref h0])) (_ : zB D (va_A w0 s.heap.size) s s.heap [] w0 []), W p l e rm s m args below meth c s.heap [] 0 0 Q (F0 m 0 ls [])) :
    zIc l y cc maxL rm D h0 w0 post w1 t1 mc ms := by
  intro sz
  refine Met.ofW (cc := cc) (maxL := maxL) (ret := none) hy rfl ?_
  intro p e s m args below meth c s₁ B hml hv
  obtain ⟨rfl, hsz, hP, hK, hD, hN, hAO⟩ := hv
  subst hsz
  have hts := atoms_spec (ws := Cond.code y cc maxL none :: zG) B.pre
  have hown : s.vm.findClass y.cls = some m.cls := findClass_of_methodNamed B.named
  have hin : meth.name = "<init>" := (name_of_methodNamed B.named B.method).1.trans hyn
  have J : zJ p s m [Value.ref h0].toArray meth c cc maxL y.cls (va_A w0 s.heap.size) := ⟨⟨B.exec, B.bytes, hml, hown, fun w h => hts w (List.mem_cons_of_mem _ h)⟩, hN, hAO, fun q h => Or.inr h, hin⟩
  have hl := lv_entry [.ref h0] (n := maxL) hlen
  rw [lg_entry_eq]
  have hlocks := B.notSynchronized
  exact body J (fun pc ls H locs u hd hp hW => W.vret B.exec B.bytes B.returns (fun t ht hWm => ⟨⟨u, rfl, hp, by rw [ht]; exact hW.1, va_K.moved hWm.alike hW.2.2.2, hW.2.1⟩, hW.2.2.1.F ht⟩) hW.2.2.1.2.2 hd) _ hl ⟨hP, hD.self, va_S.rf, hK⟩
section ZJ
variable {p : Program} {l : Launch} {e : Env} {R : Room} {s : State} {m : MethodId} {args : Array Value} {below : List Frame} {meth : Method} {c : Code} {cells slots : Nat} {Q : State → Prop} {cc : ByteArray} {nL : Nat} {own : String} {D : va_G} {A : Nat → Prop}
variable {H : Heap} {locs : List Loc} {ws : va_W} {tys : List (ClassId × FieldType)} {pc : Nat} {ls : Array Slot} {rest st : List Value} {y : MethodName} {index a : Nat}
theorem j_obj (J : zJ p s m args meth c cc nL own A) (hl : Cond.methodLink own index objectInit ∈ zG) (hls : ls.size = nL) (hR : 1 ≤ R.frames) (hR2 : (rest.map fun v => v.category).sum + 12 ≤ R.locals) (hdg : decode cc pc = .ok (.invokespecial index, 3))
    (kk : W p l e R s m args below meth c H locs cells slots Q (F0 m (pc + 3) ls rest)) : W p l e R s m args below meth c H locs cells slots Q (F0 m pc ls (.ref a :: rest)) := by
  refine W.objInit J.1.1 J.1.2.1 J.1.2.2.2.1 (J.1.2.2.2.2 _ hl) (J.1.2.2.2.2 _ zw_oi) (J.1.2.2.2.2 _ zw_oc) rfl (hls.trans J.1.2.2.1.symm) rfl hdg hR ?_ kk
  show 2 * 0 + _ + 12 ≤ _
  omega
theorem j_newa {atype : ArrayType} {ty : FieldType} {n : Int32} {N' : Nat} {a0 : vp_A} (J : zJ p s m args meth c cc nL own A) (hW : zB D A s H locs ws tys) (harr : Cond.arrayClass (newarray.typeOf atype) ∈ zG) (hty : newarray.typeOf atype = ty) (ha : ∀ cA : ClassId, vp_cell cA a0 = arrV cA N' (fun _ => defaultValue ty)) (hn : ¬ n < 0) (hN : n.toNatClampNeg = N') (hbytes : N' * componentBytes ty ≤ 536870912) (hcells : cells + 1 ≤ R.cells) (hslots : slots + N' ≤ R.slots) (hdg : decode cc pc = .ok (.newarray atype, 2))
    (kk : ∀ (q : Nat) (cA : ClassId) (H1 : Heap), zB D A s H1 locs (ws ++ [(q, .inl (cA, a0))]) (tys ++ [(cA, ty)]) → W p l e R s m args below meth c H1 locs (cells + 1) (slots + N') Q (F0 m (pc + 2) ls (.ref q :: rest))) : W p l e R s m args below meth c H locs cells slots Q (F0 m pc ls (.int n :: rest)) :=
  va_newa J.1.1 J.1.2.1 (J.1.2.2.2.2 _ harr) hty hW.2.2.2 hW.1 hW.2.1 hW.2.2.1 J.2.2.2.1 ha hn hN hbytes hcells hslots hdg (fun q cA H1 g1 g2 g3 g4 => kk q cA H1 ⟨g2, g3, g4, g1⟩)
theorem j_newq {n : Int32} {N' : Nat} (J : zJ p s m args meth c cc nL own A) (hW : zB D A s H locs ws tys) (hl : Cond.classLink own index RX7 ∈ zG) (hn : ¬ n < 0) (hN : n.toNatClampNeg = N') (hbytes : N' * 4 ≤ 536870912) (hcells : cells + 1 ≤ R.cells) (hslots : slots + N' ≤ R.slots) (hdg : decode cc pc = .ok (.anewarray index, 3))
    (kk : ∀ (q : Nat) (cA : ClassId) (H1 : Heap), zB D A s H1 locs (ws ++ [(q, .inl (cA, N', .inr (.inr (.inr (.inr (fun _ => none))))))]) (tys ++ [(cA, .object RX7)]) → W p l e R s m args below meth c H1 locs (cells + 1) (slots + N') Q (F0 m (pc + 3) ls (.ref q :: rest))) : W p l e R s m args below meth c H locs cells slots Q (F0 m pc ls (.int n :: rest)) :=
  va_newq J.1.1 J.1.2.1 J.1.2.2.2.1 (J.1.2.2.2.2 _ hl) J.2.2.1 hW.2.2.2 hW.1 hW.2.1 hW.2.2.1 J.2.2.2.1 hn hN hbytes hcells hslots hdg (fun q cA H1 g1 g2 g3 g4 => kk q cA H1 ⟨g2, g3, g4, g1⟩)
theorem j_new {ci N : Nat} {C : String} {T : u_T} {fs : List Value} (J : zJ p s m args meth c cc nL own A) (hW : zB D A s H locs ws tys) (hc : vwCl[ci]? = some (C, T, N)) (hin : ∀ w ∈ u_ws C T N, w ∈ zG) (ty : Nat → FieldType) (hty : ∀ k, k < N → parseFieldDescriptor (T k).2.2.1 = some (ty k)) (hcl : Cond.classLink own index C ∈ zG) (hinst : Cond.instantiable C N ∈ zG) (hini : Cond.initialized C ∈ zG) (hfs : ∀ j, j < N → defaultValue (ty j) = vp_V fs j) (hcells : cells + 1 ≤ R.cells) (hslots : slots + N ≤ R.slots) (hdg : decode cc pc = .ok (.new index, 3))
    (kk : ∀ (q : Nat) (H1 : Heap), zB D A s H1 locs (ws ++ [(q, .inr (ci, fs))]) tys → W p l e R s m args below meth c H1 locs (cells + 1) (slots + N) Q (F0 m (pc + 3) ls (.ref q :: rest))) : W p l e R s m args below meth c H locs cells slots Q (F0 m pc ls rest) :=
  va_new J.1.1 J.1.2.1 J.1.2.2.2.2 hin ty hty J.1.2.2.2.1 (J.1.2.2.2.2 _ hcl) (J.1.2.2.2.2 _ hinst) (J.1.2.2.2.2 _ hini) hW.2.2.2 hW.1 hW.2.1 hW.2.2.1 J.2.2.2.1 hc hfs hcells hslots hdg (fun q H1 g2 g3 g4 => kk q H1 ⟨g2, g3, g4, hW.2.2.2⟩)
theorem j_get {ci N k : Nat} {C ref : String} {T : u_T} {fs : List Value} {v : Value} (J : zJ p s m args meth c cc nL own A) (hW : zB D A s H locs ws tys) (hC : zCl ci C T N) (q0 : Nat) (he : ws[q0]? = some (a, .inr (ci, fs))) (k : Nat) (hk : k < N) (hr : (T k).1 = ref) (hl : Cond.fieldLink own index ref (T k).2.1 (T k).2.2.1 ∈ zG) (hv : fs[k]? = some v) (hdg : decode cc pc = .ok (.getfield index, 3))
    (kk : W p l e R s m args below meth c H locs cells slots Q (F0 m (pc + 3) ls (v :: rest))) : W p l e R s m args below meth c H locs cells slots Q (F0 m pc ls (.ref a :: rest)) :=
  va_get J.1.1 J.1.2.1 J.1.2.2.2.2 hC.2.1 J.1.2.2.2.1 hW.2.2.2 hW.1 q0 he hC.1 k hk (J.1.2.2.2.2 _ hl) (fun x h => by rw [← hr]; exact h) hv hdg kk
theorem j_put {ci N : Nat} {C ref : String} {T : u_T} {fs : List Value} {ty : FieldType} {v : Value} (J : zJ p s m args meth c cc nL own A) (hW : zB D A s H locs ws tys) (hC : zCl ci C T N) (q0 : Nat) (he : ws[q0]? = some (a, .inr (ci, fs))) (k : Nat) (hk : k < N) (hr : (T k).1 = ref) (hl : Cond.fieldLink own index ref (T k).2.1 (T k).2.2.1 ∈ zG) (hfin : (T k).2.2.2 = false) (hd : parseFieldDescriptor (T k).2.2.1 = some ty) (hn : narrow ty v = v) (hfit : fits ty v = true) (hlt : k < fs.length) (hdg : decode cc pc = .ok (.putfield index, 3))
    (kk : ∀ (H1 : Heap) (locs1 : List Loc), zB D A s H1 locs1 (ws.set q0 (a, .inr (ci, fs.set k v))) tys → W p l e R s m args below meth c H1 locs1 cells slots Q (F0 m (pc + 3) ls rest)) : W p l e R s m args below meth c H locs cells slots Q (F0 m pc ls (v :: .ref a :: rest)) := by
  obtain ⟨hC1, hC2, ty0, hC3, hC4⟩ := hC
  exact va_put J.1.1 J.1.2.1 J.1.2.2.2.2 hC2 ty0 hC3 hC4 J.1.2.2.2.1 hW.2.2.2 hW.1 hW.2.1 hW.2.2.1 q0 he hC1 k hk (J.1.2.2.2.2 _ hl) (fun x h => by rw [← hr]; exact h) hfin hd hn hfit hlt hdg (fun H1 locs1 g1 g2 g3 => kk H1 locs1 ⟨g1, g2, g3, hW.2.2.2⟩)
theorem j_putF {ci N : Nat} {C ref : String} {T : u_T} {fs : List Value} {ty : FieldType} {v : Value} (J : zJ p s m args meth c cc nL own A) (hW : zB D A s H locs ws tys) (hC : zCl ci C T N) (q0 : Nat) (he : ws[q0]? = some (a, .inr (ci, fs))) (k : Nat) (hk : k < N) (hr : (T k).1 = ref) (hl : Cond.fieldLink own index ref (T k).2.1 (T k).2.2.1 ∈ zG) (hfin : (T k).2.2.2 = true) (hdecl : (T k).1 = own) (hd : parseFieldDescriptor (T k).2.2.1 = some ty) (hn : narrow ty v = v) (hfit : fits ty v = true) (hlt : k < fs.length) (hdg : decode cc pc = .ok (.putfield index, 3))
    (kk : ∀ (H1 : Heap) (locs1 : List Loc), zB D A s H1 locs1 (ws.set q0 (a, .inr (ci, fs.set k v))) tys → W p l e R s m args below meth c H1 locs1 cells slots Q (F0 m (pc + 3) ls rest)) : W p l e R s m args below meth c H locs cells slots Q (F0 m pc ls (v :: .ref a :: rest)) := by
  obtain ⟨hC1, hC2, ty0, hC3, hC4⟩ := hC
  exact va_putF J.1.1 J.1.2.1 J.1.2.2.2.2 hC2 ty0 hC3 hC4 J.1.2.2.2.1 hW.2.2.2 hW.1 hW.2.1 hW.2.2.1 q0 he hC1 k hk (J.1.2.2.2.2 _ hl) (fun x h => by rw [← hr]; exact h) hfin J.2.2.2.2 hdecl hd hn hfit hlt hdg (fun H1 locs1 g1 g2 g3 => kk H1 locs1 ⟨g1, g2, g3, hW.2.2.2⟩)
theorem j_iald {cA : ClassId} {n : Nat} {f : Nat → Int32} {i : Int32} (J : zJ p s m args meth c cc nL own A) (hW : zB D A s H locs ws tys) (q0 t0 : Nat) (ha : ws[q0]? = some (a, .inl (cA, n, .inl f))) (ht : tys[t0]? = some (cA, .int)) (hin : vp_in i n) (hdg : decode cc pc = .ok (.iaload, 1))
    (kk : W p l e R s m args below meth c H locs cells slots Q (F0 m (pc + 1) ls (.int (f i.toNatClampNeg) :: rest))) : W p l e R s m args below meth c H locs cells slots Q (F0 m pc ls (.int i :: .ref a :: rest)) :=
  va_iald J.1.1 J.1.2.1 hW.2.2.2 hW.1 q0 t0 ha ht hin hdg kk
theorem j_iast {cA : ClassId} {n : Nat} {f : Nat → Int32} {i x : Int32} (J : zJ p s m args meth c cc nL own A) (hW : zB D A s H locs ws tys) (q0 t0 : Nat) (ha : ws[q0]? = some (a, .inl (cA, n, .inl f))) (ht : tys[t0]? = some (cA, .int)) (hin : vp_in i n) (hdg : decode cc pc = .ok (.iastore, 1))
    (kk : ∀ (H1 : Heap) (locs1 : List Loc), zB D A s H1 locs1 (ws.set q0 (a, .inl (cA, n, .inl (upd f i.toNatClampNeg x)))) tys → W p l e R s m args below meth c H1 locs1 cells slots Q (F0 m (pc + 1) ls rest)) : W p l e R s m args below meth c H locs cells slots Q (F0 m pc ls (.int x :: .int i :: .ref a :: rest)) :=
  va_iast J.1.1 J.1.2.1 hW.2.2.2 hW.1 hW.2.1 hW.2.2.1 q0 t0 ha ht hin hdg (fun H1 locs1 g1 g2 g3 => kk H1 locs1 ⟨g1, g2, g3, hW.2.2.2⟩)
theorem j_astq {cA : ClassId} {r : vw_C} {n v ci : Nat} {vs : List Value} {f : Nat → Option Nat} {i : Int32} (J : zJ p s m args meth c cc nL own A) (hW : zB D A s H locs ws tys) (q0 t0 qk : Nat) (ha : ws[q0]? = some (a, .inl (cA, n, .inr (.inr (.inr (.inr f)))))) (ht : tys[t0]? = some (cA, .object r.1)) (hv : ws[qk]? = some (v, .inr (ci, vs))) (hc : vwCl[ci]? = some r) (hin : vp_in i n) (hdg : decode cc pc = .ok (.aastore, 1))
    (kk : ∀ (H1 : Heap) (locs1 : List Loc), zB D A s H1 locs1 (ws.set q0 (a, .inl (cA, n, .inr (.inr (.inr (.inr (va_up f i.toNatClampNeg (some v)))))))) tys → W p l e R s m args below meth c H1 locs1 cells slots Q (F0 m (pc + 1) ls rest)) : W p l e R s m args below meth c H locs cells slots Q (F0 m pc ls (.ref v :: .int i :: .ref a :: rest)) :=
  va_astq J.1.1 J.1.2.1 hW.2.2.2 hW.1 hW.2.1 hW.2.2.1 q0 t0 qk ci ha ht hv hc hin hdg (fun H1 locs1 g1 g2 g3 => kk H1 locs1 ⟨g1, g2, g3, hW.2.2.2⟩)
theorem j_pre {b : Nat} {wc : va_W} (J : zJ p s m args meth c cc nL own A) (hW : zB D A s H locs ws tys) (isC : List Nat) (hC : isC.map (fun i => ws[i]?) = wc.map some) (hn : va_nd isC = true) : PreS s H (va_Pc [.ref b] (zI0 D H.size wc)) [.ref b] := by
  have hs : isC.filterMap (fun i => ws[i]?) = wc := by
    have h1 : (isC.map (fun i => ws[i]?)).filterMap id = (wc.map some).filterMap id := by rw [hC]
    rw [List.filterMap_map, List.filterMap_map] at h1
    have h2 : wc.filterMap (id ∘ some) = wc := by
      show wc.filterMap some = wc
      exact List.filterMap_some
    rw [h2] at h1
    exact h1
  exact ⟨fun a U g mk q => by
    obtain ⟨q0, q1, qP, qK, qD, qN, qA⟩ := q
    exact ⟨q0, q1, qP, va_K.moved (u := U) (U := U.calling g mk a) (Vm.Alike.refl U.vm) qK, qD, zNs_same (u := U) (U := U.calling g mk a) rfl qN, va_AO.moved (u := U) (U := U.calling g mk a) (Vm.Alike.refl U.vm) qA⟩,
   fun U hU hWm => ⟨rfl, by rw [hU], by rw [hU]; exact hW.1.sub isC hs, va_K.moved hWm.alike (hW.2.2.2.sub [] rfl), (hW.2.1.sub isC hn hC).weaken (fun _ _ _ _ => trivial), zNs_moved hWm J.2.1, va_AO.moved hWm.alike J.2.2.1⟩⟩
/-- a private constructor of a nest mate; one of another class -/
theorem j_callN {S : Type} {post : S → Prop} {w1 : S → va_W} {t1 : S → List (ClassId × FieldType)} {mc ms maxL b : Nat} {bytes : ByteArray} {rm : Room} {wc wr : va_W} {host : String} (J : zJ p s m args meth c cc nL own A) (hW : zB D A s H locs ws tys) (isC isR : List Nat) (hC : isC.map (fun i => ws[i]?) = wc.map some) (hnC : va_nd isC = true) (hRR : isR.map (fun i => ws[i]?) = wr.map some) (hnR : va_nd isR = true) (hdis : ∀ i ∈ isR, i ∉ isC) (hc : zCal y bytes maxL none) (hin : Cond.instanceMethod y ∈ zG) (hlk : Cond.methodLinkNest own index y host ∈ zN) (hyn : y.name = "<init>") (hpar : (parseMethodDescriptor y.desc).map (fun d => d.parameters.length) = some 0) (hrm : rm.cells = mc ∧ rm.slots = ms) (hR : rm.frames + 1 ≤ R.frames ∧ 8 + (maxL + 11) + rm.locals ≤ R.locals) (hM : zIc l y bytes maxL rm D b wc post w1 t1 mc ms) (hls : ls.size = nL) (hsum : (rest.map fun v => v.category).sum ≤ 8) (hf : cells + mc ≤ R.cells ∧ slots + ms ≤ R.slots) (hdg : decode cc pc = .ok (.invokespecial index, 3))
    (kk : ∀ (u : S) (H1 : Heap) (locs1 : List Loc), post u → zB D A s H1 locs1 (wr ++ w1 u) (tys ++ t1 u) → W p l e R s m args below meth c H1 locs1 (cells + mc) (slots + ms) Q (F0 m (pc + 3) ls rest)) : W p l e R s m args below meth c H locs cells slots Q (F0 m pc ls (.ref b :: rest)) := by
  have hF := va_free (wc := wc) hW.2.1 hW.2.2.1 J.2.2.2.1 isC hC
  refine va_callv (va_runIN (As := []) J.1 (hM H.size) ⟨va_cnB 0 J.1.2.2.2.2 (z_good hc.1) rfl hrm.1 hrm.2 (J.2.1 _ hlk) (J.1.2.2.2.2 _ hc.2.1) ⟨hc.2.2.1, hc.2.2.2, hpar⟩ hR, hyn, J.1.2.2.2.2 _ hin⟩ (j_pre J hW isC hC hnC) rfl rfl hls rfl (lv_room hsum) hdg hf) hW.2.2.1 (fun q _ h => hF q h) hF (fun u t H1 locs1 ht hvm hw hB hz1 hk1 hS => ?_)
  obtain ⟨hP1, hK1, hD1⟩ := hB
  rw [ht] at hP1
  obtain ⟨hP, hD⟩ := va_join hW.1 hW.2.1 isC isR hC hRR hnR hdis hk1 hF hP1 hD1
  exact kk u H1 locs1 hw ⟨hP, hD, hS, hW.2.2.2.app (va_K.moved hvm.symm hK1)⟩
theorem j_call {S : Type} {post : S → Prop} {w1 : S → va_W} {t1 : S → List (ClassId × FieldType)} {mc ms maxL b : Nat} {bytes : ByteArray} {rm : Room} {wc wr : va_W} (J : zJ p s m args meth c cc nL own A) (hW : zB D A s H locs ws tys) (isC isR : List Nat) (hC : isC.map (fun i => ws[i]?) = wc.map some) (hnC : va_nd isC = true) (hRR : isR.map (fun i => ws[i]?) = wr.map some) (hnR : va_nd isR = true) (hdis : ∀ i ∈ isR, i ∉ isC) (hc : zCal y bytes maxL none) (hin : Cond.instanceMethod y ∈ zG) (hlk : Cond.methodLink own index y ∈ zG) (hyn : y.name = "<init>") (hpar : (parseMethodDescriptor y.desc).map (fun d => d.parameters.length) = some 0) (hrm : rm.cells = mc ∧ rm.slots = ms) (hR : rm.frames + 1 ≤ R.frames ∧ 8 + (maxL + 11) + rm.locals ≤ R.locals) (hM : zIc l y bytes maxL rm D b wc post w1 t1 mc ms) (hls : ls.size = nL) (hsum : (rest.map fun v => v.category).sum ≤ 8) (hf : cells + mc ≤ R.cells ∧ slots + ms ≤ R.slots) (hdg : decode cc pc = .ok (.invokespecial index, 3))
    (kk : ∀ (u : S) (H1 : Heap) (locs1 : List Loc), post u → zB D A s H1 locs1 (wr ++ w1 u) (tys ++ t1 u) → W p l e R s m args below meth c H1 locs1 (cells + mc) (slots + ms) Q (F0 m (pc + 3) ls rest)) : W p l e R s m args below meth c H locs cells slots Q (F0 m pc ls (.ref b :: rest)) := by
  have hF := va_free (wc := wc) hW.2.1 hW.2.2.1 J.2.2.2.1 isC hC
  refine va_callv (va_runI (As := []) J.1 (hM H.size) ⟨callB_of 0 J.1.2.2.2.2 (z_good hc.1) rfl hrm.1 hrm.2 (J.1.2.2.2.2 _ hc.2.1) (J.1.2.2.2.2 _ hlk) ⟨hc.2.2.1, hc.2.2.2, hpar⟩ hR, hyn, J.1.2.2.2.2 _ hin⟩ (j_pre J hW isC hC hnC) rfl rfl hls rfl (lv_room hsum) hdg hf) hW.2.2.1 (fun q _ h => hF q h) hF (fun u t H1 locs1 ht hvm hw hB hz1 hk1 hS => ?_)
  obtain ⟨hP1, hK1, hD1⟩ := hB
  rw [ht] at hP1
  obtain ⟨hP, hD⟩ := va_join hW.1 hW.2.1 isC isR hC hRR hnR hdis hk1 hF hP1 hD1
  exact kk u H1 locs1 hw ⟨hP, hD, hS, hW.2.2.2.app (va_K.moved hvm.symm hK1)⟩
end ZJ
