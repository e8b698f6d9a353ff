/-! constructors: rows that make cells -/
theorem RA_i {s : State} {a b : ClassId} (h1 : va_RA s a .int) (h2 : va_RA s b .int) : a = b := Option.some.inj (Eq.trans (Eq.symm h1) h2)
theorem RA_j {s : State} {a b : ClassId} (h1 : va_RA s a .long) (h2 : va_RA s b .long) : a = b := Option.some.inj (Eq.trans (Eq.symm h1) h2)
theorem RA_z {s : State} {a b : ClassId} (h1 : va_RA s a .boolean) (h2 : va_RA s b .boolean) : a = b := Option.some.inj (Eq.trans (Eq.symm h1) h2)
theorem RA_q {s : State} {C : String} {a b : ClassId} (h1 : va_RA s a (.object C)) (h2 : va_RA s b (.object C)) : a = b := by
  obtain ⟨k1, c1, -, -, -, e1⟩ := h1
  obtain ⟨k2, c2, -, -, -, e2⟩ := h2
  exact Option.some.inj (e1.symm.trans e2)
section GC
variable {p : Program} {l : Launch} {e : Env} {R : Room} {s : State} {m : MethodId} {args : Array Value} {below : List Frame} {meth : Method} {c : Code} {Q : State → Prop} {cc : ByteArray} {nL kc ks : Nat} {ret : Option FieldType} {Ts : List Cond} {own : String} {D : va_G} {tys : List (ClassId × FieldType)} {A : Nat → Prop} {ws ws' : va_W} {lv lv' : List (Nat × Value)} {pc : Nat} {st : List Value}
theorem g_sub (is : List Nat) (ws' : va_W) (hnd : va_nd is = true) (hs : is.map (fun i => ws[i]?) = ws'.map some) (kk : G p l e R s m args below meth c D A nL kc ks Q ws' lv pc st) : G p l e R s m args below meth c D A nL kc ks Q ws lv pc st := by
  intro H locs ls hP hD hS hl
  refine kk H locs ls ?_ (hD.sub is hnd hs) hS hl
  intro k q hk
  have h1 : (is.map (fun i => ws[i]?))[k]? = some (some q) := by rw [hs, List.getElem?_map, hk]; rfl
  rw [List.getElem?_map] at h1
  cases hi : is[k]? with
  | none => rw [hi] at h1; cases h1
  | some i => rw [hi] at h1; exact hP i q (Option.some.inj h1)
theorem g_objInit (C : Cx p s m args meth c cc nL ret Ts own D tys A) {idx a : Nat} (h1 : Cond.methodLink own idx objectInit ∈ Ts) (h2 : Cond.instanceMethod objectInit ∈ Ts) (h3 : Cond.code objectInit ⟨#[0xb1]⟩ 1 none ∈ Ts) (hdg : decode cc pc = .ok (.invokespecial idx, 3)) (hR : decide (1 ≤ R.frames) = true) (hL : decide ((st.map fun v => v.category).sum + 12 ≤ R.locals) = true) (kk : G p l e R s m args below meth c D A nL kc ks Q ws lv (pc + 3) st) : G p l e R s m args below meth c D A nL kc ks Q ws lv pc (.ref a :: st) := by
  intro H locs ls hP hD hS hl
  refine W.objInit C.1 C.2.1 C.2.2.2.1 (C.2.2.2.2.1 _ h1) (C.2.2.2.2.1 _ h2) (C.2.2.2.2.1 _ h3) rfl (by rw [C.2.2.1]; exact hl.1) rfl hdg (of_decide_eq_true hR) (by have h := of_decide_eq_true hL; show 2 * 0 + _ + 12 ≤ _; omega) ?_
  refine W.eq (g2 := F0 m (pc + 3) ls st) rfl ?_
  exact kk H locs ls hP hD hS hl
theorem g_new (C : Cx p s m args meth c cc nL ret Ts own D tys A) {Cn : String} {T : u_T} {N index : Nat} (ci : Nat) (hin : ∀ w ∈ u_ws Cn T N, w ∈ Ts) (ty : Nat → FieldType) (hty : ∀ k, k < N → parseFieldDescriptor (T k).2.2.1 = some (ty k)) (hcl : Cond.classLink own index Cn ∈ Ts) (hinst : Cond.instantiable Cn N ∈ Ts) (hini : Cond.initialized Cn ∈ Ts) (hc : vwCl[ci]? = some (Cn, T, N)) (fs : List Value) (hfs : (List.range N).all (fun j => decide (defaultValue (ty j) = vp_V fs j)) = true) (hcells : kc + 1 ≤ R.cells) (hslots : ks + N ≤ R.slots) (hdg : decode cc pc = .ok (.new index, 3))
    (kk : ∀ q : Nat, G p l e R s m args below meth c D A nL (kc + 1) (ks + N) Q (ws ++ [(q, .inr (ci, fs))]) lv (pc + 3) (.ref q :: st)) : G p l e R s m args below meth c D A nL kc ks Q ws lv pc st :=
  fun H locs ls hP hD hS hl => va_new C.1 C.2.1 C.2.2.2.2.1 hin ty hty C.2.2.2.1 (C.2.2.2.2.1 _ hcl) (C.2.2.2.2.1 _ hinst) (C.2.2.2.2.1 _ hini) C.2.2.2.2.2.1 hP hD hS C.2.2.2.2.2.2.1 hc (fun j hj => of_decide_eq_true (List.all_eq_true.mp hfs j (List.mem_range.mpr hj))) hcells hslots hdg (fun q H1 hP hD hS => kk q H1 locs ls hP hD hS hl)
theorem g_newa (C : Cx p s m args meth c cc nL ret Ts own D tys A) {atype : ArrayType} (ty : FieldType) (hty : newarray.typeOf atype = ty) (hw : Cond.arrayClass (newarray.typeOf atype) ∈ Ts) (t0 : Nat) (c0 : ClassId) (ht : tys[t0]? = some (c0, ty)) (hRA : ∀ cA : ClassId, va_RA s cA ty → va_RA s c0 ty → cA = c0) {n : Int32} (N' : Nat) (a0 : vp_A) (ha : ∀ cA : ClassId, vp_cell cA a0 = arrV cA N' (fun _ => defaultValue ty)) (hn : ¬ n < 0) (hN : n.toNatClampNeg = N') (hbytes : N' * componentBytes ty ≤ 536870912) (hcells : kc + 1 ≤ R.cells) (hslots : ks + N' ≤ R.slots) (hdg : decode cc pc = .ok (.newarray atype, 2))
    (kk : ∀ q : Nat, G p l e R s m args below meth c D A nL (kc + 1) (ks + N') Q (ws ++ [(q, .inl (c0, a0))]) lv (pc + 2) (.ref q :: st)) : G p l e R s m args below meth c D A nL kc ks Q ws lv pc (.int n :: st) :=
  fun H locs ls hP hD hS hl => va_newa C.1 C.2.1 (C.2.2.2.2.1 _ hw) hty C.2.2.2.2.2.1 hP hD hS C.2.2.2.2.2.2.1 ha hn hN hbytes hcells hslots hdg (fun q cA H1 hK' hP' hD' hS' => by
    have e : cA = c0 := hRA cA (hK'.2 tys.length (cA, ty) (by simp)).2 (C.2.2.2.2.2.1.2 t0 _ ht).2
    rw [e] at hP' hD'
    exact kk q H1 locs ls hP' hD' hS' hl)
theorem g_newq (C : Cx p s m args meth c cc nL ret Ts own D tys A) {Cn : String} {index : Nat} (hcl : Cond.classLink own index Cn ∈ Ts) (hover : va_AO Cn s) (t0 : Nat) (c0 : ClassId) (ht : tys[t0]? = some (c0, .object Cn)) {n : Int32} (N' : Nat) (hn : ¬ n < 0) (hN : n.toNatClampNeg = N') (hbytes : N' * 4 ≤ 536870912) (hcells : kc + 1 ≤ R.cells) (hslots : ks + N' ≤ R.slots) (hdg : decode cc pc = .ok (.anewarray index, 3))
    (kk : ∀ q : Nat, G p l e R s m args below meth c D A nL (kc + 1) (ks + N') Q (ws ++ [(q, .inl (c0, N', .inr (.inr (.inr (.inr (fun _ => none))))))]) lv (pc + 3) (.ref q :: st)) : G p l e R s m args below meth c D A nL kc ks Q ws lv pc (.int n :: st) :=
  fun H locs ls hP hD hS hl => va_newq C.1 C.2.1 C.2.2.2.1 (C.2.2.2.2.1 _ hcl) hover C.2.2.2.2.2.1 hP hD hS C.2.2.2.2.2.2.1 hn hN hbytes hcells hslots hdg (fun q cA H1 hK' hP' hD' hS' => by
    have e : cA = c0 := RA_q (hK'.2 tys.length (cA, .object Cn) (by simp)).2 (C.2.2.2.2.2.1.2 t0 _ ht).2
    rw [e] at hP' hD'
    exact kk q H1 locs ls hP' hD' hS' hl)
theorem g_aast (C : Cx p s m args meth c cc nL ret Ts own D tys A) (q0 t0 qk ci : Nat) {a : Nat} (cA : ClassId) {r : vw_C} {n v : Nat} {vs : List Value} (f : Nat → Option Nat) (ha : ws[q0]? = some (a, .inl (cA, n, .inr (.inr (.inr (.inr f)))))) (ht : tys[t0]? = some (cA, .object r.1)) (hv : ws[qk]? = some (v, .inr (ci, vs))) (hc : vwCl[ci]? = some r) {i : Int32} (hin : vp_in i n) (hdg : decode cc pc = .ok (.aastore, 1)) (ws' : va_W) (hw : ws.set q0 (a, .inl (cA, n, .inr (.inr (.inr (.inr (va_up f i.toNatClampNeg (some v))))))) = ws')
    (kk : G p l e R s m args below meth c D A nL kc ks Q ws' lv (pc + 1) st) : G p l e R s m args below meth c D A nL kc ks Q ws lv pc (.ref v :: .int i :: .ref a :: st) :=
  fun H locs ls hP hD hS hl => va_astq C.1 C.2.1 C.2.2.2.2.2.1 hP hD hS q0 t0 qk ci ha ht hv hc hin hdg (fun H locs hP hD hS => kk H locs ls (hw ▸ hP) (hw ▸ hD) hS hl)
end GC
/-- the contract of a constructor: the cells it makes -/
def CtN (l : Launch) (y : MethodName) (Tc : List Cond) (rm : Room) (D : va_G) (tys : List (ClassId × FieldType)) (b : Nat) (wc : va_W) (mc ms : Nat) {S : Type} (w1 : S → va_W) : Prop :=
  ∀ sz : Nat, Met l y Tc rm (va_Pc [.ref b] (PreW D tys wc sz)) (va_Qv (fun _ : S => True) (fun u t => va_P D vwCl (w1 u) t.heap ∧ va_D (va_A wc sz) (w1 u)) (va_A wc sz)) mc ms (va_A wc sz)
theorem CtN.of {l : Launch} {y : MethodName} {Tc Tc' : List Cond} {rm : Room} {D : va_G} {tys : List (ClassId × FieldType)} {b : Nat} {wc : va_W} {mc ms : Nat} {S : Type} {w1 : S → va_W} {cc : ByteArray} {maxL : Nat} (own : String) (ho : y.cls = own) (hn : y.name = "<init>") (hy : plainName y.cls = true) (hw : Tc = Cond.code y cc maxL none :: Tc') (hl0 : decide ((lg_sl [.ref b]).length ≤ maxL) = true)
    (body : ∀ (p : Program) (e : Env) (s : State) (m : MethodId) (args : Array Value) (below : List Frame) (meth : Method) (c : Code) (A : Nat → Prop) (Q : State → Prop), Cx p s m args meth c cc maxL none Tc own D tys A → meth.name = "<init>" → (∀ (u : S) (ws : va_W) (lv : List (Nat × Value)) (pc : Nat), decode cc pc = .ok (.return_, 1) → w1 u = ws → G p l e rm s m args below meth c D A maxL mc ms Q ws lv pc []) → G p l e rm s m args below meth c D A maxL 0 0 Q wc [(0, .ref b)] 0 []) : CtN l y Tc rm D tys b wc mc ms w1 := by
  intro sz
  refine Met.ofW (cc := cc) (maxL := maxL) (ret := none) hy hw ?_
  intro p e s m args below meth c s₁ B hml hv
  have hsz : s.heap.size = sz := hv.2.1
  have hin : meth.name = "<init>" := ((name_of_methodNamed B.named B.method).1).trans hn
  have hg := Ct_body (Qm := fun _ _ => True) own ho hl0 [(0, .ref b)] rfl B hml hv (fun hC => body p e s m args below meth c _ (MQ below (va_Qv (fun _ : S => True) (fun u t => va_P D vwCl (w1 u) t.heap ∧ va_D (va_A wc s.heap.size) (w1 u)) (va_A wc s.heap.size)) args s mc ms (va_A wc s.heap.size)) hC hin (fun u ws lv pc hdg hw => fun H locs ls hP hD hS hl => W.vret hC.1 hC.2.1 hC.2.2.2.2.2.2.2.1 (fun t ht hW => ⟨⟨u, rfl, trivial, by show va_P D vwCl (w1 u) t.heap ∧ _; rw [ht, hw]; exact ⟨hP, hD⟩⟩, hS.F ht⟩) hS.2.2 hdg hC.2.2.2.2.2.2.2.2.1))
  rw [← hsz]
  exact hg
section GD
variable {p : Program} {l : Launch} {e : Env} {R : Room} {s : State} {m : MethodId} {args : Array Value} {below : List Frame} {meth : Method} {c : Code} {Q : State → Prop} {cc : ByteArray} {nL kc ks : Nat} {ret : Option FieldType} {Ts : List Cond} {own : String} {D : va_G} {tys : List (ClassId × FieldType)} {A : Nat → Prop} {ws : va_W} {lv : List (Nat × Value)} {pc : Nat} {rest : List Value}
variable {y : MethodName} {Tc Tc' : List Cond} {rm : Room} {b : Nat} {wc : va_W} {S : Type} {w1 : S → va_W} {bytes : ByteArray} {maxL index mc ms : Nat}
theorem g_callN (C : Cx p s m args meth c cc nL ret Ts own D tys A) (hM : CtN l y Tc rm D tys b wc mc ms w1) (hG : GoodIn Ts Tc) (hw : Tc = Cond.code y bytes maxL none :: Tc') (hrm : rm.cells = mc) (hrs : rm.slots = ms) {host : String} (qn : Nat) (hlink : nestM[qn]? = some (own, index, y, host)) (hini : Cond.initialized y.cls ∈ Ts) (hinst : Cond.instanceMethod y ∈ Ts) (hy1 : y.name = "<init>") (hd : y.cls ≠ "java/lang/invoke/MethodHandle" ∧ y.cls ≠ "java/lang/invoke/VarHandle" ∧ (parseMethodDescriptor y.desc).map (fun d => d.parameters.length) = some 0) (hR : rm.frames + 1 ≤ R.frames ∧ 8 + (maxL + 11) + rm.locals ≤ R.locals) (hkc : kc + mc ≤ R.cells ∧ ks + ms ≤ R.slots) (hroom : (rest.map fun v => v.category).sum ≤ 8) (isC isR : List Nat) (wr : va_W) (hC : isC.map (fun i => ws[i]?) = wc.map some) (hRr : isR.map (fun i => ws[i]?) = wr.map some) (hnC : va_nd isC = true) (hn : va_nd isR = true) (hdis : (isR.all fun i => decide (i ∉ isC)) = true) (hdg : decode cc pc = .ok (.invokespecial index, 3))
    (kk : ∀ u : S, G p l e R s m args below meth c D A nL (kc + mc) (ks + ms) Q (wr ++ w1 u) lv (pc + 3) rest) : G p l e R s m args below meth c D A nL kc ks Q ws lv pc (.ref b :: rest) := by
  intro H locs ls hP hD hS hl
  have hPc : va_P D vwCl wc H := by
    intro k q hk
    have h1 : (isC.map (fun i => ws[i]?))[k]? = some (some q) := by rw [hC, List.getElem?_map, hk]; rfl
    rw [List.getElem?_map] at h1
    cases hi : isC[k]? with
    | none => rw [hi] at h1; cases h1
    | some i => rw [hi] at h1; exact hP i q (Option.some.inj h1)
  have hDc := hD.sub isC hnC hC
  have hFc := va_free (wc := wc) hD hS C.2.2.2.2.2.2.1 isC hC
  refine va_callv (va_runIN (As := []) (rest := rest) ⟨C.1, C.2.1, C.2.2.1, C.2.2.2.1, C.2.2.2.2.1⟩ (hM H.size) ⟨va_cnB 0 C.2.2.2.2.1 hG hw hrm hrs (C.2.2.2.2.2.2.2.2.2.2 _ (List.mem_of_getElem? hlink)).1 (C.2.2.2.2.1 _ hini) hd hR, hy1, C.2.2.2.2.1 _ hinst⟩ ⟨PreW_blind, fun U hU hW => ⟨rfl, by rw [hU], by rw [hU]; exact hPc, va_K.moved hW.alike C.2.2.2.2.2.1, hDc.weaken (fun _ _ _ _ => trivial), NestOK.warm hW C.2.2.2.2.2.2.2.2.2⟩⟩ rfl rfl hl.1 rfl (lv_room hroom) hdg hkc) hS (fun q _ h => hFc q h) hFc (fun u t H1 locs1 ht hvm hw1 hB hz1 hk1 hS1 => ?_)
  have hP1 : va_P D vwCl (w1 u) H1 := by rw [← ht]; exact hB.1
  obtain ⟨hP2, hD2⟩ := va_join (wr := wr) (w1 := w1 u) hP hD isC isR hC hRr hn (fun i hi => of_decide_eq_true (List.all_eq_true.mp hdis i hi)) hk1 hFc hP1 hB.2
  exact kk u H1 locs1 ls hP2 hD2 hS1 hl
theorem g_callI (C : Cx p s m args meth c cc nL ret Ts own D tys A) (hM : CtN l y Tc rm D tys b wc mc ms w1) (hG : GoodIn Ts Tc) (hw : Tc = Cond.code y bytes maxL none :: Tc') (hrm : rm.cells = mc) (hrs : rm.slots = ms) (hlink : Cond.methodLink own index y ∈ Ts) (hini : Cond.initialized y.cls ∈ Ts) (hinst : Cond.instanceMethod y ∈ Ts) (hy1 : y.name = "<init>") (hd : y.cls ≠ "java/lang/invoke/MethodHandle" ∧ y.cls ≠ "java/lang/invoke/VarHandle" ∧ (parseMethodDescriptor y.desc).map (fun d => d.parameters.length) = some 0) (hR : rm.frames + 1 ≤ R.frames ∧ 8 + (maxL + 11) + rm.locals ≤ R.locals) (hkc : kc + mc ≤ R.cells ∧ ks + ms ≤ R.slots) (hroom : (rest.map fun v => v.category).sum ≤ 8) (isC isR : List Nat) (wr : va_W) (hC : isC.map (fun i => ws[i]?) = wc.map some) (hRr : isR.map (fun i => ws[i]?) = wr.map some) (hnC : va_nd isC = true) (hn : va_nd isR = true) (hdis : (isR.all fun i => decide (i ∉ isC)) = true) (hdg : decode cc pc = .ok (.invokespecial index, 3))
    (kk : ∀ u : S, G p l e R s m args below meth c D A nL (kc + mc) (ks + ms) Q (wr ++ w1 u) lv (pc + 3) rest) : G p l e R s m args below meth c D A nL kc ks Q ws lv pc (.ref b :: rest) := by
  intro H locs ls hP hD hS hl
  have hPc : va_P D vwCl wc H := by
    intro k q hk
    have h1 : (isC.map (fun i => ws[i]?))[k]? = some (some q) := by rw [hC, List.getElem?_map, hk]; rfl
    rw [List.getElem?_map] at h1
    cases hi : isC[k]? with
    | none => rw [hi] at h1; cases h1
    | some i => rw [hi] at h1; exact hP i q (Option.some.inj h1)
  have hDc := hD.sub isC hnC hC
  have hFc := va_free (wc := wc) hD hS C.2.2.2.2.2.2.1 isC hC
  refine va_callv (va_runI (As := []) (rest := rest) ⟨C.1, C.2.1, C.2.2.1, C.2.2.2.1, C.2.2.2.2.1⟩ (hM H.size) (cwI 0 C.2.2.2.2.1 hG hw hrm hrs (C.2.2.2.2.1 _ hini) (C.2.2.2.2.1 _ hlink) (C.2.2.2.2.1 _ hinst) hy1 hd hR) ⟨PreW_blind, fun U hU hW => ⟨rfl, by rw [hU], by rw [hU]; exact hPc, va_K.moved hW.alike C.2.2.2.2.2.1, hDc.weaken (fun _ _ _ _ => trivial), NestOK.warm hW C.2.2.2.2.2.2.2.2.2⟩⟩ rfl rfl hl.1 rfl (lv_room hroom) hdg hkc) hS (fun q _ h => hFc q h) hFc (fun u t H1 locs1 ht hvm hw1 hB hz1 hk1 hS1 => ?_)
  have hP1 : va_P D vwCl (w1 u) H1 := by rw [← ht]; exact hB.1
  obtain ⟨hP2, hD2⟩ := va_join (wr := wr) (w1 := w1 u) hP hD isC isR hC hRr hn (fun i hi => of_decide_eq_true (List.all_eq_true.mp hdis i hi)) hk1 hFc hP1 hB.2
  exact kk u H1 locs1 ls hP2 hD2 hS1 hl
end GD
