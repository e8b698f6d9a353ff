/-- the world behind a call: the cells that the mask names are the callee's -/
def mkw (ws : va_W) (mask : List (Option Nat)) (w1 : va_W) : va_W := (ws.zip mask).map (fun x => match x.2 with | none => x.1 | some j => (w1[j]?).getD x.1)
theorem va_D_fst {A : Nat → Prop} {ws ws' : va_W} (hD : va_D A ws) (h : ws'.map (fun x => x.1) = ws.map (fun x => x.1)) : va_D A ws' := by
  have key : ∀ (k : Nat) (q : Nat × va_E), ws'[k]? = some q → ∃ q', ws[k]? = some q' ∧ q'.1 = q.1 := by
    intro k q hq
    have h1 : (ws'.map (fun x => x.1))[k]? = some q.1 := by rw [List.getElem?_map, hq]; rfl
    rw [h, List.getElem?_map] at h1
    cases hk : ws[k]? with
    | none => rw [hk] at h1; cases h1
    | some q' => rw [hk] at h1; exact ⟨q', rfl, Option.some.inj h1⟩
  refine ⟨fun i j x y hi hj hxy => ?_, fun k q hk => ?_⟩
  · obtain ⟨x', h1, e1⟩ := key i x hi
    obtain ⟨y', h2, e2⟩ := key j y hj
    exact hD.1 i j x' y' h1 h2 (by rw [e1, e2, hxy])
  · obtain ⟨q', h1, e1⟩ := key k q hk
    rw [← e1]
    exact hD.2 k q' h1
theorem mkw_join {A0 : Nat → Prop} {D : va_G} {ws wc w1 ws' : va_W} {H H1 : Heap} (hP : va_P D vwCl ws H) (hD : va_D A0 ws) (is : List Nat) (mask : List (Option Nat)) (hC : is.map (fun i => ws[i]?) = wc.map some) (hw : mkw ws mask w1 = ws') (hfst : ws'.map (fun x => x.1) = ws.map (fun x => x.1)) (hin : is.all (fun i => (mask[i]?.getD none).isSome) = true) (hj : mask.all (fun o => match o with | none => true | some j => decide (j < w1.length)) = true) (hk : ∀ q : Nat, q < H.size → ¬ va_A wc H.size q → H1[q]? = H[q]?) (hP1 : va_P D vwCl w1 H1) : va_P D vwCl ws' H1 ∧ va_D A0 ws' := by
  refine ⟨fun k q hq => ?_, va_D_fst hD hfst⟩
  rw [← hw] at hq
  unfold mkw at hq
  rw [List.getElem?_map] at hq
  cases hz : (ws.zip mask)[k]? with
  | none => rw [hz] at hq; cases hq
  | some xo =>
    obtain ⟨x, o⟩ := xo
    rw [hz] at hq
    rw [List.getElem?_zip_eq_some] at hz
    obtain ⟨hx, ho⟩ := hz
    cases o with
    | none =>
      have hqx : x = q := Option.some.inj hq
      subst hqx
      have hl := (hP k x hx).lt
      refine (hP k x hx).kept (hk x.1 hl (fun h => ?_))
      rcases h with ⟨j, e, h⟩ | h
      · have h1 : (is.map (fun i => ws[i]?))[j]? = some (some (x.1, e)) := by rw [hC, List.getElem?_map, h]; rfl
        rw [List.getElem?_map] at h1
        cases hi : is[j]? with
        | none => rw [hi] at h1; cases h1
        | some i =>
          rw [hi] at h1
          have h2 : ws[i]? = some (x.1, e) := Option.some.inj h1
          have h3 := hD.1 i k (x.1, e) x h2 hx rfl
          subst h3
          have h4 := List.all_eq_true.mp hin i (List.mem_of_getElem? hi)
          rw [ho] at h4
          cases h4
      · omega
    | some j =>
      have h1 := List.all_eq_true.mp hj (some j) (List.mem_of_getElem? ho)
      have h2 : j < w1.length := of_decide_eq_true h1
      have h3 : w1[j]? = some w1[j] := List.getElem?_eq_getElem h2
      have h4 : (w1[j]?).getD x = q := Option.some.inj hq
      rw [h3] at h4
      have h5 : w1[j] = q := h4
      rw [← h5]
      exact hP1 j _ h3
def PreW (D : va_G) (tys : List (ClassId × FieldType)) (wc : va_W) (sz : Nat) (U : State) : Prop := U.heap.size = sz ∧ va_P D vwCl wc U.heap ∧ va_K D vwCl tys U ∧ va_D (fun _ => True) wc ∧ NestOK U
theorem PreW_blind {D : va_G} {tys : List (ClassId × FieldType)} {wc : va_W} {sz : Nat} {av : List Value} : FrameBlind (va_Pc av (PreW D tys wc sz)) := fun a U g mk q => by
  obtain ⟨q0, q1, qP, qK, qD, qN⟩ := q
  exact ⟨q0, q1, qP, va_K.moved (u := U) (U := U.calling g mk a) (Vm.Alike.refl U.vm) qK, qD, NestOK.same (s := U) (U := U.calling g mk a) rfl qN⟩
/-- the contracts: of a method that makes nothing, by its answer -/
def CtI (l : Launch) (y : MethodName) (Tc : List Cond) (rm : Room) (D : va_G) (tys : List (ClassId × FieldType)) (av : List Value) (wc : va_W) {S : Type} (post : Int32 → S → Prop) (w1 : S → va_W) : Prop :=
  ∀ sz : Nat, Met l y Tc rm (va_Pc av (PreW D tys wc sz)) (va_Qi post (fun u t => va_P D vwCl (w1 u) t.heap) (va_A wc sz)) 0 0 (va_A wc sz)
def CtL (l : Launch) (y : MethodName) (Tc : List Cond) (rm : Room) (D : va_G) (tys : List (ClassId × FieldType)) (av : List Value) (wc : va_W) {S : Type} (post : Int64 → S → Prop) (w1 : S → va_W) : Prop :=
  ∀ sz : Nat, Met l y Tc rm (va_Pc av (PreW D tys wc sz)) (va_Ql post (fun u t => va_P D vwCl (w1 u) t.heap) (va_A wc sz)) 0 0 (va_A wc sz)
def CtV (l : Launch) (y : MethodName) (Tc : List Cond) (rm : Room) (D : va_G) (tys : List (ClassId × FieldType)) (av : List Value) (wc : va_W) {S : Type} (post : S → Prop) (w1 : S → va_W) : Prop :=
  ∀ sz : Nat, Met l y Tc rm (va_Pc av (PreW D tys wc sz)) (va_Qv post (fun u t => va_P D vwCl (w1 u) t.heap) (va_A wc sz)) 0 0 (va_A wc sz)
def QI {S : Type} (below : List Frame) (args : Array Value) (s : State) (D : va_G) (wc : va_W) (post : Int32 → S → Prop) (w1 : S → va_W) : State → Prop := MQ below (va_Qi post (fun u t => va_P D vwCl (w1 u) t.heap) (va_A wc s.heap.size)) args s 0 0 (va_A wc s.heap.size)
def QL {S : Type} (below : List Frame) (args : Array Value) (s : State) (D : va_G) (wc : va_W) (post : Int64 → S → Prop) (w1 : S → va_W) : State → Prop := MQ below (va_Ql post (fun u t => va_P D vwCl (w1 u) t.heap) (va_A wc s.heap.size)) args s 0 0 (va_A wc s.heap.size)
def QV {S : Type} (below : List Frame) (args : Array Value) (s : State) (D : va_G) (wc : va_W) (post : S → Prop) (w1 : S → va_W) : State → Prop := MQ below (va_Qv post (fun u t => va_P D vwCl (w1 u) t.heap) (va_A wc s.heap.size)) args s 0 0 (va_A wc s.heap.size)
section CX
variable {l : Launch} {y : MethodName} {Tc Tc' : List Cond} {rm : Room} {D : va_G} {tys : List (ClassId × FieldType)} {av : List Value} {wc : va_W} {S : Type} {cc : ByteArray} {maxL : Nat} {ret : Option FieldType}
theorem Ct_body {Qm : State → State → Prop} (own : String) (ho : y.cls = own) (hl0 : decide ((lg_sl av).length ≤ maxL) = true) (lv : List (Nat × Value)) (hlv : lv_args 0 av = lv) {sz : Nat} {p : Program} {e : Env} {s : State} {m : MethodId} {args : Array Value} {below : List Frame} {meth : Method} {c : Code} {s₁ : State} {Q : State → Prop}
    (B : BodyLoose p l y (headSpec Tc rm) cc maxL ret e s m args below meth c s₁) (hml : c.maxLocals = maxL) (hv : va_Pc av (PreW D tys wc sz) args s)
    (body : Cx p s m args meth c cc maxL ret Tc own D tys (va_A wc s.heap.size) → G p l e rm s m args below meth c D (va_A wc s.heap.size) maxL 0 0 Q wc lv 0 []) : W p l e (headSpec Tc rm).room s m args below meth c s.heap [] 0 0 Q (entryFrame m args maxL) := by
  obtain ⟨rfl, hsz, hP, hK, hD0, hN⟩ := hv
  have hC : Cx p s m av.toArray meth c cc maxL ret Tc own D tys (va_A wc s.heap.size) := ⟨B.exec, B.bytes, hml, ho ▸ findClass_of_methodNamed B.named, atoms_spec (ws := Tc) B.pre, hK, fun q h => Or.inr h, B.returns, B.notSynchronized, hN⟩
  have hl := lv_entry av (n := maxL) (of_decide_eq_true hl0)
  rw [lg_entry_eq]
  rw [hlv] at hl
  exact body hC _ _ _ hP (hD0.self (sz := s.heap.size)) va_S.rf hl
end CX
section RX
variable {p : Program} {l : Launch} {e : Env} {R : Room} {s : State} {m : MethodId} {args : Array Value} {below : List Frame} {meth : Method} {c : Code} {cc : ByteArray} {nL : Nat} {Ts : List Cond} {own : String} {D : va_G} {tys : List (ClassId × FieldType)} {ws wc : va_W} {lv : List (Nat × Value)} {pc : Nat} {S : Type} {w1 : S → va_W}
theorem g_iret {post : Int32 → S → Prop} (C : Cx p s m args meth c cc nL (some .int) Ts own D tys (va_A wc s.heap.size)) (u : S) {v : Int32} (hdg : decode cc pc = .ok (.ireturn, 1)) (hp : post v u) (hw : w1 u = ws) : G p l e R s m args below meth c D (va_A wc s.heap.size) nL 0 0 (QI below args s D wc post w1) ws lv pc [.int v] :=
  fun H locs ls hP hD hS hl => W.iret C.1 C.2.1 C.2.2.2.2.2.2.2.1 (fun t ht hW => ⟨⟨v, u, rfl, hp, by show va_P D vwCl (w1 u) t.heap; rw [ht, hw]; exact hP⟩, hS.F ht⟩) hS.2.2 hdg C.2.2.2.2.2.2.2.2.1
theorem nb_ok {v : Int32} (h : v = 0 ∨ v = 1) : narrow .boolean (.int v) = .int v := by rcases h with rfl | rfl <;> rfl
theorem g_zret {post : Int32 → S → Prop} (C : Cx p s m args meth c cc nL (some .boolean) Ts own D tys (va_A wc s.heap.size)) (u : S) {v : Int32} (hz : v = 0 ∨ v = 1) (hdg : decode cc pc = .ok (.ireturn, 1)) (hp : post v u) (hw : w1 u = ws) : G p l e R s m args below meth c D (va_A wc s.heap.size) nL 0 0 (QI below args s D wc (fun r u => (r = 0 ∨ r = 1) ∧ post r u) w1) ws lv pc [.int v] :=
  fun H locs ls hP hD hS hl => W.zret C.1 C.2.1 C.2.2.2.2.2.2.2.1 (nb_ok hz) (fun t ht hW => ⟨⟨v, u, rfl, ⟨hz, hp⟩, by show va_P D vwCl (w1 u) t.heap; rw [ht, hw]; exact hP⟩, hS.F ht⟩) hS.2.2 hdg C.2.2.2.2.2.2.2.2.1
theorem g_lret {post : Int64 → S → Prop} (C : Cx p s m args meth c cc nL (some .long) Ts own D tys (va_A wc s.heap.size)) (u : S) {v : Int64} (hdg : decode cc pc = .ok (.lreturn, 1)) (hp : post v u) (hw : w1 u = ws) : G p l e R s m args below meth c D (va_A wc s.heap.size) nL 0 0 (QL below args s D wc post w1) ws lv pc [.long v] :=
  fun H locs ls hP hD hS hl => W.lret C.1 C.2.1 C.2.2.2.2.2.2.2.1 (fun t ht hW => ⟨⟨v, u, rfl, hp, by show va_P D vwCl (w1 u) t.heap; rw [ht, hw]; exact hP⟩, hS.F ht⟩) hS.2.2 hdg C.2.2.2.2.2.2.2.2.1
theorem g_vret {post : S → Prop} (C : Cx p s m args meth c cc nL none Ts own D tys (va_A wc s.heap.size)) (u : S) (hdg : decode cc pc = .ok (.return_, 1)) (hp : post u) (hw : w1 u = ws) : G p l e R s m args below meth c D (va_A wc s.heap.size) nL 0 0 (QV below args s D wc post w1) ws lv pc [] :=
  fun H locs ls hP hD hS hl => W.vret C.1 C.2.1 C.2.2.2.2.2.2.2.1 (fun t ht hW => ⟨⟨u, rfl, hp, by show va_P D vwCl (w1 u) t.heap; rw [ht, hw]; exact hP⟩, hS.F ht⟩) hS.2.2 hdg C.2.2.2.2.2.2.2.2.1
end RX
section CY
variable {l : Launch} {y : MethodName} {Tc Tc' : List Cond} {rm : Room} {D : va_G} {tys : List (ClassId × FieldType)} {av : List Value} {wc : va_W} {S : Type} {cc : ByteArray} {maxL : Nat} {ret : Option FieldType}
theorem CtI.of {post : Int32 → S → Prop} {w1 : S → va_W} (own : String) (ho : y.cls = own) (hy : plainName y.cls = true) (hw : Tc = Cond.code y cc maxL (some .int) :: Tc') (hl0 : decide ((lg_sl av).length ≤ maxL) = true) (lv : List (Nat × Value)) (hlv : lv_args 0 av = lv)
    (body : ∀ (p : Program) (e : Env) (s : State) (m : MethodId) (args : Array Value) (below : List Frame) (meth : Method) (c : Code) (A : Nat → Prop) (Q : State → Prop), Cx p s m args meth c cc maxL (some .int) Tc own D tys A → (∀ (v : Int32) (u : S) (ws : va_W) (lv : List (Nat × Value)) (pc : Nat), decode cc pc = .ok (.ireturn, 1) → post v u → w1 u = ws → G p l e rm s m args below meth c D A maxL 0 0 Q ws lv pc [.int v]) → G p l e rm s m args below meth c D A maxL 0 0 Q wc lv 0 []) : CtI l y Tc rm D tys av wc post w1 := by
  intro sz
  refine Met.ofW (cc := cc) (maxL := maxL) (ret := (some .int)) hy hw ?_
  intro p e s m args below meth c s₁ B hml hv
  have hsz : s.heap.size = sz := hv.2.1
  have hg := Ct_body (Qm := fun _ _ => True) own ho hl0 lv hlv B hml hv (fun hC => body p e s m args below meth c _ (QI below args s D wc post w1) hC (fun v u ws lv pc hdg hp hw => g_iret hC u hdg hp hw))
  rw [← hsz]
  exact hg
theorem CtI.ofZ {post : Int32 → S → Prop} {w1 : S → va_W} (own : String) (ho : y.cls = own) (hy : plainName y.cls = true) (hw : Tc = Cond.code y cc maxL (some .boolean) :: Tc') (hl0 : decide ((lg_sl av).length ≤ maxL) = true) (lv : List (Nat × Value)) (hlv : lv_args 0 av = lv)
    (body : ∀ (p : Program) (e : Env) (s : State) (m : MethodId) (args : Array Value) (below : List Frame) (meth : Method) (c : Code) (A : Nat → Prop) (Q : State → Prop), Cx p s m args meth c cc maxL (some .boolean) Tc own D tys A → (∀ (v : Int32) (u : S) (ws : va_W) (lv : List (Nat × Value)) (pc : Nat), (v = 0 ∨ v = 1) → decode cc pc = .ok (.ireturn, 1) → post v u → w1 u = ws → G p l e rm s m args below meth c D A maxL 0 0 Q ws lv pc [.int v]) → G p l e rm s m args below meth c D A maxL 0 0 Q wc lv 0 []) : CtI l y Tc rm D tys av wc (fun r u => (r = 0 ∨ r = 1) ∧ post r u) w1 := by
  intro sz
  refine Met.ofW (cc := cc) (maxL := maxL) (ret := (some .boolean)) hy hw ?_
  intro p e s m args below meth c s₁ B hml hv
  have hsz : s.heap.size = sz := hv.2.1
  have hg := Ct_body (Qm := fun _ _ => True) own ho hl0 lv hlv B hml hv (fun hC => body p e s m args below meth c _ (QI below args s D wc (fun r u => (r = 0 ∨ r = 1) ∧ post r u) w1) hC (fun v u ws lv pc hz hdg hp hw => g_zret hC u hz hdg hp hw))
  rw [← hsz]
  exact hg
theorem CtL.of {post : Int64 → S → Prop} {w1 : S → va_W} (own : String) (ho : y.cls = own) (hy : plainName y.cls = true) (hw : Tc = Cond.code y cc maxL (some .long) :: Tc') (hl0 : decide ((lg_sl av).length ≤ maxL) = true) (lv : List (Nat × Value)) (hlv : lv_args 0 av = lv)
    (body : ∀ (p : Program) (e : Env) (s : State) (m : MethodId) (args : Array Value) (below : List Frame) (meth : Method) (c : Code) (A : Nat → Prop) (Q : State → Prop), Cx p s m args meth c cc maxL (some .long) Tc own D tys A → (∀ (v : Int64) (u : S) (ws : va_W) (lv : List (Nat × Value)) (pc : Nat), decode cc pc = .ok (.lreturn, 1) → post v u → w1 u = ws → G p l e rm s m args below meth c D A maxL 0 0 Q ws lv pc [.long v]) → G p l e rm s m args below meth c D A maxL 0 0 Q wc lv 0 []) : CtL l y Tc rm D tys av wc post w1 := by
  intro sz
  refine Met.ofW (cc := cc) (maxL := maxL) (ret := (some .long)) hy hw ?_
  intro p e s m args below meth c s₁ B hml hv
  have hsz : s.heap.size = sz := hv.2.1
  have hg := Ct_body (Qm := fun _ _ => True) own ho hl0 lv hlv B hml hv (fun hC => body p e s m args below meth c _ (QL below args s D wc post w1) hC (fun v u ws lv pc hdg hp hw => g_lret hC u hdg hp hw))
  rw [← hsz]
  exact hg
theorem CtV.of {post : S → Prop} {w1 : S → va_W} (own : String) (ho : y.cls = own) (hy : plainName y.cls = true) (hw : Tc = Cond.code y cc maxL none :: Tc') (hl0 : decide ((lg_sl av).length ≤ maxL) = true) (lv : List (Nat × Value)) (hlv : lv_args 0 av = lv)
    (body : ∀ (p : Program) (e : Env) (s : State) (m : MethodId) (args : Array Value) (below : List Frame) (meth : Method) (c : Code) (A : Nat → Prop) (Q : State → Prop), Cx p s m args meth c cc maxL none Tc own D tys A → (∀ (u : S) (ws : va_W) (lv : List (Nat × Value)) (pc : Nat), decode cc pc = .ok (.return_, 1) → post u → w1 u = ws → G p l e rm s m args below meth c D A maxL 0 0 Q ws lv pc []) → G p l e rm s m args below meth c D A maxL 0 0 Q wc lv 0 []) : CtV l y Tc rm D tys av wc post w1 := by
  intro sz
  refine Met.ofW (cc := cc) (maxL := maxL) (ret := none) hy hw ?_
  intro p e s m args below meth c s₁ B hml hv
  have hsz : s.heap.size = sz := hv.2.1
  have hg := Ct_body (Qm := fun _ _ => True) own ho hl0 lv hlv B hml hv (fun hC => body p e s m args below meth c _ (QV below args s D wc post w1) hC (fun u ws lv pc hdg hp hw => g_vret hC u hdg hp hw))
  rw [← hsz]
  exact hg
end CY
section CALL
variable {p : Program} {l : Launch} {e : Env} {R : Room} {s : State} {m : MethodId} {args : Array Value} {below : List Frame} {meth : Method} {c : Code} {Q : State → Prop} {cc : ByteArray} {nL kc ks : Nat} {ret : Option FieldType} {Ts : List Cond} {own : String} {D : va_G} {tys : List (ClassId × FieldType)} {A : Nat → Prop} {ws : va_W} {lv : List (Nat × Value)} {pc : Nat} {st : List Value}
variable {y : MethodName} {Tc Tc' : List Cond} {rm : Room} {b : Nat} {As rest : List Value} {wc : va_W} {S : Type} {w1 : S → va_W} {bytes : ByteArray} {maxL index : Nat} {rt : Option FieldType} {Cn : String} {T : u_T} {N : Nat}
/-- what a call of a method leaves: the world by the mask -/
def GoW (D : va_G) (A : Nat → Prop) (ws : va_W) (mask : List (Option Nat)) (w1 : va_W) (k : va_W → Prop) : Prop := ∃ ws' : va_W, mkw ws mask w1 = ws' ∧ ws'.map (fun x => x.1) = ws.map (fun x => x.1) ∧ mask.all (fun o => match o with | none => true | some j => decide (j < w1.length)) = true ∧ k ws'
theorem g_callVi {post : Int32 → S → Prop} (C : Cx p s m args meth c cc nL ret Ts own D tys A) (hM : CtI l y Tc rm D tys (.ref b :: As) wc post w1) (n : Nat) (hG : GoodIn Ts (wsV own index Cn y Tc)) (hw : Tc = Cond.code y bytes maxL rt :: Tc') (hrm : rm.cells = 0) (hrs : rm.slots = 0) (hd : y.cls = Cn ∧ y.cls ≠ "java/lang/invoke/MethodHandle" ∧ y.cls ≠ "java/lang/invoke/VarHandle" ∧ (parseMethodDescriptor y.desc).map (fun d => d.parameters.length) = some n) (hR : rm.frames + 1 ≤ R.frames ∧ 8 + (maxL + 11) + rm.locals ≤ R.locals) (hkc : kc + 0 ≤ R.cells ∧ ks + 0 ≤ R.slots) (ci q0 : Nat) {fs : List Value} (hq : ws[q0]? = some (b, .inr (ci, fs))) (hcl : vwCl[ci]? = some (Cn, T, N)) (hn : As.length = n) (hst : st = As.reverse ++ .ref b :: rest) (hroom : (rest.map fun v => v.category).sum ≤ 8) (is : List Nat) (mask : List (Option Nat)) (hnd : va_nd is = true) (hC : is.map (fun i => ws[i]?) = wc.map some) (hin : is.all (fun i => (mask[i]?.getD none).isSome) = true) (hdg : decode cc pc = .ok (.invokevirtual index, 3))
    (kk : ∀ (r : Int32) (u : S), post r u → GoW D A ws mask (w1 u) (fun ws' => G p l e R s m args below meth c D A nL kc ks Q ws' lv (pc + 3) (.int r :: rest))) : G p l e R s m args below meth c D A nL kc ks Q ws lv pc st := by
  intro H locs ls hP hD hS hl
  subst hst
  have hPc : va_P D vwCl wc H := by
    intro k q hk
    have h1 : (is.map (fun i => ws[i]?))[k]? = some (some q) := by rw [hC, List.getElem?_map, hk]; rfl
    rw [List.getElem?_map] at h1
    cases hi : is[k]? with
    | none => rw [hi] at h1; cases h1
    | some i => rw [hi] at h1; exact hP i q (Option.some.inj h1)
  have hDc := hD.sub is hnd hC
  have hFc := va_free (wc := wc) hD hS C.2.2.2.2.2.2.1 is hC
  refine va_calli (va_runV (As := As) (rest := rest) ⟨C.1, C.2.1, C.2.2.1, C.2.2.2.1, C.2.2.2.2.1⟩ (hM H.size) (cwV n C.2.2.2.2.1 hG hw hrm hrs hd hR) ⟨PreW_blind, va_recv C.2.2.2.2.2.1 hP (ci := ci) (q0 := q0) hcl hq, fun U hU hW => ⟨rfl, by rw [hU], by rw [hU]; exact hPc, va_K.moved hW.alike C.2.2.2.2.2.1, hDc.weaken (fun _ _ _ _ => trivial), NestOK.warm hW C.2.2.2.2.2.2.2.2.2⟩⟩ rfl hn hl.1 rfl (lv_room hroom) hdg hkc) hS (fun q _ h => hFc q h) hFc (fun r u t H1 locs1 ht hvm hw1 hB hz1 hk1 hS1 => ?_)
  obtain ⟨ws', e1, e2, e3, k⟩ := kk r u hw1
  have hP1 : va_P D vwCl (w1 u) H1 := by rw [← ht]; exact hB
  obtain ⟨hP2, hD2⟩ := mkw_join hP hD is mask hC e1 e2 hin e3 hk1 hP1
  exact k H1 locs1 ls hP2 hD2 hS1 hl
theorem g_callVi0 {post : Int32 → Unit → Prop} (C : Cx p s m args meth c cc nL ret Ts own D tys A) (hM : CtI l y Tc rm D tys (.ref b :: As) wc post (fun _ => wc)) (n : Nat) (hG : GoodIn Ts (wsV own index Cn y Tc)) (hw : Tc = Cond.code y bytes maxL rt :: Tc') (hrm : rm.cells = 0) (hrs : rm.slots = 0) (hd : y.cls = Cn ∧ y.cls ≠ "java/lang/invoke/MethodHandle" ∧ y.cls ≠ "java/lang/invoke/VarHandle" ∧ (parseMethodDescriptor y.desc).map (fun d => d.parameters.length) = some n) (hR : rm.frames + 1 ≤ R.frames ∧ 8 + (maxL + 11) + rm.locals ≤ R.locals) (hkc : kc + 0 ≤ R.cells ∧ ks + 0 ≤ R.slots) (ci q0 : Nat) {fs : List Value} (hq : ws[q0]? = some (b, .inr (ci, fs))) (hcl : vwCl[ci]? = some (Cn, T, N)) (hn : As.length = n) (hst : st = As.reverse ++ .ref b :: rest) (hroom : (rest.map fun v => v.category).sum ≤ 8) (is : List Nat) (hnd : va_nd is = true) (hC : is.map (fun i => ws[i]?) = wc.map some) (hdg : decode cc pc = .ok (.invokevirtual index, 3))
    (kk : ∀ (r : Int32), post r () → G p l e R s m args below meth c D A nL kc ks Q ws lv (pc + 3) (.int r :: rest)) : G p l e R s m args below meth c D A nL kc ks Q ws lv pc st := by
  intro H locs ls hP hD hS hl
  subst hst
  have at' : ∀ (k : Nat) (q : Nat × va_E), wc[k]? = some q → ∃ i, is[k]? = some i ∧ ws[i]? = some q := by
    intro k q hk
    have h1 : (is.map (fun i => ws[i]?))[k]? = some (some q) := by rw [hC, List.getElem?_map, hk]; rfl
    rw [List.getElem?_map] at h1
    cases hi : is[k]? with
    | none => rw [hi] at h1; cases h1
    | some i => rw [hi] at h1; exact ⟨i, rfl, Option.some.inj h1⟩
  have hPc : va_P D vwCl wc H := fun k q hk => by
    obtain ⟨i, -, h2⟩ := at' k q hk
    exact hP i q h2
  have hDc := hD.sub is hnd hC
  have hFc := va_free (wc := wc) hD hS C.2.2.2.2.2.2.1 is hC
  refine va_calli (va_runV (As := As) (rest := rest) ⟨C.1, C.2.1, C.2.2.1, C.2.2.2.1, C.2.2.2.2.1⟩ (hM H.size) (cwV n C.2.2.2.2.1 hG hw hrm hrs hd hR) ⟨PreW_blind, va_recv C.2.2.2.2.2.1 hP (ci := ci) (q0 := q0) hcl hq, fun U hU hW => ⟨rfl, by rw [hU], by rw [hU]; exact hPc, va_K.moved hW.alike C.2.2.2.2.2.1, hDc.weaken (fun _ _ _ _ => trivial), NestOK.warm hW C.2.2.2.2.2.2.2.2.2⟩⟩ rfl hn hl.1 rfl (lv_room hroom) hdg hkc) hS (fun q _ h => hFc q h) hFc (fun r u t H1 locs1 ht hvm hw1 hB hz1 hk1 hS1 => ?_)
  have hP1 : va_P D vwCl wc H1 := by rw [← ht]; exact hB
  refine kk r hw1 H1 locs1 ls ?_ hD hS1 hl
  intro k q hk
  by_cases hq : va_A wc H.size q.1
  · rcases hq with ⟨j, e, h⟩ | h
    · obtain ⟨i, -, h2⟩ := at' j (q.1, e) h
      have h3 := hD.1 i k (q.1, e) q h2 hk rfl
      subst h3
      rw [hk] at h2
      have h4 : q = (q.1, e) := Option.some.inj h2
      rw [h4]
      exact hP1 j (q.1, e) h
    · exact absurd (hP k q hk).lt (Nat.not_lt.mpr h)
  · exact (hP k q hk).kept (hk1 q.1 (hP k q hk).lt hq)
theorem g_callVl {post : Int64 → S → Prop} (C : Cx p s m args meth c cc nL ret Ts own D tys A) (hM : CtL l y Tc rm D tys (.ref b :: As) wc post w1) (n : Nat) (hG : GoodIn Ts (wsV own index Cn y Tc)) (hw : Tc = Cond.code y bytes maxL rt :: Tc') (hrm : rm.cells = 0) (hrs : rm.slots = 0) (hd : y.cls = Cn ∧ y.cls ≠ "java/lang/invoke/MethodHandle" ∧ y.cls ≠ "java/lang/invoke/VarHandle" ∧ (parseMethodDescriptor y.desc).map (fun d => d.parameters.length) = some n) (hR : rm.frames + 1 ≤ R.frames ∧ 8 + (maxL + 11) + rm.locals ≤ R.locals) (hkc : kc + 0 ≤ R.cells ∧ ks + 0 ≤ R.slots) (ci q0 : Nat) {fs : List Value} (hq : ws[q0]? = some (b, .inr (ci, fs))) (hcl : vwCl[ci]? = some (Cn, T, N)) (hn : As.length = n) (hst : st = As.reverse ++ .ref b :: rest) (hroom : (rest.map fun v => v.category).sum ≤ 8) (is : List Nat) (mask : List (Option Nat)) (hnd : va_nd is = true) (hC : is.map (fun i => ws[i]?) = wc.map some) (hin : is.all (fun i => (mask[i]?.getD none).isSome) = true) (hdg : decode cc pc = .ok (.invokevirtual index, 3))
    (kk : ∀ (r : Int64) (u : S), post r u → GoW D A ws mask (w1 u) (fun ws' => G p l e R s m args below meth c D A nL kc ks Q ws' lv (pc + 3) (.long r :: rest))) : G p l e R s m args below meth c D A nL kc ks Q ws lv pc st := by
  intro H locs ls hP hD hS hl
  subst hst
  have hPc : va_P D vwCl wc H := by
    intro k q hk
    have h1 : (is.map (fun i => ws[i]?))[k]? = some (some q) := by rw [hC, List.getElem?_map, hk]; rfl
    rw [List.getElem?_map] at h1
    cases hi : is[k]? with
    | none => rw [hi] at h1; cases h1
    | some i => rw [hi] at h1; exact hP i q (Option.some.inj h1)
  have hDc := hD.sub is hnd hC
  have hFc := va_free (wc := wc) hD hS C.2.2.2.2.2.2.1 is hC
  refine va_calll (va_runV (As := As) (rest := rest) ⟨C.1, C.2.1, C.2.2.1, C.2.2.2.1, C.2.2.2.2.1⟩ (hM H.size) (cwV n C.2.2.2.2.1 hG hw hrm hrs hd hR) ⟨PreW_blind, va_recv C.2.2.2.2.2.1 hP (ci := ci) (q0 := q0) hcl hq, fun U hU hW => ⟨rfl, by rw [hU], by rw [hU]; exact hPc, va_K.moved hW.alike C.2.2.2.2.2.1, hDc.weaken (fun _ _ _ _ => trivial), NestOK.warm hW C.2.2.2.2.2.2.2.2.2⟩⟩ rfl hn hl.1 rfl (lv_room hroom) hdg hkc) hS (fun q _ h => hFc q h) hFc (fun r u t H1 locs1 ht hvm hw1 hB hz1 hk1 hS1 => ?_)
  obtain ⟨ws', e1, e2, e3, k⟩ := kk r u hw1
  have hP1 : va_P D vwCl (w1 u) H1 := by rw [← ht]; exact hB
  obtain ⟨hP2, hD2⟩ := mkw_join hP hD is mask hC e1 e2 hin e3 hk1 hP1
  exact k H1 locs1 ls hP2 hD2 hS1 hl
theorem g_callVl0 {post : Int64 → Unit → Prop} (C : Cx p s m args meth c cc nL ret Ts own D tys A) (hM : CtL l y Tc rm D tys (.ref b :: As) wc post (fun _ => wc)) (n : Nat) (hG : GoodIn Ts (wsV own index Cn y Tc)) (hw : Tc = Cond.code y bytes maxL rt :: Tc') (hrm : rm.cells = 0) (hrs : rm.slots = 0) (hd : y.cls = Cn ∧ y.cls ≠ "java/lang/invoke/MethodHandle" ∧ y.cls ≠ "java/lang/invoke/VarHandle" ∧ (parseMethodDescriptor y.desc).map (fun d => d.parameters.length) = some n) (hR : rm.frames + 1 ≤ R.frames ∧ 8 + (maxL + 11) + rm.locals ≤ R.locals) (hkc : kc + 0 ≤ R.cells ∧ ks + 0 ≤ R.slots) (ci q0 : Nat) {fs : List Value} (hq : ws[q0]? = some (b, .inr (ci, fs))) (hcl : vwCl[ci]? = some (Cn, T, N)) (hn : As.length = n) (hst : st = As.reverse ++ .ref b :: rest) (hroom : (rest.map fun v => v.category).sum ≤ 8) (is : List Nat) (hnd : va_nd is = true) (hC : is.map (fun i => ws[i]?) = wc.map some) (hdg : decode cc pc = .ok (.invokevirtual index, 3))
    (kk : ∀ (r : Int64), post r () → G p l e R s m args below meth c D A nL kc ks Q ws lv (pc + 3) (.long r :: rest)) : G p l e R s m args below meth c D A nL kc ks Q ws lv pc st := by
  intro H locs ls hP hD hS hl
  subst hst
  have at' : ∀ (k : Nat) (q : Nat × va_E), wc[k]? = some q → ∃ i, is[k]? = some i ∧ ws[i]? = some q := by
    intro k q hk
    have h1 : (is.map (fun i => ws[i]?))[k]? = some (some q) := by rw [hC, List.getElem?_map, hk]; rfl
    rw [List.getElem?_map] at h1
    cases hi : is[k]? with
    | none => rw [hi] at h1; cases h1
    | some i => rw [hi] at h1; exact ⟨i, rfl, Option.some.inj h1⟩
  have hPc : va_P D vwCl wc H := fun k q hk => by
    obtain ⟨i, -, h2⟩ := at' k q hk
    exact hP i q h2
  have hDc := hD.sub is hnd hC
  have hFc := va_free (wc := wc) hD hS C.2.2.2.2.2.2.1 is hC
  refine va_calll (va_runV (As := As) (rest := rest) ⟨C.1, C.2.1, C.2.2.1, C.2.2.2.1, C.2.2.2.2.1⟩ (hM H.size) (cwV n C.2.2.2.2.1 hG hw hrm hrs hd hR) ⟨PreW_blind, va_recv C.2.2.2.2.2.1 hP (ci := ci) (q0 := q0) hcl hq, fun U hU hW => ⟨rfl, by rw [hU], by rw [hU]; exact hPc, va_K.moved hW.alike C.2.2.2.2.2.1, hDc.weaken (fun _ _ _ _ => trivial), NestOK.warm hW C.2.2.2.2.2.2.2.2.2⟩⟩ rfl hn hl.1 rfl (lv_room hroom) hdg hkc) hS (fun q _ h => hFc q h) hFc (fun r u t H1 locs1 ht hvm hw1 hB hz1 hk1 hS1 => ?_)
  have hP1 : va_P D vwCl wc H1 := by rw [← ht]; exact hB
  refine kk r hw1 H1 locs1 ls ?_ hD hS1 hl
  intro k q hk
  by_cases hq : va_A wc H.size q.1
  · rcases hq with ⟨j, e, h⟩ | h
    · obtain ⟨i, -, h2⟩ := at' j (q.1, e) h
      have h3 := hD.1 i k (q.1, e) q h2 hk rfl
      subst h3
      rw [hk] at h2
      have h4 : q = (q.1, e) := Option.some.inj h2
      rw [h4]
      exact hP1 j (q.1, e) h
    · exact absurd (hP k q hk).lt (Nat.not_lt.mpr h)
  · exact (hP k q hk).kept (hk1 q.1 (hP k q hk).lt hq)
theorem g_callVv {post : S → Prop} (C : Cx p s m args meth c cc nL ret Ts own D tys A) (hM : CtV l y Tc rm D tys (.ref b :: As) wc post w1) (n : Nat) (hG : GoodIn Ts (wsV own index Cn y Tc)) (hw : Tc = Cond.code y bytes maxL rt :: Tc') (hrm : rm.cells = 0) (hrs : rm.slots = 0) (hd : y.cls = Cn ∧ y.cls ≠ "java/lang/invoke/MethodHandle" ∧ y.cls ≠ "java/lang/invoke/VarHandle" ∧ (parseMethodDescriptor y.desc).map (fun d => d.parameters.length) = some n) (hR : rm.frames + 1 ≤ R.frames ∧ 8 + (maxL + 11) + rm.locals ≤ R.locals) (hkc : kc + 0 ≤ R.cells ∧ ks + 0 ≤ R.slots) (ci q0 : Nat) {fs : List Value} (hq : ws[q0]? = some (b, .inr (ci, fs))) (hcl : vwCl[ci]? = some (Cn, T, N)) (hn : As.length = n) (hst : st = As.reverse ++ .ref b :: rest) (hroom : (rest.map fun v => v.category).sum ≤ 8) (is : List Nat) (mask : List (Option Nat)) (hnd : va_nd is = true) (hC : is.map (fun i => ws[i]?) = wc.map some) (hin : is.all (fun i => (mask[i]?.getD none).isSome) = true) (hdg : decode cc pc = .ok (.invokevirtual index, 3))
    (kk : ∀ (u : S), post u → GoW D A ws mask (w1 u) (fun ws' => G p l e R s m args below meth c D A nL kc ks Q ws' lv (pc + 3) rest)) : G p l e R s m args below meth c D A nL kc ks Q ws lv pc st := by
  intro H locs ls hP hD hS hl
  subst hst
  have hPc : va_P D vwCl wc H := by
    intro k q hk
    have h1 : (is.map (fun i => ws[i]?))[k]? = some (some q) := by rw [hC, List.getElem?_map, hk]; rfl
    rw [List.getElem?_map] at h1
    cases hi : is[k]? with
    | none => rw [hi] at h1; cases h1
    | some i => rw [hi] at h1; exact hP i q (Option.some.inj h1)
  have hDc := hD.sub is hnd hC
  have hFc := va_free (wc := wc) hD hS C.2.2.2.2.2.2.1 is hC
  refine va_callv (va_runV (As := As) (rest := rest) ⟨C.1, C.2.1, C.2.2.1, C.2.2.2.1, C.2.2.2.2.1⟩ (hM H.size) (cwV n C.2.2.2.2.1 hG hw hrm hrs hd hR) ⟨PreW_blind, va_recv C.2.2.2.2.2.1 hP (ci := ci) (q0 := q0) hcl hq, fun U hU hW => ⟨rfl, by rw [hU], by rw [hU]; exact hPc, va_K.moved hW.alike C.2.2.2.2.2.1, hDc.weaken (fun _ _ _ _ => trivial), NestOK.warm hW C.2.2.2.2.2.2.2.2.2⟩⟩ rfl hn hl.1 rfl (lv_room hroom) hdg hkc) hS (fun q _ h => hFc q h) hFc (fun u t H1 locs1 ht hvm hw1 hB hz1 hk1 hS1 => ?_)
  obtain ⟨ws', e1, e2, e3, k⟩ := kk u hw1
  have hP1 : va_P D vwCl (w1 u) H1 := by rw [← ht]; exact hB
  obtain ⟨hP2, hD2⟩ := mkw_join hP hD is mask hC e1 e2 hin e3 hk1 hP1
  exact k H1 locs1 ls hP2 hD2 hS1 hl
theorem g_callVv0 {post : Unit → Prop} (C : Cx p s m args meth c cc nL ret Ts own D tys A) (hM : CtV l y Tc rm D tys (.ref b :: As) wc post (fun _ => wc)) (n : Nat) (hG : GoodIn Ts (wsV own index Cn y Tc)) (hw : Tc = Cond.code y bytes maxL rt :: Tc') (hrm : rm.cells = 0) (hrs : rm.slots = 0) (hd : y.cls = Cn ∧ y.cls ≠ "java/lang/invoke/MethodHandle" ∧ y.cls ≠ "java/lang/invoke/VarHandle" ∧ (parseMethodDescriptor y.desc).map (fun d => d.parameters.length) = some n) (hR : rm.frames + 1 ≤ R.frames ∧ 8 + (maxL + 11) + rm.locals ≤ R.locals) (hkc : kc + 0 ≤ R.cells ∧ ks + 0 ≤ R.slots) (ci q0 : Nat) {fs : List Value} (hq : ws[q0]? = some (b, .inr (ci, fs))) (hcl : vwCl[ci]? = some (Cn, T, N)) (hn : As.length = n) (hst : st = As.reverse ++ .ref b :: rest) (hroom : (rest.map fun v => v.category).sum ≤ 8) (is : List Nat) (hnd : va_nd is = true) (hC : is.map (fun i => ws[i]?) = wc.map some) (hdg : decode cc pc = .ok (.invokevirtual index, 3))
    (kk : post () → G p l e R s m args below meth c D A nL kc ks Q ws lv (pc + 3) rest) : G p l e R s m args below meth c D A nL kc ks Q ws lv pc st := by
  intro H locs ls hP hD hS hl
  subst hst
  have at' : ∀ (k : Nat) (q : Nat × va_E), wc[k]? = some q → ∃ i, is[k]? = some i ∧ ws[i]? = some q := by
    intro k q hk
    have h1 : (is.map (fun i => ws[i]?))[k]? = some (some q) := by rw [hC, List.getElem?_map, hk]; rfl
    rw [List.getElem?_map] at h1
    cases hi : is[k]? with
    | none => rw [hi] at h1; cases h1
    | some i => rw [hi] at h1; exact ⟨i, rfl, Option.some.inj h1⟩
  have hPc : va_P D vwCl wc H := fun k q hk => by
    obtain ⟨i, -, h2⟩ := at' k q hk
    exact hP i q h2
  have hDc := hD.sub is hnd hC
  have hFc := va_free (wc := wc) hD hS C.2.2.2.2.2.2.1 is hC
  refine va_callv (va_runV (As := As) (rest := rest) ⟨C.1, C.2.1, C.2.2.1, C.2.2.2.1, C.2.2.2.2.1⟩ (hM H.size) (cwV n C.2.2.2.2.1 hG hw hrm hrs hd hR) ⟨PreW_blind, va_recv C.2.2.2.2.2.1 hP (ci := ci) (q0 := q0) hcl hq, fun U hU hW => ⟨rfl, by rw [hU], by rw [hU]; exact hPc, va_K.moved hW.alike C.2.2.2.2.2.1, hDc.weaken (fun _ _ _ _ => trivial), NestOK.warm hW C.2.2.2.2.2.2.2.2.2⟩⟩ rfl hn hl.1 rfl (lv_room hroom) hdg hkc) hS (fun q _ h => hFc q h) hFc (fun u t H1 locs1 ht hvm hw1 hB hz1 hk1 hS1 => ?_)
  have hP1 : va_P D vwCl wc H1 := by rw [← ht]; exact hB
  refine kk hw1 H1 locs1 ls ?_ hD hS1 hl
  intro k q hk
  by_cases hq : va_A wc H.size q.1
  · rcases hq with ⟨j, e, h⟩ | h
    · obtain ⟨i, -, h2⟩ := at' j (q.1, e) h
      have h3 := hD.1 i k (q.1, e) q h2 hk rfl
      subst h3
      rw [hk] at h2
      have h4 : q = (q.1, e) := Option.some.inj h2
      rw [h4]
      exact hP1 j (q.1, e) h
    · exact absurd (hP k q hk).lt (Nat.not_lt.mpr h)
  · exact (hP k q hk).kept (hk1 q.1 (hP k q hk).lt hq)
theorem g_callSi {post : Int32 → S → Prop} (C : Cx p s m args meth c cc nL ret Ts own D tys A) (hM : CtI l y Tc rm D tys As wc post w1) (n : Nat) (hG : GoodIn Ts (va_wsS own index y Tc)) (hw : Tc = Cond.code y bytes maxL rt :: Tc') (hrm : rm.cells = 0) (hrs : rm.slots = 0) (hd : y.cls ≠ "java/lang/invoke/MethodHandle" ∧ y.cls ≠ "java/lang/invoke/VarHandle" ∧ (parseMethodDescriptor y.desc).map (fun d => d.parameters.length) = some n) (hR : rm.frames + 1 ≤ R.frames ∧ 8 + (maxL + 11) + rm.locals ≤ R.locals) (hkc : kc + 0 ≤ R.cells ∧ ks + 0 ≤ R.slots)  (hn : As.length = n) (hst : st = As.reverse ++ rest) (hroom : (rest.map fun v => v.category).sum ≤ 8) (is : List Nat) (mask : List (Option Nat)) (hnd : va_nd is = true) (hC : is.map (fun i => ws[i]?) = wc.map some) (hin : is.all (fun i => (mask[i]?.getD none).isSome) = true) (hdg : decode cc pc = .ok (.invokestatic index, 3))
    (kk : ∀ (r : Int32) (u : S), post r u → GoW D A ws mask (w1 u) (fun ws' => G p l e R s m args below meth c D A nL kc ks Q ws' lv (pc + 3) (.int r :: rest))) : G p l e R s m args below meth c D A nL kc ks Q ws lv pc st := by
  intro H locs ls hP hD hS hl
  subst hst
  have hPc : va_P D vwCl wc H := by
    intro k q hk
    have h1 : (is.map (fun i => ws[i]?))[k]? = some (some q) := by rw [hC, List.getElem?_map, hk]; rfl
    rw [List.getElem?_map] at h1
    cases hi : is[k]? with
    | none => rw [hi] at h1; cases h1
    | some i => rw [hi] at h1; exact hP i q (Option.some.inj h1)
  have hDc := hD.sub is hnd hC
  have hFc := va_free (wc := wc) hD hS C.2.2.2.2.2.2.1 is hC
  refine va_calli (va_runS (As := As) (rest := rest) ⟨C.1, C.2.1, C.2.2.1, C.2.2.2.1, C.2.2.2.2.1⟩ (hM H.size) (va_cwS n C.2.2.2.2.1 hG hw hrm hrs hd hR) ⟨PreW_blind, fun U hU hW => ⟨rfl, by rw [hU], by rw [hU]; exact hPc, va_K.moved hW.alike C.2.2.2.2.2.1, hDc.weaken (fun _ _ _ _ => trivial), NestOK.warm hW C.2.2.2.2.2.2.2.2.2⟩⟩ rfl hn hl.1 rfl (lv_room hroom) hdg hkc) hS (fun q _ h => hFc q h) hFc (fun r u t H1 locs1 ht hvm hw1 hB hz1 hk1 hS1 => ?_)
  obtain ⟨ws', e1, e2, e3, k⟩ := kk r u hw1
  have hP1 : va_P D vwCl (w1 u) H1 := by rw [← ht]; exact hB
  obtain ⟨hP2, hD2⟩ := mkw_join hP hD is mask hC e1 e2 hin e3 hk1 hP1
  exact k H1 locs1 ls hP2 hD2 hS1 hl
theorem g_callSi0 {post : Int32 → Unit → Prop} (C : Cx p s m args meth c cc nL ret Ts own D tys A) (hM : CtI l y Tc rm D tys As wc post (fun _ => wc)) (n : Nat) (hG : GoodIn Ts (va_wsS own index y Tc)) (hw : Tc = Cond.code y bytes maxL rt :: Tc') (hrm : rm.cells = 0) (hrs : rm.slots = 0) (hd : y.cls ≠ "java/lang/invoke/MethodHandle" ∧ y.cls ≠ "java/lang/invoke/VarHandle" ∧ (parseMethodDescriptor y.desc).map (fun d => d.parameters.length) = some n) (hR : rm.frames + 1 ≤ R.frames ∧ 8 + (maxL + 11) + rm.locals ≤ R.locals) (hkc : kc + 0 ≤ R.cells ∧ ks + 0 ≤ R.slots)  (hn : As.length = n) (hst : st = As.reverse ++ rest) (hroom : (rest.map fun v => v.category).sum ≤ 8) (is : List Nat) (hnd : va_nd is = true) (hC : is.map (fun i => ws[i]?) = wc.map some) (hdg : decode cc pc = .ok (.invokestatic index, 3))
    (kk : ∀ (r : Int32), post r () → G p l e R s m args below meth c D A nL kc ks Q ws lv (pc + 3) (.int r :: rest)) : G p l e R s m args below meth c D A nL kc ks Q ws lv pc st := by
  intro H locs ls hP hD hS hl
  subst hst
  have at' : ∀ (k : Nat) (q : Nat × va_E), wc[k]? = some q → ∃ i, is[k]? = some i ∧ ws[i]? = some q := by
    intro k q hk
    have h1 : (is.map (fun i => ws[i]?))[k]? = some (some q) := by rw [hC, List.getElem?_map, hk]; rfl
    rw [List.getElem?_map] at h1
    cases hi : is[k]? with
    | none => rw [hi] at h1; cases h1
    | some i => rw [hi] at h1; exact ⟨i, rfl, Option.some.inj h1⟩
  have hPc : va_P D vwCl wc H := fun k q hk => by
    obtain ⟨i, -, h2⟩ := at' k q hk
    exact hP i q h2
  have hDc := hD.sub is hnd hC
  have hFc := va_free (wc := wc) hD hS C.2.2.2.2.2.2.1 is hC
  refine va_calli (va_runS (As := As) (rest := rest) ⟨C.1, C.2.1, C.2.2.1, C.2.2.2.1, C.2.2.2.2.1⟩ (hM H.size) (va_cwS n C.2.2.2.2.1 hG hw hrm hrs hd hR) ⟨PreW_blind, fun U hU hW => ⟨rfl, by rw [hU], by rw [hU]; exact hPc, va_K.moved hW.alike C.2.2.2.2.2.1, hDc.weaken (fun _ _ _ _ => trivial), NestOK.warm hW C.2.2.2.2.2.2.2.2.2⟩⟩ rfl hn hl.1 rfl (lv_room hroom) hdg hkc) hS (fun q _ h => hFc q h) hFc (fun r u t H1 locs1 ht hvm hw1 hB hz1 hk1 hS1 => ?_)
  have hP1 : va_P D vwCl wc H1 := by rw [← ht]; exact hB
  refine kk r hw1 H1 locs1 ls ?_ hD hS1 hl
  intro k q hk
  by_cases hq : va_A wc H.size q.1
  · rcases hq with ⟨j, e, h⟩ | h
    · obtain ⟨i, -, h2⟩ := at' j (q.1, e) h
      have h3 := hD.1 i k (q.1, e) q h2 hk rfl
      subst h3
      rw [hk] at h2
      have h4 : q = (q.1, e) := Option.some.inj h2
      rw [h4]
      exact hP1 j (q.1, e) h
    · exact absurd (hP k q hk).lt (Nat.not_lt.mpr h)
  · exact (hP k q hk).kept (hk1 q.1 (hP k q hk).lt hq)
theorem g_callSl {post : Int64 → S → Prop} (C : Cx p s m args meth c cc nL ret Ts own D tys A) (hM : CtL l y Tc rm D tys As wc post w1) (n : Nat) (hG : GoodIn Ts (va_wsS own index y Tc)) (hw : Tc = Cond.code y bytes maxL rt :: Tc') (hrm : rm.cells = 0) (hrs : rm.slots = 0) (hd : y.cls ≠ "java/lang/invoke/MethodHandle" ∧ y.cls ≠ "java/lang/invoke/VarHandle" ∧ (parseMethodDescriptor y.desc).map (fun d => d.parameters.length) = some n) (hR : rm.frames + 1 ≤ R.frames ∧ 8 + (maxL + 11) + rm.locals ≤ R.locals) (hkc : kc + 0 ≤ R.cells ∧ ks + 0 ≤ R.slots)  (hn : As.length = n) (hst : st = As.reverse ++ rest) (hroom : (rest.map fun v => v.category).sum ≤ 8) (is : List Nat) (mask : List (Option Nat)) (hnd : va_nd is = true) (hC : is.map (fun i => ws[i]?) = wc.map some) (hin : is.all (fun i => (mask[i]?.getD none).isSome) = true) (hdg : decode cc pc = .ok (.invokestatic index, 3))
    (kk : ∀ (r : Int64) (u : S), post r u → GoW D A ws mask (w1 u) (fun ws' => G p l e R s m args below meth c D A nL kc ks Q ws' lv (pc + 3) (.long r :: rest))) : G p l e R s m args below meth c D A nL kc ks Q ws lv pc st := by
  intro H locs ls hP hD hS hl
  subst hst
  have hPc : va_P D vwCl wc H := by
    intro k q hk
    have h1 : (is.map (fun i => ws[i]?))[k]? = some (some q) := by rw [hC, List.getElem?_map, hk]; rfl
    rw [List.getElem?_map] at h1
    cases hi : is[k]? with
    | none => rw [hi] at h1; cases h1
    | some i => rw [hi] at h1; exact hP i q (Option.some.inj h1)
  have hDc := hD.sub is hnd hC
  have hFc := va_free (wc := wc) hD hS C.2.2.2.2.2.2.1 is hC
  refine va_calll (va_runS (As := As) (rest := rest) ⟨C.1, C.2.1, C.2.2.1, C.2.2.2.1, C.2.2.2.2.1⟩ (hM H.size) (va_cwS n C.2.2.2.2.1 hG hw hrm hrs hd hR) ⟨PreW_blind, fun U hU hW => ⟨rfl, by rw [hU], by rw [hU]; exact hPc, va_K.moved hW.alike C.2.2.2.2.2.1, hDc.weaken (fun _ _ _ _ => trivial), NestOK.warm hW C.2.2.2.2.2.2.2.2.2⟩⟩ rfl hn hl.1 rfl (lv_room hroom) hdg hkc) hS (fun q _ h => hFc q h) hFc (fun r u t H1 locs1 ht hvm hw1 hB hz1 hk1 hS1 => ?_)
  obtain ⟨ws', e1, e2, e3, k⟩ := kk r u hw1
  have hP1 : va_P D vwCl (w1 u) H1 := by rw [← ht]; exact hB
  obtain ⟨hP2, hD2⟩ := mkw_join hP hD is mask hC e1 e2 hin e3 hk1 hP1
  exact k H1 locs1 ls hP2 hD2 hS1 hl
theorem g_callSl0 {post : Int64 → Unit → Prop} (C : Cx p s m args meth c cc nL ret Ts own D tys A) (hM : CtL l y Tc rm D tys As wc post (fun _ => wc)) (n : Nat) (hG : GoodIn Ts (va_wsS own index y Tc)) (hw : Tc = Cond.code y bytes maxL rt :: Tc') (hrm : rm.cells = 0) (hrs : rm.slots = 0) (hd : y.cls ≠ "java/lang/invoke/MethodHandle" ∧ y.cls ≠ "java/lang/invoke/VarHandle" ∧ (parseMethodDescriptor y.desc).map (fun d => d.parameters.length) = some n) (hR : rm.frames + 1 ≤ R.frames ∧ 8 + (maxL + 11) + rm.locals ≤ R.locals) (hkc : kc + 0 ≤ R.cells ∧ ks + 0 ≤ R.slots)  (hn : As.length = n) (hst : st = As.reverse ++ rest) (hroom : (rest.map fun v => v.category).sum ≤ 8) (is : List Nat) (hnd : va_nd is = true) (hC : is.map (fun i => ws[i]?) = wc.map some) (hdg : decode cc pc = .ok (.invokestatic index, 3))
    (kk : ∀ (r : Int64), post r () → G p l e R s m args below meth c D A nL kc ks Q ws lv (pc + 3) (.long r :: rest)) : G p l e R s m args below meth c D A nL kc ks Q ws lv pc st := by
  intro H locs ls hP hD hS hl
  subst hst
  have at' : ∀ (k : Nat) (q : Nat × va_E), wc[k]? = some q → ∃ i, is[k]? = some i ∧ ws[i]? = some q := by
    intro k q hk
    have h1 : (is.map (fun i => ws[i]?))[k]? = some (some q) := by rw [hC, List.getElem?_map, hk]; rfl
    rw [List.getElem?_map] at h1
    cases hi : is[k]? with
    | none => rw [hi] at h1; cases h1
    | some i => rw [hi] at h1; exact ⟨i, rfl, Option.some.inj h1⟩
  have hPc : va_P D vwCl wc H := fun k q hk => by
    obtain ⟨i, -, h2⟩ := at' k q hk
    exact hP i q h2
  have hDc := hD.sub is hnd hC
  have hFc := va_free (wc := wc) hD hS C.2.2.2.2.2.2.1 is hC
  refine va_calll (va_runS (As := As) (rest := rest) ⟨C.1, C.2.1, C.2.2.1, C.2.2.2.1, C.2.2.2.2.1⟩ (hM H.size) (va_cwS n C.2.2.2.2.1 hG hw hrm hrs hd hR) ⟨PreW_blind, fun U hU hW => ⟨rfl, by rw [hU], by rw [hU]; exact hPc, va_K.moved hW.alike C.2.2.2.2.2.1, hDc.weaken (fun _ _ _ _ => trivial), NestOK.warm hW C.2.2.2.2.2.2.2.2.2⟩⟩ rfl hn hl.1 rfl (lv_room hroom) hdg hkc) hS (fun q _ h => hFc q h) hFc (fun r u t H1 locs1 ht hvm hw1 hB hz1 hk1 hS1 => ?_)
  have hP1 : va_P D vwCl wc H1 := by rw [← ht]; exact hB
  refine kk r hw1 H1 locs1 ls ?_ hD hS1 hl
  intro k q hk
  by_cases hq : va_A wc H.size q.1
  · rcases hq with ⟨j, e, h⟩ | h
    · obtain ⟨i, -, h2⟩ := at' j (q.1, e) h
      have h3 := hD.1 i k (q.1, e) q h2 hk rfl
      subst h3
      rw [hk] at h2
      have h4 : q = (q.1, e) := Option.some.inj h2
      rw [h4]
      exact hP1 j (q.1, e) h
    · exact absurd (hP k q hk).lt (Nat.not_lt.mpr h)
  · exact (hP k q hk).kept (hk1 q.1 (hP k q hk).lt hq)
theorem g_callSv {post : S → Prop} (C : Cx p s m args meth c cc nL ret Ts own D tys A) (hM : CtV l y Tc rm D tys As wc post w1) (n : Nat) (hG : GoodIn Ts (va_wsS own index y Tc)) (hw : Tc = Cond.code y bytes maxL rt :: Tc') (hrm : rm.cells = 0) (hrs : rm.slots = 0) (hd : y.cls ≠ "java/lang/invoke/MethodHandle" ∧ y.cls ≠ "java/lang/invoke/VarHandle" ∧ (parseMethodDescriptor y.desc).map (fun d => d.parameters.length) = some n) (hR : rm.frames + 1 ≤ R.frames ∧ 8 + (maxL + 11) + rm.locals ≤ R.locals) (hkc : kc + 0 ≤ R.cells ∧ ks + 0 ≤ R.slots)  (hn : As.length = n) (hst : st = As.reverse ++ rest) (hroom : (rest.map fun v => v.category).sum ≤ 8) (is : List Nat) (mask : List (Option Nat)) (hnd : va_nd is = true) (hC : is.map (fun i => ws[i]?) = wc.map some) (hin : is.all (fun i => (mask[i]?.getD none).isSome) = true) (hdg : decode cc pc = .ok (.invokestatic index, 3))
    (kk : ∀ (u : S), post u → GoW D A ws mask (w1 u) (fun ws' => G p l e R s m args below meth c D A nL kc ks Q ws' lv (pc + 3) rest)) : G p l e R s m args below meth c D A nL kc ks Q ws lv pc st := by
  intro H locs ls hP hD hS hl
  subst hst
  have hPc : va_P D vwCl wc H := by
    intro k q hk
    have h1 : (is.map (fun i => ws[i]?))[k]? = some (some q) := by rw [hC, List.getElem?_map, hk]; rfl
    rw [List.getElem?_map] at h1
    cases hi : is[k]? with
    | none => rw [hi] at h1; cases h1
    | some i => rw [hi] at h1; exact hP i q (Option.some.inj h1)
  have hDc := hD.sub is hnd hC
  have hFc := va_free (wc := wc) hD hS C.2.2.2.2.2.2.1 is hC
  refine va_callv (va_runS (As := As) (rest := rest) ⟨C.1, C.2.1, C.2.2.1, C.2.2.2.1, C.2.2.2.2.1⟩ (hM H.size) (va_cwS n C.2.2.2.2.1 hG hw hrm hrs hd hR) ⟨PreW_blind, fun U hU hW => ⟨rfl, by rw [hU], by rw [hU]; exact hPc, va_K.moved hW.alike C.2.2.2.2.2.1, hDc.weaken (fun _ _ _ _ => trivial), NestOK.warm hW C.2.2.2.2.2.2.2.2.2⟩⟩ rfl hn hl.1 rfl (lv_room hroom) hdg hkc) hS (fun q _ h => hFc q h) hFc (fun u t H1 locs1 ht hvm hw1 hB hz1 hk1 hS1 => ?_)
  obtain ⟨ws', e1, e2, e3, k⟩ := kk u hw1
  have hP1 : va_P D vwCl (w1 u) H1 := by rw [← ht]; exact hB
  obtain ⟨hP2, hD2⟩ := mkw_join hP hD is mask hC e1 e2 hin e3 hk1 hP1
  exact k H1 locs1 ls hP2 hD2 hS1 hl
theorem g_callSv0 {post : Unit → Prop} (C : Cx p s m args meth c cc nL ret Ts own D tys A) (hM : CtV l y Tc rm D tys As wc post (fun _ => wc)) (n : Nat) (hG : GoodIn Ts (va_wsS own index y Tc)) (hw : Tc = Cond.code y bytes maxL rt :: Tc') (hrm : rm.cells = 0) (hrs : rm.slots = 0) (hd : y.cls ≠ "java/lang/invoke/MethodHandle" ∧ y.cls ≠ "java/lang/invoke/VarHandle" ∧ (parseMethodDescriptor y.desc).map (fun d => d.parameters.length) = some n) (hR : rm.frames + 1 ≤ R.frames ∧ 8 + (maxL + 11) + rm.locals ≤ R.locals) (hkc : kc + 0 ≤ R.cells ∧ ks + 0 ≤ R.slots)  (hn : As.length = n) (hst : st = As.reverse ++ rest) (hroom : (rest.map fun v => v.category).sum ≤ 8) (is : List Nat) (hnd : va_nd is = true) (hC : is.map (fun i => ws[i]?) = wc.map some) (hdg : decode cc pc = .ok (.invokestatic index, 3))
    (kk : post () → G p l e R s m args below meth c D A nL kc ks Q ws lv (pc + 3) rest) : G p l e R s m args below meth c D A nL kc ks Q ws lv pc st := by
  intro H locs ls hP hD hS hl
  subst hst
  have at' : ∀ (k : Nat) (q : Nat × va_E), wc[k]? = some q → ∃ i, is[k]? = some i ∧ ws[i]? = some q := by
    intro k q hk
    have h1 : (is.map (fun i => ws[i]?))[k]? = some (some q) := by rw [hC, List.getElem?_map, hk]; rfl
    rw [List.getElem?_map] at h1
    cases hi : is[k]? with
    | none => rw [hi] at h1; cases h1
    | some i => rw [hi] at h1; exact ⟨i, rfl, Option.some.inj h1⟩
  have hPc : va_P D vwCl wc H := fun k q hk => by
    obtain ⟨i, -, h2⟩ := at' k q hk
    exact hP i q h2
  have hDc := hD.sub is hnd hC
  have hFc := va_free (wc := wc) hD hS C.2.2.2.2.2.2.1 is hC
  refine va_callv (va_runS (As := As) (rest := rest) ⟨C.1, C.2.1, C.2.2.1, C.2.2.2.1, C.2.2.2.2.1⟩ (hM H.size) (va_cwS n C.2.2.2.2.1 hG hw hrm hrs hd hR) ⟨PreW_blind, fun U hU hW => ⟨rfl, by rw [hU], by rw [hU]; exact hPc, va_K.moved hW.alike C.2.2.2.2.2.1, hDc.weaken (fun _ _ _ _ => trivial), NestOK.warm hW C.2.2.2.2.2.2.2.2.2⟩⟩ rfl hn hl.1 rfl (lv_room hroom) hdg hkc) hS (fun q _ h => hFc q h) hFc (fun u t H1 locs1 ht hvm hw1 hB hz1 hk1 hS1 => ?_)
  have hP1 : va_P D vwCl wc H1 := by rw [← ht]; exact hB
  refine kk hw1 H1 locs1 ls ?_ hD hS1 hl
  intro k q hk
  by_cases hq : va_A wc H.size q.1
  · rcases hq with ⟨j, e, h⟩ | h
    · obtain ⟨i, -, h2⟩ := at' j (q.1, e) h
      have h3 := hD.1 i k (q.1, e) q h2 hk rfl
      subst h3
      rw [hk] at h2
      have h4 : q = (q.1, e) := Option.some.inj h2
      rw [h4]
      exact hP1 j (q.1, e) h
    · exact absurd (hP k q hk).lt (Nat.not_lt.mpr h)
  · exact (hP k q hk).kept (hk1 q.1 (hP k q hk).lt hq)
end CALL
theorem vp_in_dec {i : Int32} {n : Nat} (h : (!(decide (i < 0)) && decide (i.toNatClampNeg < n)) = true) : vp_in i n := by
  simp only [Bool.and_eq_true, Bool.not_eq_true', decide_eq_false_iff_not, decide_eq_true_eq] at h
  exact fun q => q.elim h.1 (fun q => absurd h.2 (Nat.not_lt.mpr q))
theorem sw_out {x : Int32} (lo hi : Int) (hd : decide (lo ≤ hi) = true) (h : ∀ v : Int, lo ≤ v → v ≤ hi → ¬ x.toInt = v) : x.toInt < lo ∨ hi < x.toInt := by
  by_cases h1 : x.toInt < lo
  · exact Or.inl h1
  · by_cases h2 : hi < x.toInt
    · exact Or.inr h2
    · exact absurd rfl (h x.toInt (by omega) (by omega))
def wires2 (a b : Nat) : Nat → Option Nat := va_up (va_up (fun _ => none) 0 (some a)) 1 (some b)
