section KC
variable {p : Program} {l : Launch} {e : Env} {R : Room} {s : State} {m : MethodId} {args : Array Value} {below : List Frame} {meth : Method} {c : Code} {H : Heap} {locs : List Loc} {cells slots : Nat} {Q : State → Prop}
variable {s0 : State} {D : va_G} {cA : Nat → ClassId} {cc : ByteArray} {own : String} {nL : Nat} {ι ι0 : Nat → Nat} {h h0 hf : kx_H} {rr : kx_R} {pc : Nat} {k : kx_F} {ls : Array Slot} {rest : List Value} {a t i : Nat} {r : vw_C}
theorem kx_enV {T : State} (X : Stand p l e R s m args below meth c T locs cells slots) (hexec : p.tables.exec = Jvm.exec) (hb : c.code = cc) {C : String} {y : MethodName} {bytes : ByteArray} {maxL : Nat} {ret : Option FieldType}
    (hown : s.vm.findClass own = some m.cls) (hlink : (Cond.methodLink own i y).before args s = true) (hinst : (Cond.instanceMethod y).before args s = true) (hsel : (Cond.selects C y y).before args s = true)
    (hcode : (Cond.code y bytes maxL ret).before args s = true) (hy : y.cls ≠ "java/lang/invoke/MethodHandle" ∧ y.cls ≠ "java/lang/invoke/VarHandle")
    {b : Addr} {cellB : Cell} (hcell : T.heap[b]? = some cellB) (hobj : cellB.vm.isStatics = false) (hcls : s.vm.findClass C = some cellB.cls)
    {argsL : List Value} (hlen : (parseMethodDescriptor y.desc).map (fun d => d.parameters.length) = some argsL.length) (hdg : decode cc pc = .ok (.invokevirtual i, 3)) :
    ∃ (vm₁ : Vm) (mk : MethodId), s.WarmedH vm₁ ∧ Stand p l e R s m args below meth c (T.setVm vm₁) locs cells slots ∧ (T.setVm vm₁).methodNamed? y = some mk ∧
      ∀ target, (∀ acts, Steps p.tables e below (doInvoke e ((T.setVm vm₁).setTop (F0 m pc ls rest)) acts mk (Value.ref b :: argsL).toArray).1 target) → Steps p.tables e below (T.setTop (F0 m pc ls (argsL.reverse ++ .ref b :: rest))) target := by
  subst hb
  obtain ⟨mk, methM, hnamed, hmethM, hstM, habM⟩ := Cond.instanceMethod_spec hinst
  obtain ⟨methM', cM, hmethM', -, -, -, -, -, -, hsigM⟩ := Cond.code_spec hnamed hcode
  cases hmethM.symm.trans hmethM'
  obtain ⟨c2, r2, m2, q1, q2, q3, q4, kP, hkP, hkPi⟩ := Cond.selects_spec hsel
  cases hcls.symm.trans q1
  cases (State.methodFound?_of_named hnamed hy).symm.trans q2
  cases hnamed.symm.trans q3
  have hselP : selectMethod e.platform s.vm cellB.cls mk = .method mk := by rw [Launch.admits_selectMethod X.admits]; exact q4
  have hlen' : argsL.length = methM.sig.parameters.length := by rw [hsigM] at hlen; exact (Option.some.inj hlen).symm
  obtain ⟨vm₁, X₁, hstep₁⟩ := X.invokevirtual hexec hown hlink hnamed hmethM hstM hkP hkPi hy (a := b) (cell := cellB) hcell
    (fun z h => by rw [h] at hobj; cases hobj) hselP hmethM habM hkP hkPi (g := F0 m pc ls (argsL.reverse ++ .ref b :: rest)) rfl (argsL := argsL) (rest := rest) hlen' rfl hdg
  exact ⟨vm₁, mk, X₁.warmed, X₁, X₁.named hnamed, fun target h => hstep₁ _ fun acts => h acts⟩
theorem kx_enS {T : State} (X : Stand p l e R s m args below meth c T locs cells slots) (hexec : p.tables.exec = Jvm.exec) (hb : c.code = cc) {y : MethodName} {bytes : ByteArray} {maxL : Nat} {ret : Option FieldType}
    (hown : s.vm.findClass own = some m.cls) (hlink : (Cond.methodLink own i y).before args s = true) (hstat : (Cond.static y).before args s = true) (hinit : (Cond.initialized y.cls).before args s = true)
    (hcode : (Cond.code y bytes maxL ret).before args s = true) (hy : y.cls ≠ "java/lang/invoke/MethodHandle" ∧ y.cls ≠ "java/lang/invoke/VarHandle")
    {argsL : List Value} (hlen : (parseMethodDescriptor y.desc).map (fun d => d.parameters.length) = some argsL.length) (hdg : decode cc pc = .ok (.invokestatic i, 3)) :
    ∃ (vm₁ : Vm) (mk : MethodId), s.WarmedH vm₁ ∧ Stand p l e R s m args below meth c (T.setVm vm₁) locs cells slots ∧ (T.setVm vm₁).methodNamed? y = some mk ∧
      ∀ target, (∀ acts, Steps p.tables e below (doInvoke e ((T.setVm vm₁).setTop (F0 m pc ls rest)) acts mk argsL.toArray).1 target) → Steps p.tables e below (T.setTop (F0 m pc ls (argsL.reverse ++ rest))) target := by
  subst hb
  obtain ⟨mk, hnamed⟩ := Cond.code_named hcode
  obtain ⟨methM, cM, hmethM, -, -, -, -, -, -, hsigM⟩ := Cond.code_spec hnamed hcode
  have hstatic : methM.isStatic = true := Cond.static_spec hnamed hmethM hstat
  obtain ⟨kP, hkP, -⟩ := className_of_methodNamed hnamed
  have hinitP : kP.init = .initialized := Cond.initialized_spec (findClass_of_methodNamed hnamed) hkP hinit
  have hlen' : argsL.length = methM.sig.parameters.length := by rw [hsigM] at hlen; exact (Option.some.inj hlen).symm
  obtain ⟨vm₁, X₁, hstep₁⟩ := X.invokestatic hexec hown hlink hnamed hmethM hstatic hkP hinitP hy (g := F0 m pc ls (argsL.reverse ++ rest)) rfl (argsL := argsL) (rest := rest) hlen' rfl hdg
  exact ⟨vm₁, mk, X₁.warmed, X₁, X₁.named hnamed, fun target h => hstep₁ _ fun acts => h acts⟩
theorem kx_enI {T : State} (X : Stand p l e R s m args below meth c T locs cells slots) (hexec : p.tables.exec = Jvm.exec) (hb : c.code = cc) {y : MethodName} {bytes : ByteArray} {maxL : Nat}
    (hown : s.vm.findClass own = some m.cls) (hy1 : y.name = "<init>") (hlink : (Cond.methodLink own i y).before args s = true) (hinst : (Cond.instanceMethod y).before args s = true)
    (hcode : (Cond.code y bytes maxL none).before args s = true) (hy : y.cls ≠ "java/lang/invoke/MethodHandle" ∧ y.cls ≠ "java/lang/invoke/VarHandle")
    {b : Addr} {argsL : List Value} (hlen : (parseMethodDescriptor y.desc).map (fun d => d.parameters.length) = some argsL.length) (hdg : decode cc pc = .ok (.invokespecial i, 3)) :
    ∃ (vm₁ : Vm) (mk : MethodId), s.WarmedH vm₁ ∧ Stand p l e R s m args below meth c (T.setVm vm₁) locs cells slots ∧ (T.setVm vm₁).methodNamed? y = some mk ∧
      ∀ target, (∀ acts, Steps p.tables e below (doInvoke e ((T.setVm vm₁).setTop (F0 m pc ls rest)) acts mk (Value.ref b :: argsL).toArray).1 target) → Steps p.tables e below (T.setTop (F0 m pc ls (argsL.reverse ++ .ref b :: rest))) target := by
  subst hb
  have hpl : e.platform.magicAccessors = ({} : Platform).magicAccessors := by rw [X.admits.platform]
  have hlen' : ∀ sig, parseMethodDescriptor y.desc = some sig → argsL.length = sig.parameters.length := fun sig h => by rw [h] at hlen; exact (Option.some.inj hlen).symm
  obtain ⟨mk, methM, cM, kP, vm₁, hnamed, hmethM, hcodeM, -, hlocalsM, -, hkP, -, hW₁, hstep₁⟩ := Steps.initColdArgs (e := e) X.here hexec X.warmed hpl hown hy1 hy hlink hinst hcode (f := F0 m pc ls (argsL.reverse ++ .ref b :: rest)) rfl hlen' rfl hdg
  have X₁ := X.noted hW₁
  exact ⟨vm₁, mk, X₁.warmed, X₁, X₁.named hnamed, fun target h => hstep₁ _ fun acts => h acts⟩
theorem kx_enVN {T : State} (X : Stand p l e R s m args below meth c T locs cells slots) (hexec : p.tables.exec = Jvm.exec) (hb : c.code = cc) {C : String} {host : String} {y : MethodName} {bytes : ByteArray} {maxL : Nat} {ret : Option FieldType}
    (hown : s.vm.findClass own = some m.cls) (hlink : (Cond.methodLinkNest own i y host).before args s = true) (hinst : (Cond.instanceMethod y).before args s = true) (hsel : (Cond.selects C y y).before args s = true)
    (hcode : (Cond.code y bytes maxL ret).before args s = true) (hy : y.cls ≠ "java/lang/invoke/MethodHandle" ∧ y.cls ≠ "java/lang/invoke/VarHandle")
    {b : Addr} {cellB : Cell} (hcell : T.heap[b]? = some cellB) (hobj : cellB.vm.isStatics = false) (hcls : s.vm.findClass C = some cellB.cls)
    {argsL : List Value} (hlen : (parseMethodDescriptor y.desc).map (fun d => d.parameters.length) = some argsL.length) (hdg : decode cc pc = .ok (.invokevirtual i, 3)) :
    ∃ (vm₁ : Vm) (mk : MethodId), s.WarmedH vm₁ ∧ Stand p l e R s m args below meth c (T.setVm vm₁) locs cells slots ∧ (T.setVm vm₁).methodNamed? y = some mk ∧
      ∀ target, (∀ acts, Steps p.tables e below (doInvoke e ((T.setVm vm₁).setTop (F0 m pc ls rest)) acts mk (Value.ref b :: argsL).toArray).1 target) → Steps p.tables e below (T.setTop (F0 m pc ls (argsL.reverse ++ .ref b :: rest))) target := by
  subst hb
  obtain ⟨mk, methM, hnamed, hmethM, hstM, habM⟩ := Cond.instanceMethod_spec hinst
  obtain ⟨methM', cM, hmethM', -, -, -, -, -, -, hsigM⟩ := Cond.code_spec hnamed hcode
  cases hmethM.symm.trans hmethM'
  obtain ⟨c2, r2, m2, q1, q2, q3, q4, kP, hkP, hkPi⟩ := Cond.selects_spec hsel
  cases hcls.symm.trans q1
  cases (State.methodFound?_of_named hnamed hy).symm.trans q2
  cases hnamed.symm.trans q3
  have hselP : selectMethod e.platform s.vm cellB.cls mk = .method mk := by rw [Launch.admits_selectMethod X.admits]; exact q4
  have hlen' : argsL.length = methM.sig.parameters.length := by rw [hsigM] at hlen; exact (Option.some.inj hlen).symm
  obtain ⟨vm₁, X₁, hstep₁⟩ := X.invokevirtualNest hexec hown hlink hnamed hmethM hstM hkP hkPi hy (a := b) (cell := cellB) hcell
    (fun z h => by rw [h] at hobj; cases hobj) hselP hmethM habM hkP hkPi (g := F0 m pc ls (argsL.reverse ++ .ref b :: rest)) rfl (argsL := argsL) (rest := rest) hlen' rfl hdg
  exact ⟨vm₁, mk, X₁.warmed, X₁, X₁.named hnamed, fun target h => hstep₁ _ fun acts => h acts⟩
theorem kx_enSN {T : State} (X : Stand p l e R s m args below meth c T locs cells slots) (hexec : p.tables.exec = Jvm.exec) (hb : c.code = cc) {host : String} {y : MethodName} {bytes : ByteArray} {maxL : Nat} {ret : Option FieldType}
    (hown : s.vm.findClass own = some m.cls) (hlink : (Cond.methodLinkNest own i y host).before args s = true) (hstat : (Cond.static y).before args s = true) (hinit : (Cond.initialized y.cls).before args s = true)
    (hcode : (Cond.code y bytes maxL ret).before args s = true) (hy : y.cls ≠ "java/lang/invoke/MethodHandle" ∧ y.cls ≠ "java/lang/invoke/VarHandle")
    {argsL : List Value} (hlen : (parseMethodDescriptor y.desc).map (fun d => d.parameters.length) = some argsL.length) (hdg : decode cc pc = .ok (.invokestatic i, 3)) :
    ∃ (vm₁ : Vm) (mk : MethodId), s.WarmedH vm₁ ∧ Stand p l e R s m args below meth c (T.setVm vm₁) locs cells slots ∧ (T.setVm vm₁).methodNamed? y = some mk ∧
      ∀ target, (∀ acts, Steps p.tables e below (doInvoke e ((T.setVm vm₁).setTop (F0 m pc ls rest)) acts mk argsL.toArray).1 target) → Steps p.tables e below (T.setTop (F0 m pc ls (argsL.reverse ++ rest))) target := by
  subst hb
  obtain ⟨mk, hnamed⟩ := Cond.code_named hcode
  obtain ⟨methM, cM, hmethM, -, -, -, -, -, -, hsigM⟩ := Cond.code_spec hnamed hcode
  have hstatic : methM.isStatic = true := Cond.static_spec hnamed hmethM hstat
  obtain ⟨kP, hkP, -⟩ := className_of_methodNamed hnamed
  have hinitP : kP.init = .initialized := Cond.initialized_spec (findClass_of_methodNamed hnamed) hkP hinit
  have hlen' : argsL.length = methM.sig.parameters.length := by rw [hsigM] at hlen; exact (Option.some.inj hlen).symm
  obtain ⟨vm₁, X₁, hstep₁⟩ := X.invokestaticNest hexec hown hlink hnamed hmethM hstatic hkP hinitP hy (g := F0 m pc ls (argsL.reverse ++ rest)) rfl (argsL := argsL) (rest := rest) hlen' rfl hdg
  exact ⟨vm₁, mk, X₁.warmed, X₁, X₁.named hnamed, fun target h => hstep₁ _ fun acts => h acts⟩
theorem kx_enIN {T : State} (X : Stand p l e R s m args below meth c T locs cells slots) (hexec : p.tables.exec = Jvm.exec) (hb : c.code = cc) {host : String} {y : MethodName} {bytes : ByteArray} {maxL : Nat}
    (hown : s.vm.findClass own = some m.cls) (hy1 : y.name = "<init>") (hlink : (Cond.methodLinkNest own i y host).before args s = true) (hinst : (Cond.instanceMethod y).before args s = true)
    (hcode : (Cond.code y bytes maxL none).before args s = true) (hy : y.cls ≠ "java/lang/invoke/MethodHandle" ∧ y.cls ≠ "java/lang/invoke/VarHandle")
    {b : Addr} {argsL : List Value} (hlen : (parseMethodDescriptor y.desc).map (fun d => d.parameters.length) = some argsL.length) (hdg : decode cc pc = .ok (.invokespecial i, 3)) :
    ∃ (vm₁ : Vm) (mk : MethodId), s.WarmedH vm₁ ∧ Stand p l e R s m args below meth c (T.setVm vm₁) locs cells slots ∧ (T.setVm vm₁).methodNamed? y = some mk ∧
      ∀ target, (∀ acts, Steps p.tables e below (doInvoke e ((T.setVm vm₁).setTop (F0 m pc ls rest)) acts mk (Value.ref b :: argsL).toArray).1 target) → Steps p.tables e below (T.setTop (F0 m pc ls (argsL.reverse ++ .ref b :: rest))) target := by
  subst hb
  have hpl : e.platform.magicAccessors = ({} : Platform).magicAccessors := by rw [X.admits.platform]
  have hlen' : ∀ sig, parseMethodDescriptor y.desc = some sig → argsL.length = sig.parameters.length := fun sig h => by rw [h] at hlen; exact (Option.some.inj hlen).symm
  obtain ⟨mk, methM, cM, kP, vm₁, hnamed, hmethM, hcodeM, -, hlocalsM, -, hkP, -, hW₁, hstep₁⟩ := Steps.initColdArgsNest (e := e) X.here hexec X.warmed hpl hown hy1 hy hlink hinst hcode (f := F0 m pc ls (argsL.reverse ++ .ref b :: rest)) rfl hlen' rfl hdg
  have X₁ := X.noted hW₁
  exact ⟨vm₁, mk, X₁.warmed, X₁, X₁.named hnamed, fun target h => hstep₁ _ fun acts => h acts⟩
/-- the methods that are called -/
def kx_cs9 (l : Launch) (s0 : State) (D : va_G) (cA : Nat → ClassId) (C : kx_C) (d : Nat) : Prop := ∀ (n : Nat) (As : List kx_V) (h : kx_H) (r' : kx_R) (h' : kx_H), C n As h = some (r', h') → kx_fits (kx_pm n) As = true → hp_C h ≤ kx_cc → hp_U h ≤ kx_cs →
  ∀ (rm : Room) (ι : Nat → Nat), kx_need d rm → kx_cc ≤ rm.cells + hp_C h → kx_cs ≤ rm.slots + hp_U h → kx_Mt l s0 D cA (kx_mn n) rm ι As h r' h'
/-- a call site: what holds of the callee -/
def kx_cal (n : Nat) (bytes : ByteArray) (maxL : Nat) (ret : Option FieldType) (w : Nat) : Prop := Cond.code (kx_mn n) bytes maxL ret ∈ kx_WS ∧ Cond.initialized (kx_mn n).cls ∈ kx_WS ∧ maxL ≤ 13 ∧ ((kx_mn n).cls ≠ "java/lang/invoke/MethodHandle" ∧ (kx_mn n).cls ≠ "java/lang/invoke/VarHandle") ∧ (parseMethodDescriptor (kx_mn n).desc).map (fun d => d.parameters.length) = some w
theorem kx_fits_len {ps : List Nat} {vs : List kx_V} (h : kx_fits ps vs = true) : vs.length = ps.length := by
  induction ps generalizing vs with
  | nil => cases vs with
    | nil => rfl
    | cons v vs => cases h
  | cons p ps ih => cases vs with
    | nil => cases h
    | cons v vs =>
      unfold kx_fits at h
      rw [Bool.and_eq_true] at h
      rw [List.length_cons, List.length_cons, ih h.2]
theorem kx_core (G : kx_G p e R s m args meth c s0 D cA cc own nL h0) (hg : ∀ w ∈ kx_WS, kx_kp w) {C : kx_C} {d n : Nat} (hCS : kx_cs9 l s0 D cA C d) (hR : kx_need (d + 1) R) (hout : ∀ x ∈ c.exceptionTable.toList, covers x pc = false) {bytes : ByteArray} {maxL w : Nat} {ret : Option FieldType} (hcal : kx_cal n bytes maxL ret w) {As r9 : List kx_V} (hfit : kx_fits (kx_pm n) As = true) (hr9 : r9.length ≤ 4) {lv : kx_L} {h : kx_H} {q : kx_R × kx_H} (hq : C n As h = some q) {st0 : List Value} {ig : Instr} (hdg : decode cc pc = .ok (ig, 3))
    {ι : Nat → Nat} {H : Heap} (hP : kx_P s0 D cA ι h H) (hl : lv_has ls nL (kx_lc ι lv)) (hs1 : ∀ v ∈ As, kx_ok h v) (hs2 : ∀ v ∈ r9, kx_ok h v) (hv : ∀ q ∈ lv, kx_ok h q.2) (hS : va_S (kx_A s0 s) s.heap H locs) (hC : hp_C h0 + cells = hp_C h) (hU : hp_U h0 + slots = hp_U h) (hI : ∀ a, a < hp_X h0 → ι a = ι0 a) (hE : kx_le h0 h)
    (enter : ∀ T : State, T.heap = H → Stand p l e R s m args below meth c T locs cells slots → ∃ (vm₁ : Vm) (mk : MethodId), s.WarmedH vm₁ ∧ Stand p l e R s m args below meth c (T.setVm vm₁) locs cells slots ∧ (T.setVm vm₁).methodNamed? (kx_mn n) = some mk ∧
      ∀ target, (∀ acts, Steps p.tables e below (doInvoke e ((T.setVm vm₁).setTop (F0 m pc ls (r9.map (kx_cv ι)))) acts mk (As.map (kx_cv ι)).toArray).1 target) → Steps p.tables e below (T.setTop (F0 m pc ls st0)) target)
    (hk : kx_Sn p l e R s m args below meth c s0 D cA nL ι0 h0 rr hf (pc + 3) k) (hret : ∀ v, q.1 = .inl v → k lv (v.toList ++ r9) q.2 = some (rr, hf)) (hthr : ∀ e', q.1 = .inr e' → rr = .inr e' ∧ hf = q.2) :
    W p l e R s m args below meth c H locs cells slots (kx_Q s0 D cA below s ι0 h0 rr hf) (F0 m pc ls st0) := by
  obtain ⟨r', h'⟩ := q
  refine kx_wcall G hg hcal.1 hcal.2.1 hcal.2.2.1 (fun rm hn h1 h2 => hCS n As h r' h' hq hfit hE.2.2.1 hE.2.2.2 rm ι hn h1 h2) hR (by have := G.2.2.2.2.2.2.2.1; have := hE.2.2.1; omega) (by have := G.2.2.2.2.2.2.2.2; have := hE.2.2.2; omega) hP hS hC hU hI hE hs1 (by have := kx_w2 ι r9; omega) hl.1 hdg enter (fun v ι' H' locs' cells' slots' e1 p1 a1 s1 c1 u1 x1 i1 l1 l2 ok1 => ?_) (fun e' he => hthr e' he) hout
  have up : ∀ v9, kx_ok h v9 → kx_ok h' v9 := fun v9 ho => by
    rcases v9 with x | x | ⟨t9, o9⟩
    · trivial
    · trivial
    · exact fun a ha => l1.2.1 a t9 (ho a ha)
  have h3 := hk lv (v.toList ++ r9) h' (hret v e1) ι' H' locs' cells' slots' ls p1 a1 (by rw [kx_lc_ext hv x1]; exact hl) (fun w hw => by
    rcases List.mem_append.mp hw with z | z
    · exact ok1 w (by cases v with
        | none => cases z
        | some y => rw [List.mem_singleton.mp z])
    · exact up w (hs2 w z)) (fun q hq => up _ (hv q hq)) s1 c1 u1 i1 l2
  rw [List.map_append, kx_st_ext hs2 x1] at h3
  have e4 : (v.map (kx_cv ι')).toList = v.toList.map (kx_cv ι') := by cases v <;> rfl
  rw [e4]
  exact h3
theorem kx_and {a b : Bool} (h : (a && b) = true) : a = true ∧ b = true := by
  cases a <;> cases b <;> first | exact ⟨rfl, rfl⟩ | cases h
theorem kx_ao_spec {t : Nat} {ps : List Nat} {st : List kx_V} {K : List kx_V → List kx_V → kx_O} {z : kx_R × kx_H} (hz : kx_ao t ps st K = some z) :
    ∃ (a : Nat) (r : List kx_V), st = st.take ps.length ++ .inr (.inr (t, some a)) :: r ∧ kx_fits ps (st.take ps.length).reverse = true ∧ r.length ≤ 4 ∧ K (.inr (.inr (t, some a)) :: (st.take ps.length).reverse) r = some z := by
  unfold kx_ao at hz
  cases h1 : kx_fits ps (st.take ps.length).reverse with
  | false => rw [h1] at hz; cases hz
  | true =>
    rw [h1] at hz
    simp only [cond_true] at hz
    split at hz
    · rename_i x r hd
      obtain ⟨t9, o9⟩ := x
      cases h2 : (Nat.beq t9 t && Nat.ble r.length 4) with
      | false => rw [h2] at hz; cases hz
      | true =>
        rw [h2] at hz
        obtain ⟨h3, h4⟩ := kx_and h2
        have e9 : t9 = t := Nat.eq_of_beq_eq_true h3
        subst e9
        cases o9 with
        | none => cases hz
        | some a => exact ⟨a, r, by rw [← hd, List.take_append_drop], rfl, Nat.le_of_ble_eq_true h4, hz⟩
    · cases hz
theorem kx_as_spec {ps : List Nat} {st : List kx_V} {K : List kx_V → List kx_V → kx_O} {z : kx_R × kx_H} (hz : kx_as ps st K = some z) :
    kx_fits ps (st.take ps.length).reverse = true ∧ (st.drop ps.length).length ≤ 4 ∧ K (st.take ps.length).reverse (st.drop ps.length) = some z := by
  unfold kx_as at hz
  cases h2 : (kx_fits ps (st.take ps.length).reverse && Nat.ble (st.drop ps.length).length 4) with
  | false => rw [h2] at hz; cases hz
  | true =>
    rw [h2] at hz
    obtain ⟨h3, h4⟩ := kx_and h2
    exact ⟨h3, Nat.le_of_ble_eq_true h4, hz⟩
theorem kx_bv_spec {o : kx_O} {K : kx_H → kx_O} {z : kx_R × kx_H} (hz : kx_bv o K = some z) : ∃ q, o = some q ∧ (∀ v, q.1 = .inl v → v = none ∧ K q.2 = some z) ∧ ∀ e', q.1 = .inr e' → z = (.inr e', q.2) := by
  cases o with
  | none => cases hz
  | some q =>
    obtain ⟨r', h'⟩ := q
    refine ⟨_, rfl, ?_⟩
    rcases r' with v | e'
    · cases v with
      | none => exact ⟨fun v hv => by cases hv; exact ⟨rfl, hz⟩, fun e' he => by cases he⟩
      | some v => cases hz
    · cases hz
      exact ⟨fun v hv => (by cases hv), fun e9 he => (by cases he; rfl)⟩
theorem kx_bi_spec {o : kx_O} {K : Int32 → kx_H → kx_O} {z : kx_R × kx_H} (hz : kx_bi o K = some z) : ∃ q, o = some q ∧ (∀ v, q.1 = .inl v → ∃ x, v = some (.inl x) ∧ K x q.2 = some z) ∧ ∀ e', q.1 = .inr e' → z = (.inr e', q.2) := by
  cases o with
  | none => cases hz
  | some q =>
    obtain ⟨r', h'⟩ := q
    refine ⟨_, rfl, ?_⟩
    rcases r' with v | e'
    · rcases v with _ | (v | v | v)
      · cases hz
      · exact ⟨fun v9 hv => by cases hv; exact ⟨v, rfl, hz⟩, fun e' he => by cases he⟩
      · cases hz
      · cases hz
    · cases hz
      exact ⟨fun v hv => (by cases hv), fun e9 he => (by cases he; rfl)⟩
theorem kx_bl_spec {o : kx_O} {K : Int64 → kx_H → kx_O} {z : kx_R × kx_H} (hz : kx_bl o K = some z) : ∃ q, o = some q ∧ (∀ v, q.1 = .inl v → ∃ x, v = some (.inr (.inl x)) ∧ K x q.2 = some z) ∧ ∀ e', q.1 = .inr e' → z = (.inr e', q.2) := by
  cases o with
  | none => cases hz
  | some q =>
    obtain ⟨r', h'⟩ := q
    refine ⟨_, rfl, ?_⟩
    rcases r' with v | e'
    · rcases v with _ | (v | v | v)
      · cases hz
      · cases hz
      · exact ⟨fun v9 hv => by cases hv; exact ⟨v, rfl, hz⟩, fun e' he => by cases he⟩
      · cases hz
    · cases hz
      exact ⟨fun v hv => (by cases hv), fun e9 he => (by cases he; rfl)⟩
theorem kx_br_spec {c9 : Nat} {o : kx_O} {K : Option Nat → kx_H → kx_O} {z : kx_R × kx_H} (hz : kx_br c9 o K = some z) : ∃ q, o = some q ∧ (∀ v, q.1 = .inl v → ∃ x, v = some (.inr (.inr (c9, x))) ∧ K x q.2 = some z) ∧ ∀ e', q.1 = .inr e' → z = (.inr e', q.2) := by
  cases o with
  | none => cases hz
  | some q =>
    obtain ⟨r', h'⟩ := q
    refine ⟨_, rfl, ?_⟩
    rcases r' with v | e'
    · rcases v with _ | (v | v | v)
      · cases hz
      · cases hz
      · cases hz
      · obtain ⟨t8, o8⟩ := v
        cases h8 : Nat.beq t8 c9 with
        | false => simp [kx_br, h8] at hz
        | true =>
          have e8 : t8 = c9 := Nat.eq_of_beq_eq_true h8
          subst e8
          have hz2 : K o8 h' = some z := by simpa [kx_br, h8] using hz
          exact ⟨fun v9 hv => by cases hv; exact ⟨o8, rfl, hz2⟩, fun e' he => by cases he⟩
    · cases hz
      exact ⟨fun v hv => (by cases hv), fun e9 he => (by cases he; rfl)⟩
theorem kx_fits2 {t : Nat} {ps : List Nat} {a : Nat} {vs : List kx_V} (h : kx_fits ps vs = true) : kx_fits ((t + 2) :: ps) (.inr (.inr (t, some a)) :: vs) = true := by
  show (kx_fit (t + 2) (.inr (.inr (t, some a))) && kx_fits ps vs) = true
  rw [h]
  show (Nat.beq (t + 2) (t + 2) && true) = true
  rw [Nat.beq_refl]
  rfl
theorem kx_s_Vv (G : kx_G p e R s m args meth c s0 D cA cc own nL h0) (hg : ∀ w ∈ kx_WS, kx_kp w) {C : kx_C} {d n : Nat} (hCS : kx_cs9 l s0 D cA C d) (hR : kx_need (d + 1) R) (hout : ∀ x ∈ c.exceptionTable.toList, covers x pc = false) {bytes : ByteArray} {maxL : Nat} {ret : Option FieldType} {ps : List Nat} (hcal : kx_cal n bytes maxL ret ps.length) (hpm : kx_pm n = (t + 2) :: ps) (h1 : Cond.methodLink own i (kx_mn n) ∈ kx_WS) (h2 : Cond.instanceMethod (kx_mn n) ∈ kx_WS) (h3 : Cond.selects r.1 (kx_mn n) (kx_mn n) ∈ kx_WS) (hc : kx_cl[t]? = some r) (h98 : t < 98) (hd : decode cc pc = .ok (.invokevirtual i, 3)) (hk : kx_Sn p l e R s m args below meth c s0 D cA nL ι0 h0 rr hf (pc + 3) k) : kx_Sn p l e R s m args below meth c s0 D cA nL ι0 h0 rr hf pc (kx_Vv C n t ps k) := by
  intro lv st h hF
  unfold kx_Vv at hF
  obtain ⟨a, r9, hst, hfit, hr9, hF⟩ := kx_ao_spec hF
  obtain ⟨q, hq, hret, hthr⟩ := kx_bv_spec hF
  intro ι H locs cells slots ls hP hA hl hs hv hS hC hU hI hE
  have hts := G.2.2.2.2.2.1
  have hs' := hs
  rw [hst] at hs'
  have hta : hp_T h a = some t := hs' (.inr (.inr (t, some a))) (List.mem_append_right _ List.mem_cons_self) a rfl
  have hlen : (st.take ps.length).reverse.length = ps.length := kx_fits_len hfit
  have hmap : st.map (kx_cv ι) = ((st.take ps.length).reverse.map (kx_cv ι)).reverse ++ .ref (ι a) :: r9.map (kx_cv ι) := by
    conv => lhs; rw [hst]
    rw [List.map_append, List.map_cons, List.map_reverse, List.reverse_reverse]
    rfl
  rw [hmap]
  refine kx_core G hg hCS hR hout hcal (As := .inr (.inr (t, some a)) :: (st.take ps.length).reverse) (r9 := r9) (by rw [hpm]; exact kx_fits2 hfit) hr9 hq hd hP hl (fun v hv9 => ?_) (fun v hv9 => hs' v (List.mem_append_right _ (List.mem_cons_of_mem _ hv9))) hv hS hC hU hI hE (fun T hT X => by
      obtain ⟨-, r', hr', cellB, b1, b2, b3, -⟩ := (hP.1 a t hta).2.2.1 h98
      cases hc.symm.trans hr'
      have hK := (G.2.2.2.2.2.2.1.2.1.1 t r hc).2
      exact kx_enV X G.1 G.2.1 (C := r.1) G.2.2.1 (hts _ h1) (hts _ h2) (hts _ h3) (hts _ hcal.1) hcal.2.2.2.1 (by rw [hT]; exact b1) (by rw [b3]; rfl) (by rw [b2]; exact hK.1) (argsL := (st.take ps.length).reverse.map (kx_cv ι)) (by rw [List.length_map, hlen]; exact hcal.2.2.2.2) hd) hk (fun v hv => by obtain ⟨rfl, z⟩ := hret v hv; exact z) (fun e' he => by have z := hthr e' he; cases z; exact ⟨rfl, rfl⟩)
  rcases List.mem_cons.mp hv9 with rfl | hv9
  · exact fun b hb => by cases hb; exact hta
  · exact hs v (List.mem_of_mem_take (List.mem_reverse.mp hv9))
theorem kx_s_VNv (G : kx_G p e R s m args meth c s0 D cA cc own nL h0) (hg : ∀ w ∈ kx_WS, kx_kp w) {C : kx_C} {d n : Nat} (hCS : kx_cs9 l s0 D cA C d) (hR : kx_need (d + 1) R) (hout : ∀ x ∈ c.exceptionTable.toList, covers x pc = false) {bytes : ByteArray} {maxL : Nat} {ret : Option FieldType} {ps : List Nat} (hcal : kx_cal n bytes maxL ret ps.length) (hpm : kx_pm n = (t + 2) :: ps) {host : String} (h1 : Cond.methodLinkNest own i (kx_mn n) host ∈ kx_WS) (h2 : Cond.instanceMethod (kx_mn n) ∈ kx_WS) (h3 : Cond.selects r.1 (kx_mn n) (kx_mn n) ∈ kx_WS) (hc : kx_cl[t]? = some r) (h98 : t < 98) (hd : decode cc pc = .ok (.invokevirtual i, 3)) (hk : kx_Sn p l e R s m args below meth c s0 D cA nL ι0 h0 rr hf (pc + 3) k) : kx_Sn p l e R s m args below meth c s0 D cA nL ι0 h0 rr hf pc (kx_Vv C n t ps k) := by
  intro lv st h hF
  unfold kx_Vv at hF
  obtain ⟨a, r9, hst, hfit, hr9, hF⟩ := kx_ao_spec hF
  obtain ⟨q, hq, hret, hthr⟩ := kx_bv_spec hF
  intro ι H locs cells slots ls hP hA hl hs hv hS hC hU hI hE
  have hts := G.2.2.2.2.2.1
  have hs' := hs
  rw [hst] at hs'
  have hta : hp_T h a = some t := hs' (.inr (.inr (t, some a))) (List.mem_append_right _ List.mem_cons_self) a rfl
  have hlen : (st.take ps.length).reverse.length = ps.length := kx_fits_len hfit
  have hmap : st.map (kx_cv ι) = ((st.take ps.length).reverse.map (kx_cv ι)).reverse ++ .ref (ι a) :: r9.map (kx_cv ι) := by
    conv => lhs; rw [hst]
    rw [List.map_append, List.map_cons, List.map_reverse, List.reverse_reverse]
    rfl
  rw [hmap]
  refine kx_core G hg hCS hR hout hcal (As := .inr (.inr (t, some a)) :: (st.take ps.length).reverse) (r9 := r9) (by rw [hpm]; exact kx_fits2 hfit) hr9 hq hd hP hl (fun v hv9 => ?_) (fun v hv9 => hs' v (List.mem_append_right _ (List.mem_cons_of_mem _ hv9))) hv hS hC hU hI hE (fun T hT X => by
      obtain ⟨-, r', hr', cellB, b1, b2, b3, -⟩ := (hP.1 a t hta).2.2.1 h98
      cases hc.symm.trans hr'
      have hK := (G.2.2.2.2.2.2.1.2.1.1 t r hc).2
      exact kx_enVN X G.1 G.2.1 (C := r.1) G.2.2.1 (hts _ h1) (hts _ h2) (hts _ h3) (hts _ hcal.1) hcal.2.2.2.1 (by rw [hT]; exact b1) (by rw [b3]; rfl) (by rw [b2]; exact hK.1) (argsL := (st.take ps.length).reverse.map (kx_cv ι)) (by rw [List.length_map, hlen]; exact hcal.2.2.2.2) hd) hk (fun v hv => by obtain ⟨rfl, z⟩ := hret v hv; exact z) (fun e' he => by have z := hthr e' he; cases z; exact ⟨rfl, rfl⟩)
  rcases List.mem_cons.mp hv9 with rfl | hv9
  · exact fun b hb => by cases hb; exact hta
  · exact hs v (List.mem_of_mem_take (List.mem_reverse.mp hv9))
theorem kx_s_Iv (G : kx_G p e R s m args meth c s0 D cA cc own nL h0) (hg : ∀ w ∈ kx_WS, kx_kp w) {C : kx_C} {d n : Nat} (hCS : kx_cs9 l s0 D cA C d) (hR : kx_need (d + 1) R) (hout : ∀ x ∈ c.exceptionTable.toList, covers x pc = false) {bytes : ByteArray} {maxL : Nat} {ret : Option FieldType} {ps : List Nat} (hcal : kx_cal n bytes maxL ret ps.length) (hpm : kx_pm n = (t + 2) :: ps) (h1 : Cond.methodLink own i (kx_mn n) ∈ kx_WS) (h2 : Cond.instanceMethod (kx_mn n) ∈ kx_WS) (h3 : (kx_mn n).name = "<init>") (hrn : ret = none) (hd : decode cc pc = .ok (.invokespecial i, 3)) (hk : kx_Sn p l e R s m args below meth c s0 D cA nL ι0 h0 rr hf (pc + 3) k) : kx_Sn p l e R s m args below meth c s0 D cA nL ι0 h0 rr hf pc (kx_Vv C n t ps k) := by
  subst hrn
  intro lv st h hF
  unfold kx_Vv at hF
  obtain ⟨a, r9, hst, hfit, hr9, hF⟩ := kx_ao_spec hF
  obtain ⟨q, hq, hret, hthr⟩ := kx_bv_spec hF
  intro ι H locs cells slots ls hP hA hl hs hv hS hC hU hI hE
  have hts := G.2.2.2.2.2.1
  have hs' := hs
  rw [hst] at hs'
  have hta : hp_T h a = some t := hs' (.inr (.inr (t, some a))) (List.mem_append_right _ List.mem_cons_self) a rfl
  have hlen : (st.take ps.length).reverse.length = ps.length := kx_fits_len hfit
  have hmap : st.map (kx_cv ι) = ((st.take ps.length).reverse.map (kx_cv ι)).reverse ++ .ref (ι a) :: r9.map (kx_cv ι) := by
    conv => lhs; rw [hst]
    rw [List.map_append, List.map_cons, List.map_reverse, List.reverse_reverse]
    rfl
  rw [hmap]
  refine kx_core G hg hCS hR hout hcal (As := .inr (.inr (t, some a)) :: (st.take ps.length).reverse) (r9 := r9) (by rw [hpm]; exact kx_fits2 hfit) hr9 hq hd hP hl (fun v hv9 => ?_) (fun v hv9 => hs' v (List.mem_append_right _ (List.mem_cons_of_mem _ hv9))) hv hS hC hU hI hE (fun T hT X => kx_enI X G.1 G.2.1 G.2.2.1 h3 (hts _ h1) (hts _ h2) (hts _ hcal.1) hcal.2.2.2.1 (argsL := (st.take ps.length).reverse.map (kx_cv ι)) (by rw [List.length_map, hlen]; exact hcal.2.2.2.2) hd) hk (fun v hv => by obtain ⟨rfl, z⟩ := hret v hv; exact z) (fun e' he => by have z := hthr e' he; cases z; exact ⟨rfl, rfl⟩)
  rcases List.mem_cons.mp hv9 with rfl | hv9
  · exact fun b hb => by cases hb; exact hta
  · exact hs v (List.mem_of_mem_take (List.mem_reverse.mp hv9))
theorem kx_s_INv (G : kx_G p e R s m args meth c s0 D cA cc own nL h0) (hg : ∀ w ∈ kx_WS, kx_kp w) {C : kx_C} {d n : Nat} (hCS : kx_cs9 l s0 D cA C d) (hR : kx_need (d + 1) R) (hout : ∀ x ∈ c.exceptionTable.toList, covers x pc = false) {bytes : ByteArray} {maxL : Nat} {ret : Option FieldType} {ps : List Nat} (hcal : kx_cal n bytes maxL ret ps.length) (hpm : kx_pm n = (t + 2) :: ps) {host : String} (h1 : Cond.methodLinkNest own i (kx_mn n) host ∈ kx_WS) (h2 : Cond.instanceMethod (kx_mn n) ∈ kx_WS) (h3 : (kx_mn n).name = "<init>") (hrn : ret = none) (hd : decode cc pc = .ok (.invokespecial i, 3)) (hk : kx_Sn p l e R s m args below meth c s0 D cA nL ι0 h0 rr hf (pc + 3) k) : kx_Sn p l e R s m args below meth c s0 D cA nL ι0 h0 rr hf pc (kx_Vv C n t ps k) := by
  subst hrn
  intro lv st h hF
  unfold kx_Vv at hF
  obtain ⟨a, r9, hst, hfit, hr9, hF⟩ := kx_ao_spec hF
  obtain ⟨q, hq, hret, hthr⟩ := kx_bv_spec hF
  intro ι H locs cells slots ls hP hA hl hs hv hS hC hU hI hE
  have hts := G.2.2.2.2.2.1
  have hs' := hs
  rw [hst] at hs'
  have hta : hp_T h a = some t := hs' (.inr (.inr (t, some a))) (List.mem_append_right _ List.mem_cons_self) a rfl
  have hlen : (st.take ps.length).reverse.length = ps.length := kx_fits_len hfit
  have hmap : st.map (kx_cv ι) = ((st.take ps.length).reverse.map (kx_cv ι)).reverse ++ .ref (ι a) :: r9.map (kx_cv ι) := by
    conv => lhs; rw [hst]
    rw [List.map_append, List.map_cons, List.map_reverse, List.reverse_reverse]
    rfl
  rw [hmap]
  refine kx_core G hg hCS hR hout hcal (As := .inr (.inr (t, some a)) :: (st.take ps.length).reverse) (r9 := r9) (by rw [hpm]; exact kx_fits2 hfit) hr9 hq hd hP hl (fun v hv9 => ?_) (fun v hv9 => hs' v (List.mem_append_right _ (List.mem_cons_of_mem _ hv9))) hv hS hC hU hI hE (fun T hT X => kx_enIN X G.1 G.2.1 G.2.2.1 h3 (hts _ h1) (hts _ h2) (hts _ hcal.1) hcal.2.2.2.1 (argsL := (st.take ps.length).reverse.map (kx_cv ι)) (by rw [List.length_map, hlen]; exact hcal.2.2.2.2) hd) hk (fun v hv => by obtain ⟨rfl, z⟩ := hret v hv; exact z) (fun e' he => by have z := hthr e' he; cases z; exact ⟨rfl, rfl⟩)
  rcases List.mem_cons.mp hv9 with rfl | hv9
  · exact fun b hb => by cases hb; exact hta
  · exact hs v (List.mem_of_mem_take (List.mem_reverse.mp hv9))
theorem kx_s_Sv (G : kx_G p e R s m args meth c s0 D cA cc own nL h0) (hg : ∀ w ∈ kx_WS, kx_kp w) {C : kx_C} {d n : Nat} (hCS : kx_cs9 l s0 D cA C d) (hR : kx_need (d + 1) R) (hout : ∀ x ∈ c.exceptionTable.toList, covers x pc = false) {bytes : ByteArray} {maxL : Nat} {ret : Option FieldType} {ps : List Nat} (hcal : kx_cal n bytes maxL ret ps.length) (hpm : kx_pm n = ps) (h1 : Cond.methodLink own i (kx_mn n) ∈ kx_WS) (h2 : Cond.static (kx_mn n) ∈ kx_WS) (hd : decode cc pc = .ok (.invokestatic i, 3)) (hk : kx_Sn p l e R s m args below meth c s0 D cA nL ι0 h0 rr hf (pc + 3) k) : kx_Sn p l e R s m args below meth c s0 D cA nL ι0 h0 rr hf pc (kx_Sv C n ps k) := by
  intro lv st h hF
  unfold kx_Sv at hF
  obtain ⟨hfit, hr9, hF⟩ := kx_as_spec hF
  obtain ⟨q, hq, hret, hthr⟩ := kx_bv_spec hF
  intro ι H locs cells slots ls hP hA hl hs hv hS hC hU hI hE
  have hts := G.2.2.2.2.2.1
  have hlen : (st.take ps.length).reverse.length = ps.length := kx_fits_len hfit
  have hmap : st.map (kx_cv ι) = ((st.take ps.length).reverse.map (kx_cv ι)).reverse ++ (st.drop ps.length).map (kx_cv ι) := by
    rw [List.map_reverse, List.reverse_reverse, ← List.map_append, List.take_append_drop]
  rw [hmap]
  exact kx_core G hg hCS hR hout hcal (As := (st.take ps.length).reverse) (r9 := st.drop ps.length) (by rw [hpm]; exact hfit) hr9 hq hd hP hl (fun v hv9 => hs v (List.mem_of_mem_take (List.mem_reverse.mp hv9))) (fun v hv9 => hs v (List.mem_of_mem_drop hv9)) hv hS hC hU hI hE (fun T hT X => kx_enS X G.1 G.2.1 G.2.2.1 (hts _ h1) (hts _ h2) (hts _ hcal.2.1) (hts _ hcal.1) hcal.2.2.2.1 (argsL := (st.take ps.length).reverse.map (kx_cv ι)) (by rw [List.length_map, hlen]; exact hcal.2.2.2.2) hd) hk (fun v hv => by obtain ⟨rfl, z⟩ := hret v hv; exact z) (fun e' he => by have z := hthr e' he; cases z; exact ⟨rfl, rfl⟩)
theorem kx_s_SNv (G : kx_G p e R s m args meth c s0 D cA cc own nL h0) (hg : ∀ w ∈ kx_WS, kx_kp w) {C : kx_C} {d n : Nat} (hCS : kx_cs9 l s0 D cA C d) (hR : kx_need (d + 1) R) (hout : ∀ x ∈ c.exceptionTable.toList, covers x pc = false) {bytes : ByteArray} {maxL : Nat} {ret : Option FieldType} {ps : List Nat} (hcal : kx_cal n bytes maxL ret ps.length) (hpm : kx_pm n = ps) {host : String} (h1 : Cond.methodLinkNest own i (kx_mn n) host ∈ kx_WS) (h2 : Cond.static (kx_mn n) ∈ kx_WS) (hd : decode cc pc = .ok (.invokestatic i, 3)) (hk : kx_Sn p l e R s m args below meth c s0 D cA nL ι0 h0 rr hf (pc + 3) k) : kx_Sn p l e R s m args below meth c s0 D cA nL ι0 h0 rr hf pc (kx_Sv C n ps k) := by
  intro lv st h hF
  unfold kx_Sv at hF
  obtain ⟨hfit, hr9, hF⟩ := kx_as_spec hF
  obtain ⟨q, hq, hret, hthr⟩ := kx_bv_spec hF
  intro ι H locs cells slots ls hP hA hl hs hv hS hC hU hI hE
  have hts := G.2.2.2.2.2.1
  have hlen : (st.take ps.length).reverse.length = ps.length := kx_fits_len hfit
  have hmap : st.map (kx_cv ι) = ((st.take ps.length).reverse.map (kx_cv ι)).reverse ++ (st.drop ps.length).map (kx_cv ι) := by
    rw [List.map_reverse, List.reverse_reverse, ← List.map_append, List.take_append_drop]
  rw [hmap]
  exact kx_core G hg hCS hR hout hcal (As := (st.take ps.length).reverse) (r9 := st.drop ps.length) (by rw [hpm]; exact hfit) hr9 hq hd hP hl (fun v hv9 => hs v (List.mem_of_mem_take (List.mem_reverse.mp hv9))) (fun v hv9 => hs v (List.mem_of_mem_drop hv9)) hv hS hC hU hI hE (fun T hT X => kx_enSN X G.1 G.2.1 G.2.2.1 (hts _ h1) (hts _ h2) (hts _ hcal.2.1) (hts _ hcal.1) hcal.2.2.2.1 (argsL := (st.take ps.length).reverse.map (kx_cv ι)) (by rw [List.length_map, hlen]; exact hcal.2.2.2.2) hd) hk (fun v hv => by obtain ⟨rfl, z⟩ := hret v hv; exact z) (fun e' he => by have z := hthr e' he; cases z; exact ⟨rfl, rfl⟩)
theorem kx_s_Vi (G : kx_G p e R s m args meth c s0 D cA cc own nL h0) (hg : ∀ w ∈ kx_WS, kx_kp w) {C : kx_C} {d n : Nat} (hCS : kx_cs9 l s0 D cA C d) (hR : kx_need (d + 1) R) (hout : ∀ x ∈ c.exceptionTable.toList, covers x pc = false) {bytes : ByteArray} {maxL : Nat} {ret : Option FieldType} {ps : List Nat} (hcal : kx_cal n bytes maxL ret ps.length) (hpm : kx_pm n = (t + 2) :: ps) (h1 : Cond.methodLink own i (kx_mn n) ∈ kx_WS) (h2 : Cond.instanceMethod (kx_mn n) ∈ kx_WS) (h3 : Cond.selects r.1 (kx_mn n) (kx_mn n) ∈ kx_WS) (hc : kx_cl[t]? = some r) (h98 : t < 98) (hd : decode cc pc = .ok (.invokevirtual i, 3)) (hk : kx_Sn p l e R s m args below meth c s0 D cA nL ι0 h0 rr hf (pc + 3) k) : kx_Sn p l e R s m args below meth c s0 D cA nL ι0 h0 rr hf pc (kx_Vi C n t ps k) := by
  intro lv st h hF
  unfold kx_Vi at hF
  obtain ⟨a, r9, hst, hfit, hr9, hF⟩ := kx_ao_spec hF
  obtain ⟨q, hq, hret, hthr⟩ := kx_bi_spec hF
  intro ι H locs cells slots ls hP hA hl hs hv hS hC hU hI hE
  have hts := G.2.2.2.2.2.1
  have hs' := hs
  rw [hst] at hs'
  have hta : hp_T h a = some t := hs' (.inr (.inr (t, some a))) (List.mem_append_right _ List.mem_cons_self) a rfl
  have hlen : (st.take ps.length).reverse.length = ps.length := kx_fits_len hfit
  have hmap : st.map (kx_cv ι) = ((st.take ps.length).reverse.map (kx_cv ι)).reverse ++ .ref (ι a) :: r9.map (kx_cv ι) := by
    conv => lhs; rw [hst]
    rw [List.map_append, List.map_cons, List.map_reverse, List.reverse_reverse]
    rfl
  rw [hmap]
  refine kx_core G hg hCS hR hout hcal (As := .inr (.inr (t, some a)) :: (st.take ps.length).reverse) (r9 := r9) (by rw [hpm]; exact kx_fits2 hfit) hr9 hq hd hP hl (fun v hv9 => ?_) (fun v hv9 => hs' v (List.mem_append_right _ (List.mem_cons_of_mem _ hv9))) hv hS hC hU hI hE (fun T hT X => by
      obtain ⟨-, r', hr', cellB, b1, b2, b3, -⟩ := (hP.1 a t hta).2.2.1 h98
      cases hc.symm.trans hr'
      have hK := (G.2.2.2.2.2.2.1.2.1.1 t r hc).2
      exact kx_enV X G.1 G.2.1 (C := r.1) G.2.2.1 (hts _ h1) (hts _ h2) (hts _ h3) (hts _ hcal.1) hcal.2.2.2.1 (by rw [hT]; exact b1) (by rw [b3]; rfl) (by rw [b2]; exact hK.1) (argsL := (st.take ps.length).reverse.map (kx_cv ι)) (by rw [List.length_map, hlen]; exact hcal.2.2.2.2) hd) hk (fun v hv => by obtain ⟨x, rfl, z⟩ := hret v hv; exact z) (fun e' he => by have z := hthr e' he; cases z; exact ⟨rfl, rfl⟩)
  rcases List.mem_cons.mp hv9 with rfl | hv9
  · exact fun b hb => by cases hb; exact hta
  · exact hs v (List.mem_of_mem_take (List.mem_reverse.mp hv9))
theorem kx_s_VNi (G : kx_G p e R s m args meth c s0 D cA cc own nL h0) (hg : ∀ w ∈ kx_WS, kx_kp w) {C : kx_C} {d n : Nat} (hCS : kx_cs9 l s0 D cA C d) (hR : kx_need (d + 1) R) (hout : ∀ x ∈ c.exceptionTable.toList, covers x pc = false) {bytes : ByteArray} {maxL : Nat} {ret : Option FieldType} {ps : List Nat} (hcal : kx_cal n bytes maxL ret ps.length) (hpm : kx_pm n = (t + 2) :: ps) {host : String} (h1 : Cond.methodLinkNest own i (kx_mn n) host ∈ kx_WS) (h2 : Cond.instanceMethod (kx_mn n) ∈ kx_WS) (h3 : Cond.selects r.1 (kx_mn n) (kx_mn n) ∈ kx_WS) (hc : kx_cl[t]? = some r) (h98 : t < 98) (hd : decode cc pc = .ok (.invokevirtual i, 3)) (hk : kx_Sn p l e R s m args below meth c s0 D cA nL ι0 h0 rr hf (pc + 3) k) : kx_Sn p l e R s m args below meth c s0 D cA nL ι0 h0 rr hf pc (kx_Vi C n t ps k) := by
  intro lv st h hF
  unfold kx_Vi at hF
  obtain ⟨a, r9, hst, hfit, hr9, hF⟩ := kx_ao_spec hF
  obtain ⟨q, hq, hret, hthr⟩ := kx_bi_spec hF
  intro ι H locs cells slots ls hP hA hl hs hv hS hC hU hI hE
  have hts := G.2.2.2.2.2.1
  have hs' := hs
  rw [hst] at hs'
  have hta : hp_T h a = some t := hs' (.inr (.inr (t, some a))) (List.mem_append_right _ List.mem_cons_self) a rfl
  have hlen : (st.take ps.length).reverse.length = ps.length := kx_fits_len hfit
  have hmap : st.map (kx_cv ι) = ((st.take ps.length).reverse.map (kx_cv ι)).reverse ++ .ref (ι a) :: r9.map (kx_cv ι) := by
    conv => lhs; rw [hst]
    rw [List.map_append, List.map_cons, List.map_reverse, List.reverse_reverse]
    rfl
  rw [hmap]
  refine kx_core G hg hCS hR hout hcal (As := .inr (.inr (t, some a)) :: (st.take ps.length).reverse) (r9 := r9) (by rw [hpm]; exact kx_fits2 hfit) hr9 hq hd hP hl (fun v hv9 => ?_) (fun v hv9 => hs' v (List.mem_append_right _ (List.mem_cons_of_mem _ hv9))) hv hS hC hU hI hE (fun T hT X => by
      obtain ⟨-, r', hr', cellB, b1, b2, b3, -⟩ := (hP.1 a t hta).2.2.1 h98
      cases hc.symm.trans hr'
      have hK := (G.2.2.2.2.2.2.1.2.1.1 t r hc).2
      exact kx_enVN X G.1 G.2.1 (C := r.1) G.2.2.1 (hts _ h1) (hts _ h2) (hts _ h3) (hts _ hcal.1) hcal.2.2.2.1 (by rw [hT]; exact b1) (by rw [b3]; rfl) (by rw [b2]; exact hK.1) (argsL := (st.take ps.length).reverse.map (kx_cv ι)) (by rw [List.length_map, hlen]; exact hcal.2.2.2.2) hd) hk (fun v hv => by obtain ⟨x, rfl, z⟩ := hret v hv; exact z) (fun e' he => by have z := hthr e' he; cases z; exact ⟨rfl, rfl⟩)
  rcases List.mem_cons.mp hv9 with rfl | hv9
  · exact fun b hb => by cases hb; exact hta
  · exact hs v (List.mem_of_mem_take (List.mem_reverse.mp hv9))
theorem kx_s_Si (G : kx_G p e R s m args meth c s0 D cA cc own nL h0) (hg : ∀ w ∈ kx_WS, kx_kp w) {C : kx_C} {d n : Nat} (hCS : kx_cs9 l s0 D cA C d) (hR : kx_need (d + 1) R) (hout : ∀ x ∈ c.exceptionTable.toList, covers x pc = false) {bytes : ByteArray} {maxL : Nat} {ret : Option FieldType} {ps : List Nat} (hcal : kx_cal n bytes maxL ret ps.length) (hpm : kx_pm n = ps) (h1 : Cond.methodLink own i (kx_mn n) ∈ kx_WS) (h2 : Cond.static (kx_mn n) ∈ kx_WS) (hd : decode cc pc = .ok (.invokestatic i, 3)) (hk : kx_Sn p l e R s m args below meth c s0 D cA nL ι0 h0 rr hf (pc + 3) k) : kx_Sn p l e R s m args below meth c s0 D cA nL ι0 h0 rr hf pc (kx_Si C n ps k) := by
  intro lv st h hF
  unfold kx_Si at hF
  obtain ⟨hfit, hr9, hF⟩ := kx_as_spec hF
  obtain ⟨q, hq, hret, hthr⟩ := kx_bi_spec hF
  intro ι H locs cells slots ls hP hA hl hs hv hS hC hU hI hE
  have hts := G.2.2.2.2.2.1
  have hlen : (st.take ps.length).reverse.length = ps.length := kx_fits_len hfit
  have hmap : st.map (kx_cv ι) = ((st.take ps.length).reverse.map (kx_cv ι)).reverse ++ (st.drop ps.length).map (kx_cv ι) := by
    rw [List.map_reverse, List.reverse_reverse, ← List.map_append, List.take_append_drop]
  rw [hmap]
  exact kx_core G hg hCS hR hout hcal (As := (st.take ps.length).reverse) (r9 := st.drop ps.length) (by rw [hpm]; exact hfit) hr9 hq hd hP hl (fun v hv9 => hs v (List.mem_of_mem_take (List.mem_reverse.mp hv9))) (fun v hv9 => hs v (List.mem_of_mem_drop hv9)) hv hS hC hU hI hE (fun T hT X => kx_enS X G.1 G.2.1 G.2.2.1 (hts _ h1) (hts _ h2) (hts _ hcal.2.1) (hts _ hcal.1) hcal.2.2.2.1 (argsL := (st.take ps.length).reverse.map (kx_cv ι)) (by rw [List.length_map, hlen]; exact hcal.2.2.2.2) hd) hk (fun v hv => by obtain ⟨x, rfl, z⟩ := hret v hv; exact z) (fun e' he => by have z := hthr e' he; cases z; exact ⟨rfl, rfl⟩)
theorem kx_s_SNi (G : kx_G p e R s m args meth c s0 D cA cc own nL h0) (hg : ∀ w ∈ kx_WS, kx_kp w) {C : kx_C} {d n : Nat} (hCS : kx_cs9 l s0 D cA C d) (hR : kx_need (d + 1) R) (hout : ∀ x ∈ c.exceptionTable.toList, covers x pc = false) {bytes : ByteArray} {maxL : Nat} {ret : Option FieldType} {ps : List Nat} (hcal : kx_cal n bytes maxL ret ps.length) (hpm : kx_pm n = ps) {host : String} (h1 : Cond.methodLinkNest own i (kx_mn n) host ∈ kx_WS) (h2 : Cond.static (kx_mn n) ∈ kx_WS) (hd : decode cc pc = .ok (.invokestatic i, 3)) (hk : kx_Sn p l e R s m args below meth c s0 D cA nL ι0 h0 rr hf (pc + 3) k) : kx_Sn p l e R s m args below meth c s0 D cA nL ι0 h0 rr hf pc (kx_Si C n ps k) := by
  intro lv st h hF
  unfold kx_Si at hF
  obtain ⟨hfit, hr9, hF⟩ := kx_as_spec hF
  obtain ⟨q, hq, hret, hthr⟩ := kx_bi_spec hF
  intro ι H locs cells slots ls hP hA hl hs hv hS hC hU hI hE
  have hts := G.2.2.2.2.2.1
  have hlen : (st.take ps.length).reverse.length = ps.length := kx_fits_len hfit
  have hmap : st.map (kx_cv ι) = ((st.take ps.length).reverse.map (kx_cv ι)).reverse ++ (st.drop ps.length).map (kx_cv ι) := by
    rw [List.map_reverse, List.reverse_reverse, ← List.map_append, List.take_append_drop]
  rw [hmap]
  exact kx_core G hg hCS hR hout hcal (As := (st.take ps.length).reverse) (r9 := st.drop ps.length) (by rw [hpm]; exact hfit) hr9 hq hd hP hl (fun v hv9 => hs v (List.mem_of_mem_take (List.mem_reverse.mp hv9))) (fun v hv9 => hs v (List.mem_of_mem_drop hv9)) hv hS hC hU hI hE (fun T hT X => kx_enSN X G.1 G.2.1 G.2.2.1 (hts _ h1) (hts _ h2) (hts _ hcal.2.1) (hts _ hcal.1) hcal.2.2.2.1 (argsL := (st.take ps.length).reverse.map (kx_cv ι)) (by rw [List.length_map, hlen]; exact hcal.2.2.2.2) hd) hk (fun v hv => by obtain ⟨x, rfl, z⟩ := hret v hv; exact z) (fun e' he => by have z := hthr e' he; cases z; exact ⟨rfl, rfl⟩)
theorem kx_s_Vl (G : kx_G p e R s m args meth c s0 D cA cc own nL h0) (hg : ∀ w ∈ kx_WS, kx_kp w) {C : kx_C} {d n : Nat} (hCS : kx_cs9 l s0 D cA C d) (hR : kx_need (d + 1) R) (hout : ∀ x ∈ c.exceptionTable.toList, covers x pc = false) {bytes : ByteArray} {maxL : Nat} {ret : Option FieldType} {ps : List Nat} (hcal : kx_cal n bytes maxL ret ps.length) (hpm : kx_pm n = (t + 2) :: ps) (h1 : Cond.methodLink own i (kx_mn n) ∈ kx_WS) (h2 : Cond.instanceMethod (kx_mn n) ∈ kx_WS) (h3 : Cond.selects r.1 (kx_mn n) (kx_mn n) ∈ kx_WS) (hc : kx_cl[t]? = some r) (h98 : t < 98) (hd : decode cc pc = .ok (.invokevirtual i, 3)) (hk : kx_Sn p l e R s m args below meth c s0 D cA nL ι0 h0 rr hf (pc + 3) k) : kx_Sn p l e R s m args below meth c s0 D cA nL ι0 h0 rr hf pc (kx_Vl C n t ps k) := by
  intro lv st h hF
  unfold kx_Vl at hF
  obtain ⟨a, r9, hst, hfit, hr9, hF⟩ := kx_ao_spec hF
  obtain ⟨q, hq, hret, hthr⟩ := kx_bl_spec hF
  intro ι H locs cells slots ls hP hA hl hs hv hS hC hU hI hE
  have hts := G.2.2.2.2.2.1
  have hs' := hs
  rw [hst] at hs'
  have hta : hp_T h a = some t := hs' (.inr (.inr (t, some a))) (List.mem_append_right _ List.mem_cons_self) a rfl
  have hlen : (st.take ps.length).reverse.length = ps.length := kx_fits_len hfit
  have hmap : st.map (kx_cv ι) = ((st.take ps.length).reverse.map (kx_cv ι)).reverse ++ .ref (ι a) :: r9.map (kx_cv ι) := by
    conv => lhs; rw [hst]
    rw [List.map_append, List.map_cons, List.map_reverse, List.reverse_reverse]
    rfl
  rw [hmap]
  refine kx_core G hg hCS hR hout hcal (As := .inr (.inr (t, some a)) :: (st.take ps.length).reverse) (r9 := r9) (by rw [hpm]; exact kx_fits2 hfit) hr9 hq hd hP hl (fun v hv9 => ?_) (fun v hv9 => hs' v (List.mem_append_right _ (List.mem_cons_of_mem _ hv9))) hv hS hC hU hI hE (fun T hT X => by
      obtain ⟨-, r', hr', cellB, b1, b2, b3, -⟩ := (hP.1 a t hta).2.2.1 h98
      cases hc.symm.trans hr'
      have hK := (G.2.2.2.2.2.2.1.2.1.1 t r hc).2
      exact kx_enV X G.1 G.2.1 (C := r.1) G.2.2.1 (hts _ h1) (hts _ h2) (hts _ h3) (hts _ hcal.1) hcal.2.2.2.1 (by rw [hT]; exact b1) (by rw [b3]; rfl) (by rw [b2]; exact hK.1) (argsL := (st.take ps.length).reverse.map (kx_cv ι)) (by rw [List.length_map, hlen]; exact hcal.2.2.2.2) hd) hk (fun v hv => by obtain ⟨x, rfl, z⟩ := hret v hv; exact z) (fun e' he => by have z := hthr e' he; cases z; exact ⟨rfl, rfl⟩)
  rcases List.mem_cons.mp hv9 with rfl | hv9
  · exact fun b hb => by cases hb; exact hta
  · exact hs v (List.mem_of_mem_take (List.mem_reverse.mp hv9))
theorem kx_s_VNl (G : kx_G p e R s m args meth c s0 D cA cc own nL h0) (hg : ∀ w ∈ kx_WS, kx_kp w) {C : kx_C} {d n : Nat} (hCS : kx_cs9 l s0 D cA C d) (hR : kx_need (d + 1) R) (hout : ∀ x ∈ c.exceptionTable.toList, covers x pc = false) {bytes : ByteArray} {maxL : Nat} {ret : Option FieldType} {ps : List Nat} (hcal : kx_cal n bytes maxL ret ps.length) (hpm : kx_pm n = (t + 2) :: ps) {host : String} (h1 : Cond.methodLinkNest own i (kx_mn n) host ∈ kx_WS) (h2 : Cond.instanceMethod (kx_mn n) ∈ kx_WS) (h3 : Cond.selects r.1 (kx_mn n) (kx_mn n) ∈ kx_WS) (hc : kx_cl[t]? = some r) (h98 : t < 98) (hd : decode cc pc = .ok (.invokevirtual i, 3)) (hk : kx_Sn p l e R s m args below meth c s0 D cA nL ι0 h0 rr hf (pc + 3) k) : kx_Sn p l e R s m args below meth c s0 D cA nL ι0 h0 rr hf pc (kx_Vl C n t ps k) := by
  intro lv st h hF
  unfold kx_Vl at hF
  obtain ⟨a, r9, hst, hfit, hr9, hF⟩ := kx_ao_spec hF
  obtain ⟨q, hq, hret, hthr⟩ := kx_bl_spec hF
  intro ι H locs cells slots ls hP hA hl hs hv hS hC hU hI hE
  have hts := G.2.2.2.2.2.1
  have hs' := hs
  rw [hst] at hs'
  have hta : hp_T h a = some t := hs' (.inr (.inr (t, some a))) (List.mem_append_right _ List.mem_cons_self) a rfl
  have hlen : (st.take ps.length).reverse.length = ps.length := kx_fits_len hfit
  have hmap : st.map (kx_cv ι) = ((st.take ps.length).reverse.map (kx_cv ι)).reverse ++ .ref (ι a) :: r9.map (kx_cv ι) := by
    conv => lhs; rw [hst]
    rw [List.map_append, List.map_cons, List.map_reverse, List.reverse_reverse]
    rfl
  rw [hmap]
  refine kx_core G hg hCS hR hout hcal (As := .inr (.inr (t, some a)) :: (st.take ps.length).reverse) (r9 := r9) (by rw [hpm]; exact kx_fits2 hfit) hr9 hq hd hP hl (fun v hv9 => ?_) (fun v hv9 => hs' v (List.mem_append_right _ (List.mem_cons_of_mem _ hv9))) hv hS hC hU hI hE (fun T hT X => by
      obtain ⟨-, r', hr', cellB, b1, b2, b3, -⟩ := (hP.1 a t hta).2.2.1 h98
      cases hc.symm.trans hr'
      have hK := (G.2.2.2.2.2.2.1.2.1.1 t r hc).2
      exact kx_enVN X G.1 G.2.1 (C := r.1) G.2.2.1 (hts _ h1) (hts _ h2) (hts _ h3) (hts _ hcal.1) hcal.2.2.2.1 (by rw [hT]; exact b1) (by rw [b3]; rfl) (by rw [b2]; exact hK.1) (argsL := (st.take ps.length).reverse.map (kx_cv ι)) (by rw [List.length_map, hlen]; exact hcal.2.2.2.2) hd) hk (fun v hv => by obtain ⟨x, rfl, z⟩ := hret v hv; exact z) (fun e' he => by have z := hthr e' he; cases z; exact ⟨rfl, rfl⟩)
  rcases List.mem_cons.mp hv9 with rfl | hv9
  · exact fun b hb => by cases hb; exact hta
  · exact hs v (List.mem_of_mem_take (List.mem_reverse.mp hv9))
theorem kx_s_Sl (G : kx_G p e R s m args meth c s0 D cA cc own nL h0) (hg : ∀ w ∈ kx_WS, kx_kp w) {C : kx_C} {d n : Nat} (hCS : kx_cs9 l s0 D cA C d) (hR : kx_need (d + 1) R) (hout : ∀ x ∈ c.exceptionTable.toList, covers x pc = false) {bytes : ByteArray} {maxL : Nat} {ret : Option FieldType} {ps : List Nat} (hcal : kx_cal n bytes maxL ret ps.length) (hpm : kx_pm n = ps) (h1 : Cond.methodLink own i (kx_mn n) ∈ kx_WS) (h2 : Cond.static (kx_mn n) ∈ kx_WS) (hd : decode cc pc = .ok (.invokestatic i, 3)) (hk : kx_Sn p l e R s m args below meth c s0 D cA nL ι0 h0 rr hf (pc + 3) k) : kx_Sn p l e R s m args below meth c s0 D cA nL ι0 h0 rr hf pc (kx_Sl C n ps k) := by
  intro lv st h hF
  unfold kx_Sl at hF
  obtain ⟨hfit, hr9, hF⟩ := kx_as_spec hF
  obtain ⟨q, hq, hret, hthr⟩ := kx_bl_spec hF
  intro ι H locs cells slots ls hP hA hl hs hv hS hC hU hI hE
  have hts := G.2.2.2.2.2.1
  have hlen : (st.take ps.length).reverse.length = ps.length := kx_fits_len hfit
  have hmap : st.map (kx_cv ι) = ((st.take ps.length).reverse.map (kx_cv ι)).reverse ++ (st.drop ps.length).map (kx_cv ι) := by
    rw [List.map_reverse, List.reverse_reverse, ← List.map_append, List.take_append_drop]
  rw [hmap]
  exact kx_core G hg hCS hR hout hcal (As := (st.take ps.length).reverse) (r9 := st.drop ps.length) (by rw [hpm]; exact hfit) hr9 hq hd hP hl (fun v hv9 => hs v (List.mem_of_mem_take (List.mem_reverse.mp hv9))) (fun v hv9 => hs v (List.mem_of_mem_drop hv9)) hv hS hC hU hI hE (fun T hT X => kx_enS X G.1 G.2.1 G.2.2.1 (hts _ h1) (hts _ h2) (hts _ hcal.2.1) (hts _ hcal.1) hcal.2.2.2.1 (argsL := (st.take ps.length).reverse.map (kx_cv ι)) (by rw [List.length_map, hlen]; exact hcal.2.2.2.2) hd) hk (fun v hv => by obtain ⟨x, rfl, z⟩ := hret v hv; exact z) (fun e' he => by have z := hthr e' he; cases z; exact ⟨rfl, rfl⟩)
theorem kx_s_SNl (G : kx_G p e R s m args meth c s0 D cA cc own nL h0) (hg : ∀ w ∈ kx_WS, kx_kp w) {C : kx_C} {d n : Nat} (hCS : kx_cs9 l s0 D cA C d) (hR : kx_need (d + 1) R) (hout : ∀ x ∈ c.exceptionTable.toList, covers x pc = false) {bytes : ByteArray} {maxL : Nat} {ret : Option FieldType} {ps : List Nat} (hcal : kx_cal n bytes maxL ret ps.length) (hpm : kx_pm n = ps) {host : String} (h1 : Cond.methodLinkNest own i (kx_mn n) host ∈ kx_WS) (h2 : Cond.static (kx_mn n) ∈ kx_WS) (hd : decode cc pc = .ok (.invokestatic i, 3)) (hk : kx_Sn p l e R s m args below meth c s0 D cA nL ι0 h0 rr hf (pc + 3) k) : kx_Sn p l e R s m args below meth c s0 D cA nL ι0 h0 rr hf pc (kx_Sl C n ps k) := by
  intro lv st h hF
  unfold kx_Sl at hF
  obtain ⟨hfit, hr9, hF⟩ := kx_as_spec hF
  obtain ⟨q, hq, hret, hthr⟩ := kx_bl_spec hF
  intro ι H locs cells slots ls hP hA hl hs hv hS hC hU hI hE
  have hts := G.2.2.2.2.2.1
  have hlen : (st.take ps.length).reverse.length = ps.length := kx_fits_len hfit
  have hmap : st.map (kx_cv ι) = ((st.take ps.length).reverse.map (kx_cv ι)).reverse ++ (st.drop ps.length).map (kx_cv ι) := by
    rw [List.map_reverse, List.reverse_reverse, ← List.map_append, List.take_append_drop]
  rw [hmap]
  exact kx_core G hg hCS hR hout hcal (As := (st.take ps.length).reverse) (r9 := st.drop ps.length) (by rw [hpm]; exact hfit) hr9 hq hd hP hl (fun v hv9 => hs v (List.mem_of_mem_take (List.mem_reverse.mp hv9))) (fun v hv9 => hs v (List.mem_of_mem_drop hv9)) hv hS hC hU hI hE (fun T hT X => kx_enSN X G.1 G.2.1 G.2.2.1 (hts _ h1) (hts _ h2) (hts _ hcal.2.1) (hts _ hcal.1) hcal.2.2.2.1 (argsL := (st.take ps.length).reverse.map (kx_cv ι)) (by rw [List.length_map, hlen]; exact hcal.2.2.2.2) hd) hk (fun v hv => by obtain ⟨x, rfl, z⟩ := hret v hv; exact z) (fun e' he => by have z := hthr e' he; cases z; exact ⟨rfl, rfl⟩)
theorem kx_s_Vr (G : kx_G p e R s m args meth c s0 D cA cc own nL h0) (hg : ∀ w ∈ kx_WS, kx_kp w) {C : kx_C} {d n : Nat} (hCS : kx_cs9 l s0 D cA C d) (hR : kx_need (d + 1) R) (hout : ∀ x ∈ c.exceptionTable.toList, covers x pc = false) {bytes : ByteArray} {maxL : Nat} {ret : Option FieldType} {ps : List Nat} (hcal : kx_cal n bytes maxL ret ps.length) (hpm : kx_pm n = (t + 2) :: ps) (h1 : Cond.methodLink own i (kx_mn n) ∈ kx_WS) (h2 : Cond.instanceMethod (kx_mn n) ∈ kx_WS) (h3 : Cond.selects r.1 (kx_mn n) (kx_mn n) ∈ kx_WS) (hc : kx_cl[t]? = some r) (h98 : t < 98) {c9 : Nat} (hd : decode cc pc = .ok (.invokevirtual i, 3)) (hk : kx_Sn p l e R s m args below meth c s0 D cA nL ι0 h0 rr hf (pc + 3) k) : kx_Sn p l e R s m args below meth c s0 D cA nL ι0 h0 rr hf pc (kx_Vr C n t ps c9 k) := by
  intro lv st h hF
  unfold kx_Vr at hF
  obtain ⟨a, r9, hst, hfit, hr9, hF⟩ := kx_ao_spec hF
  obtain ⟨q, hq, hret, hthr⟩ := kx_br_spec hF
  intro ι H locs cells slots ls hP hA hl hs hv hS hC hU hI hE
  have hts := G.2.2.2.2.2.1
  have hs' := hs
  rw [hst] at hs'
  have hta : hp_T h a = some t := hs' (.inr (.inr (t, some a))) (List.mem_append_right _ List.mem_cons_self) a rfl
  have hlen : (st.take ps.length).reverse.length = ps.length := kx_fits_len hfit
  have hmap : st.map (kx_cv ι) = ((st.take ps.length).reverse.map (kx_cv ι)).reverse ++ .ref (ι a) :: r9.map (kx_cv ι) := by
    conv => lhs; rw [hst]
    rw [List.map_append, List.map_cons, List.map_reverse, List.reverse_reverse]
    rfl
  rw [hmap]
  refine kx_core G hg hCS hR hout hcal (As := .inr (.inr (t, some a)) :: (st.take ps.length).reverse) (r9 := r9) (by rw [hpm]; exact kx_fits2 hfit) hr9 hq hd hP hl (fun v hv9 => ?_) (fun v hv9 => hs' v (List.mem_append_right _ (List.mem_cons_of_mem _ hv9))) hv hS hC hU hI hE (fun T hT X => by
      obtain ⟨-, r', hr', cellB, b1, b2, b3, -⟩ := (hP.1 a t hta).2.2.1 h98
      cases hc.symm.trans hr'
      have hK := (G.2.2.2.2.2.2.1.2.1.1 t r hc).2
      exact kx_enV X G.1 G.2.1 (C := r.1) G.2.2.1 (hts _ h1) (hts _ h2) (hts _ h3) (hts _ hcal.1) hcal.2.2.2.1 (by rw [hT]; exact b1) (by rw [b3]; rfl) (by rw [b2]; exact hK.1) (argsL := (st.take ps.length).reverse.map (kx_cv ι)) (by rw [List.length_map, hlen]; exact hcal.2.2.2.2) hd) hk (fun v hv => by obtain ⟨x, rfl, z⟩ := hret v hv; exact z) (fun e' he => by have z := hthr e' he; cases z; exact ⟨rfl, rfl⟩)
  rcases List.mem_cons.mp hv9 with rfl | hv9
  · exact fun b hb => by cases hb; exact hta
  · exact hs v (List.mem_of_mem_take (List.mem_reverse.mp hv9))
theorem kx_s_VNr (G : kx_G p e R s m args meth c s0 D cA cc own nL h0) (hg : ∀ w ∈ kx_WS, kx_kp w) {C : kx_C} {d n : Nat} (hCS : kx_cs9 l s0 D cA C d) (hR : kx_need (d + 1) R) (hout : ∀ x ∈ c.exceptionTable.toList, covers x pc = false) {bytes : ByteArray} {maxL : Nat} {ret : Option FieldType} {ps : List Nat} (hcal : kx_cal n bytes maxL ret ps.length) (hpm : kx_pm n = (t + 2) :: ps) {host : String} (h1 : Cond.methodLinkNest own i (kx_mn n) host ∈ kx_WS) (h2 : Cond.instanceMethod (kx_mn n) ∈ kx_WS) (h3 : Cond.selects r.1 (kx_mn n) (kx_mn n) ∈ kx_WS) (hc : kx_cl[t]? = some r) (h98 : t < 98) {c9 : Nat} (hd : decode cc pc = .ok (.invokevirtual i, 3)) (hk : kx_Sn p l e R s m args below meth c s0 D cA nL ι0 h0 rr hf (pc + 3) k) : kx_Sn p l e R s m args below meth c s0 D cA nL ι0 h0 rr hf pc (kx_Vr C n t ps c9 k) := by
  intro lv st h hF
  unfold kx_Vr at hF
  obtain ⟨a, r9, hst, hfit, hr9, hF⟩ := kx_ao_spec hF
  obtain ⟨q, hq, hret, hthr⟩ := kx_br_spec hF
  intro ι H locs cells slots ls hP hA hl hs hv hS hC hU hI hE
  have hts := G.2.2.2.2.2.1
  have hs' := hs
  rw [hst] at hs'
  have hta : hp_T h a = some t := hs' (.inr (.inr (t, some a))) (List.mem_append_right _ List.mem_cons_self) a rfl
  have hlen : (st.take ps.length).reverse.length = ps.length := kx_fits_len hfit
  have hmap : st.map (kx_cv ι) = ((st.take ps.length).reverse.map (kx_cv ι)).reverse ++ .ref (ι a) :: r9.map (kx_cv ι) := by
    conv => lhs; rw [hst]
    rw [List.map_append, List.map_cons, List.map_reverse, List.reverse_reverse]
    rfl
  rw [hmap]
  refine kx_core G hg hCS hR hout hcal (As := .inr (.inr (t, some a)) :: (st.take ps.length).reverse) (r9 := r9) (by rw [hpm]; exact kx_fits2 hfit) hr9 hq hd hP hl (fun v hv9 => ?_) (fun v hv9 => hs' v (List.mem_append_right _ (List.mem_cons_of_mem _ hv9))) hv hS hC hU hI hE (fun T hT X => by
      obtain ⟨-, r', hr', cellB, b1, b2, b3, -⟩ := (hP.1 a t hta).2.2.1 h98
      cases hc.symm.trans hr'
      have hK := (G.2.2.2.2.2.2.1.2.1.1 t r hc).2
      exact kx_enVN X G.1 G.2.1 (C := r.1) G.2.2.1 (hts _ h1) (hts _ h2) (hts _ h3) (hts _ hcal.1) hcal.2.2.2.1 (by rw [hT]; exact b1) (by rw [b3]; rfl) (by rw [b2]; exact hK.1) (argsL := (st.take ps.length).reverse.map (kx_cv ι)) (by rw [List.length_map, hlen]; exact hcal.2.2.2.2) hd) hk (fun v hv => by obtain ⟨x, rfl, z⟩ := hret v hv; exact z) (fun e' he => by have z := hthr e' he; cases z; exact ⟨rfl, rfl⟩)
  rcases List.mem_cons.mp hv9 with rfl | hv9
  · exact fun b hb => by cases hb; exact hta
  · exact hs v (List.mem_of_mem_take (List.mem_reverse.mp hv9))
theorem kx_s_Sr (G : kx_G p e R s m args meth c s0 D cA cc own nL h0) (hg : ∀ w ∈ kx_WS, kx_kp w) {C : kx_C} {d n : Nat} (hCS : kx_cs9 l s0 D cA C d) (hR : kx_need (d + 1) R) (hout : ∀ x ∈ c.exceptionTable.toList, covers x pc = false) {bytes : ByteArray} {maxL : Nat} {ret : Option FieldType} {ps : List Nat} (hcal : kx_cal n bytes maxL ret ps.length) (hpm : kx_pm n = ps) (h1 : Cond.methodLink own i (kx_mn n) ∈ kx_WS) (h2 : Cond.static (kx_mn n) ∈ kx_WS) {c9 : Nat} (hd : decode cc pc = .ok (.invokestatic i, 3)) (hk : kx_Sn p l e R s m args below meth c s0 D cA nL ι0 h0 rr hf (pc + 3) k) : kx_Sn p l e R s m args below meth c s0 D cA nL ι0 h0 rr hf pc (kx_Sr C n ps c9 k) := by
  intro lv st h hF
  unfold kx_Sr at hF
  obtain ⟨hfit, hr9, hF⟩ := kx_as_spec hF
  obtain ⟨q, hq, hret, hthr⟩ := kx_br_spec hF
  intro ι H locs cells slots ls hP hA hl hs hv hS hC hU hI hE
  have hts := G.2.2.2.2.2.1
  have hlen : (st.take ps.length).reverse.length = ps.length := kx_fits_len hfit
  have hmap : st.map (kx_cv ι) = ((st.take ps.length).reverse.map (kx_cv ι)).reverse ++ (st.drop ps.length).map (kx_cv ι) := by
    rw [List.map_reverse, List.reverse_reverse, ← List.map_append, List.take_append_drop]
  rw [hmap]
  exact kx_core G hg hCS hR hout hcal (As := (st.take ps.length).reverse) (r9 := st.drop ps.length) (by rw [hpm]; exact hfit) hr9 hq hd hP hl (fun v hv9 => hs v (List.mem_of_mem_take (List.mem_reverse.mp hv9))) (fun v hv9 => hs v (List.mem_of_mem_drop hv9)) hv hS hC hU hI hE (fun T hT X => kx_enS X G.1 G.2.1 G.2.2.1 (hts _ h1) (hts _ h2) (hts _ hcal.2.1) (hts _ hcal.1) hcal.2.2.2.1 (argsL := (st.take ps.length).reverse.map (kx_cv ι)) (by rw [List.length_map, hlen]; exact hcal.2.2.2.2) hd) hk (fun v hv => by obtain ⟨x, rfl, z⟩ := hret v hv; exact z) (fun e' he => by have z := hthr e' he; cases z; exact ⟨rfl, rfl⟩)
theorem kx_s_SNr (G : kx_G p e R s m args meth c s0 D cA cc own nL h0) (hg : ∀ w ∈ kx_WS, kx_kp w) {C : kx_C} {d n : Nat} (hCS : kx_cs9 l s0 D cA C d) (hR : kx_need (d + 1) R) (hout : ∀ x ∈ c.exceptionTable.toList, covers x pc = false) {bytes : ByteArray} {maxL : Nat} {ret : Option FieldType} {ps : List Nat} (hcal : kx_cal n bytes maxL ret ps.length) (hpm : kx_pm n = ps) {host : String} (h1 : Cond.methodLinkNest own i (kx_mn n) host ∈ kx_WS) (h2 : Cond.static (kx_mn n) ∈ kx_WS) {c9 : Nat} (hd : decode cc pc = .ok (.invokestatic i, 3)) (hk : kx_Sn p l e R s m args below meth c s0 D cA nL ι0 h0 rr hf (pc + 3) k) : kx_Sn p l e R s m args below meth c s0 D cA nL ι0 h0 rr hf pc (kx_Sr C n ps c9 k) := by
  intro lv st h hF
  unfold kx_Sr at hF
  obtain ⟨hfit, hr9, hF⟩ := kx_as_spec hF
  obtain ⟨q, hq, hret, hthr⟩ := kx_br_spec hF
  intro ι H locs cells slots ls hP hA hl hs hv hS hC hU hI hE
  have hts := G.2.2.2.2.2.1
  have hlen : (st.take ps.length).reverse.length = ps.length := kx_fits_len hfit
  have hmap : st.map (kx_cv ι) = ((st.take ps.length).reverse.map (kx_cv ι)).reverse ++ (st.drop ps.length).map (kx_cv ι) := by
    rw [List.map_reverse, List.reverse_reverse, ← List.map_append, List.take_append_drop]
  rw [hmap]
  exact kx_core G hg hCS hR hout hcal (As := (st.take ps.length).reverse) (r9 := st.drop ps.length) (by rw [hpm]; exact hfit) hr9 hq hd hP hl (fun v hv9 => hs v (List.mem_of_mem_take (List.mem_reverse.mp hv9))) (fun v hv9 => hs v (List.mem_of_mem_drop hv9)) hv hS hC hU hI hE (fun T hT X => kx_enSN X G.1 G.2.1 G.2.2.1 (hts _ h1) (hts _ h2) (hts _ hcal.2.1) (hts _ hcal.1) hcal.2.2.2.1 (argsL := (st.take ps.length).reverse.map (kx_cv ι)) (by rw [List.length_map, hlen]; exact hcal.2.2.2.2) hd) hk (fun v hv => by obtain ⟨x, rfl, z⟩ := hret v hv; exact z) (fun e' he => by have z := hthr e' he; cases z; exact ⟨rfl, rfl⟩)
end KC
