/-- a handler whose class hasn't been looked up yet -/
theorem kx_go_cold {e : Env} {S : State} {f : JFrame} {a : Addr} {x : ExceptionTableEntry} {t : List ExceptionTableEntry} {cX : ClassId} {vm' : Vm} (hx : covers x f.pc = true) (h0 : x.catchType ≠ 0) (hg : (Jvm.resolveClass f.method.cls x.catchType).Gives e.toSetting S.vm (.ok cX) vm') (hr : vm'.classReady f.method.cls x.catchType cX) (hsz : vm'.classes.size ≤ S.vm.classes.size) {Q : Handler → Pre} {E : CtlPost} {d : Bool} {acts : List Action} :
    wp (findHandler.go f a (x :: t)) Q E e d acts S ↔ wp (findHandler.go f a (x :: t)) Q E e d acts (S.setVm vm') := by
  obtain ⟨ha, ht⟩ := hg.op (op := VmOp.resolveClass f.method.cls x.catchType) rfl
  obtain ⟨k, hkd, hres⟩ := hr
  simp only [covers] at hx
  simp [findHandler.go, hx, h0, ha, ht, hsz, resolveClass_memo e hkd hres, VmOp.dirties, VmOp.acts]
  exact Iff.rfl
theorem kx_caught {tb : Tables} {e : Env} {T target : State} {g : JFrame} {c : Code} {below : List Frame} {a : Addr} (h : At T g.method c below) {pc : Nat} {vm' : Vm} (hfind : ∀ (Q : Handler → Pre) (E : CtlPost) (d : Bool) (acts : List Action), wp (findHandler g a) Q E e d acts ((T.setTop g).pushFrame (.throwing a)) ↔ Q (.found pc) d acts (((T.setTop g).pushFrame (.throwing a)).setVm vm'))
    (hrest : Steps tb e below ((T.setVm vm').setTop { g with pc := pc, stack := [.ref a] }) target) : Steps tb e below ((T.setTop g).pushFrame (.throwing a)) target := by
  obtain ⟨hgo, hw⟩ := h.throwing a
  refine Steps.head hgo hw ?_
  have key : (stepThrowing e ((T.setTop g).pushFrame (.throwing a)) a (.java g :: T.frames.tail)).Is ((((T.setTop g).pushFrame (.throwing a)).setVm vm').setFrames (.java { g with pc := pc, stack := [.ref a] } :: T.frames.tail)) [] := by
    simp only [stepThrowing, searchFrame, vmDo]
    generalize hr : Sem.go _ e false [] ((T.setTop g).pushFrame (.throwing a)) = res
    obtain ⟨as, rfl, ha⟩ := Sem.eq_ok_of hr (a := Handler.found pc) (s' := ((T.setTop g).pushFrame (.throwing a)).setVm vm') (acts' := []) (by simp [hfind _ _ _ _])
    exact ⟨rfl, ha⟩
  obtain ⟨g₀, hg⟩ := Option.isSome_iff_exists.mp h.top
  obtain ⟨r, hr⟩ := State.topJava?_eq_some.mp hg
  have hfr := frames_entered (g := g) h.top (Frame.throwing a)
  rw [stepThread_throwing hfr, key.1]
  have e1 : (((T.setTop g).pushFrame (.throwing a)).setVm vm').setFrames (.java { g with pc := pc, stack := [.ref a] } :: T.frames.tail) = (T.setVm vm').setTop { g with pc := pc, stack := [.ref a] } := by
    have hr' : (T.setVm vm').frames = .java g₀ :: r := hr
    rw [State.setTop_of_frames _ hr', State.pushFrame, State.setTop_of_frames _ hr, State.setFrames_setFrames, hr]
    show ((T.setFrames _).setVm vm').setFrames _ = (T.setVm vm').setFrames _
    have e2 : ∀ fs, (T.setFrames fs).setVm vm' = (T.setVm vm').setFrames fs := fun fs => rfl
    rw [e2, State.setFrames_setFrames]
    rfl
  rw [e1]
  exact hrest
/-- the exceptions' classes: none is another -/
def kx_NC (s0 : State) : Prop := ∀ a b, a < 4 → b < 4 → a ≠ b → va_Nc (kx_en a) (kx_en b) s0
/-- a handler: its range, its place, its class's place, the exception's number, what it answers -/
abbrev kx_HE : Type := Nat × Nat × Nat × Nat × Nat × Int32
def kx_h4 (q : kx_HE) : Nat × Nat × Nat × Nat := (q.1, q.2.1, q.2.2.1, q.2.2.2.1)
theorem kx_search {s : State} {e : Env} {own : String} {args : Array Value} (hpl : e.platform.magicAccessors = ({} : Platform).magicAccessors) {f : JFrame} {a : Addr} {cell : Cell} {e' : Nat} (he' : e' < 4) (hown : s.vm.findClass own = some f.method.cls) (hNC : kx_NC s) (hcas : (Cond.castable (kx_en e') (kx_en e')).before args s = true)
    (hcl : s.vm.findClass (kx_en e') = some cell.cls) (hns : cell.vm.isStatics = false) :
    ∀ (HS : List kx_HE) (es : List ExceptionTableEntry), es.map (fun h => (h.startPc, h.endPc, h.handlerPc, h.catchType)) = HS.map kx_h4 → (∀ q ∈ HS, q.1 ≤ f.pc ∧ f.pc < q.2.1 ∧ q.2.2.2.1 ≠ 0 ∧ q.2.2.2.2.1 < 4 ∧ (Cond.classLink own q.2.2.2.1 (kx_en q.2.2.2.2.1)).before args s = true) →
      ∀ q, HS.find? (fun q => Nat.beq q.2.2.2.2.1 e') = some q → ∀ S : State, s.WarmedH S.vm → S.heap[a]? = some cell →
      ∃ vm', s.WarmedH vm' ∧ ∀ (Q : Handler → Pre) (E : CtlPost) (d : Bool) (acts : List Action), wp (findHandler.go f a es) Q E e d acts S ↔ Q (.found q.2.2.1) d acts (S.setVm vm') := by
  intro HS
  induction HS with
  | nil => intro es _ _ q hq; cases hq
  | cons p HS ih =>
    intro es hes hall q hq S hW hcell
    cases es with
    | nil => cases hes
    | cons x es =>
      rw [List.map_cons, List.map_cons] at hes
      obtain ⟨hx, hes⟩ := List.cons.inj hes
      obtain ⟨h1, h2, h3, h4, h5⟩ := hall p List.mem_cons_self
      have x1 : x.startPc = p.1 := congrArg (fun z => z.1) hx
      have x2 : x.endPc = p.2.1 := congrArg (fun z => z.2.1) hx
      have x3 : x.handlerPc = p.2.2.1 := congrArg (fun z => z.2.2.1) hx
      have x4 : x.catchType = p.2.2.2.1 := congrArg (fun z => z.2.2.2) hx
      have hcov : covers x f.pc = true := by simp [covers, x1, x2, h1, h2]
      have hct : x.catchType ≠ 0 := by rw [x4]; exact h3
      obtain ⟨cX, hfX, hlX⟩ := Cond.classLink_spec hown h5 e.platform hpl
      obtain ⟨hg₁, hwarm₁, hready₁⟩ := State.classEntry (e := e) hW hlX
      have hsz : (S.vm.noted f.method.cls p.2.2.2.1 (.cls cX)).classes.size ≤ S.vm.classes.size := by simp
      rw [← x4] at hg₁ hready₁ hwarm₁ hsz
      generalize S.vm.noted f.method.cls x.catchType (.cls cX) = vm₁ at hg₁ hwarm₁ hready₁ hsz
      have hkc : ∃ k, (S.setVm vm₁).vm.classes[cell.cls]? = some k := Vm.classAt_of_findClass (name := kx_en e') (by show vm₁.findClass _ = _; rw [hwarm₁.alike.findClass]; exact hcl)
      have hkX : ∃ k, (S.setVm vm₁).vm.classes[cX]? = some k := Vm.classAt_of_findClass (name := kx_en p.2.2.2.2.1) (by show vm₁.findClass _ = _; rw [hwarm₁.alike.findClass]; exact hfX)
      have hstep : ∀ (Q : Handler → Pre) (E : CtlPost) (d : Bool) (acts : List Action), wp (findHandler.go f a (x :: es)) Q E e d acts S ↔ if vm₁.assignable cell.cls cX = true then Q (.found x.handlerPc) d acts (S.setVm vm₁) else wp (findHandler.go f a es) Q E e d acts (S.setVm vm₁) := by
        intro Q E d acts
        rw [kx_go_cold hcov hct hg₁ hready₁ hsz]
        exact W.findHandler_go_class (s := S.setVm vm₁) hcov hct hready₁ hcell (VmData.ne_statics_of hns) hkc hkX
      cases hb : Nat.beq p.2.2.2.2.1 e' with
      | true =>
        have ep : p.2.2.2.2.1 = e' := Nat.eq_of_beq_eq_true hb
        rw [List.find?_cons_of_pos (by exact hb)] at hq
        have eq : p = q := Option.some.inj hq
        subst eq
        obtain ⟨c1, t1, g1, g2, g3⟩ := Cond.castable_spec hcas
        cases hcl.symm.trans g1
        cases g1.symm.trans g2
        rw [ep] at hfX
        cases g1.symm.trans hfX
        refine ⟨vm₁, hwarm₁, fun Q E d acts => ?_⟩
        rw [hstep, if_pos (by rw [hwarm₁.alike.assignable]; exact g3), x3]
      | false =>
        rw [List.find?_cons_of_neg (by rw [hb]; exact fun z => by cases z)] at hq
        have hne : e' ≠ p.2.2.2.2.1 := fun z => by rw [← z, Nat.beq_refl] at hb; cases hb
        obtain ⟨c1, t1, g1, g2, g3⟩ := hNC e' p.2.2.2.2.1 he' h4 hne
        cases hcl.symm.trans g1
        cases hfX.symm.trans g2
        obtain ⟨vm', w1, w2⟩ := ih es hes (fun q9 h9 => hall q9 (List.mem_cons_of_mem _ h9)) q hq (S.setVm vm₁) hwarm₁ hcell
        refine ⟨vm', w1, fun Q E d acts => ?_⟩
        rw [hstep, if_neg (by rw [hwarm₁.alike.assignable, g3]; exact fun z => by cases z), w2]
        rfl
