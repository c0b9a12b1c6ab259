def kx_lk (HS : List kx_HE) (e : Nat) : Option Int32 := (HS.find? (fun q => Nat.beq q.2.2.2.2.1 e)).map (fun q => q.2.2.2.2.2)
/-- behind a call whose exceptions are caught: the handler answers a number -/
def kx_bvc (HS : List kx_HE) (o : kx_O) (k : kx_H → kx_O) : kx_O := o.bind fun q => match q.1 with
  | .inl none => k q.2
  | .inr e => (kx_lk HS e).bind fun c => some (.inl (some (.inl c)), q.2)
  | _ => none
def kx_bic (HS : List kx_HE) (o : kx_O) (k : Int32 → kx_H → kx_O) : kx_O := o.bind fun q => match q.1 with
  | .inl (some (.inl x)) => k x q.2
  | .inr e => (kx_lk HS e).bind fun c => some (.inl (some (.inl c)), q.2)
  | _ => none
def kx_blc (HS : List kx_HE) (o : kx_O) (k : Int64 → kx_H → kx_O) : kx_O := o.bind fun q => match q.1 with
  | .inl (some (.inr (.inl x))) => k x q.2
  | .inr e => (kx_lk HS e).bind fun c => some (.inl (some (.inl c)), q.2)
  | _ => none
def kx_Vvc (C : kx_C) (n t : Nat) (ps : List Nat) (HS : List kx_HE) (k : kx_F) : kx_F := fun l st h => kx_ao t ps st fun as r => kx_bvc HS (C n as h) fun h' => k l r h'
def kx_Vic (C : kx_C) (n t : Nat) (ps : List Nat) (HS : List kx_HE) (k : kx_F) : kx_F := fun l st h => kx_ao t ps st fun as r => kx_bic HS (C n as h) fun x h' => k l (.inl x :: r) h'
def kx_Vlc (C : kx_C) (n t : Nat) (ps : List Nat) (HS : List kx_HE) (k : kx_F) : kx_F := fun l st h => kx_ao t ps st fun as r => kx_blc HS (C n as h) fun x h' => k l (.inr (.inl x) :: r) h'
/-- a handler: the exception is laid away, a number comes back -/
def kx_hd (cc : ByteArray) (nL hp : Nat) (c : Int32) : Prop := ∃ w : Nat, ((∃ j : Fin 4, w = 1 ∧ decode cc hp = .ok (.astore_n j, 1) ∧ (j : Nat) < nL) ∨ (∃ j : Nat, w = 2 ∧ decode cc hp = .ok (.astore j, 2) ∧ j < nL)) ∧ ∃ i : Int, decode cc (hp + w) = .ok (.iconst i, 1) ∧ Int32.ofInt i = c ∧ decode cc (hp + w + 1) = .ok (.ireturn, 1)
def kx_hs (own : String) (cc : ByteArray) (nL pc : Nat) (HS : List kx_HE) : Prop := ∀ q ∈ HS, q.1 ≤ pc ∧ pc < q.2.1 ∧ q.2.2.2.1 ≠ 0 ∧ q.2.2.2.2.1 < 4 ∧ Cond.classLink own q.2.2.2.1 (kx_en q.2.2.2.2.1) ∈ kx_WS ∧ Cond.castable (kx_en q.2.2.2.2.1) (kx_en q.2.2.2.2.1) ∈ kx_WS ∧ kx_hd cc nL q.2.2.1 q.2.2.2.2.2
section KV
variable {p : Program} {l : Launch} {e : Env} {R : Room} {s : State} {m : MethodId} {args : Array Value} {below : List Frame} {meth : Method} {c : Code} {H : Heap} {locs : List Loc} {cells slots : Nat} {Q : State → Prop}
variable {s0 : State} {D : va_G} {cA : Nat → ClassId} {cc : ByteArray} {own : String} {nL : Nat} {ι ι0 : Nat → Nat} {h h0 hf : kx_H} {rr : kx_R} {pc : Nat} {k : kx_F} {ls : Array Slot} {rest : List Value} {a t i : Nat} {r : vw_C}
theorem kx_hw (G : kx_G p e R s m args meth c s0 D cA cc own nL h0) {hp x : Nat} {v : Int32} (hh : kx_hd cc nL hp v) (hr : meth.sig.returnType = some .int) (hl : lv_has ls nL []) (hP : kx_P s0 D cA ι hf H) (hS : va_S (kx_A s0 s) s.heap H locs) (hC : hp_C h0 + cells = hp_C hf) (hU : hp_U h0 + slots = hp_U hf) (hI : ∀ a, a < hp_X h0 → ι a = ι0 a) (hE : kx_le h0 hf) :
    W p l e R s m args below meth c H locs cells slots (kx_Q s0 D cA below s ι0 h0 (.inl (some (.inl v))) hf) (F0 m hp ls [.ref x]) := by
  obtain ⟨w, h1, i9, h2, h3, h4⟩ := hh
  have hlocks : meth.locks = false := G.2.2.2.2.1
  have fin : ∀ ls' : Array Slot, W p l e R s m args below meth c H locs cells slots (kx_Q s0 D cA below s ι0 h0 (.inl (some (.inl v))) hf) (F0 m (hp + w) ls' []) := fun ls' =>
    lv_iconst G.1 G.2.1 h2 h3 (kx_mono (kx_fin (v := some (.inl v)) G.2.2.2.2.2.2.1.2.2.2.1 hP hS hC hU hI hE (fun y hy => by cases hy; trivial)) (W.iret G.1 G.2.1 hr (fun t ht _ => ⟨rfl, ht⟩) hS.2.2 h4 hlocks))
  rcases h1 with ⟨j, rfl, h5, h6⟩ | ⟨j, rfl, h5, h6⟩
  · exact lv_astore_n G.1 G.2.1 h5 rfl hl h6 rfl (fun ls' _ => fin ls')
  · exact lv_astore G.1 G.2.1 h5 hl h6 rfl (fun ls' _ => fin ls')
theorem kx_wcallC (G : kx_G p e R s m args meth c s0 D cA cc own nL h0) (hg : ∀ w ∈ kx_WS, kx_kp w) {y : MethodName} {bytes : ByteArray} {maxL : Nat} {ret : Option FieldType} (hcode : Cond.code y bytes maxL ret ∈ kx_WS) (hini : Cond.initialized y.cls ∈ kx_WS) (hmax : maxL ≤ 13) {d : Nat} {As : List kx_V} {r' : kx_R} {h' : kx_H}
    (hM : ∀ rm, kx_need d rm → kx_cc ≤ rm.cells + hp_C h → kx_cs ≤ rm.slots + hp_U h → kx_Mt l s0 D cA y rm ι As h r' h') (hR : kx_need (d + 1) R)
    (hcell : cells ≤ R.cells) (hslot : slots ≤ R.slots)
    (hP : kx_P s0 D cA ι h H) (hS : va_S (kx_A s0 s) s.heap H locs) (hC : hp_C h0 + cells = hp_C h) (hU : hp_U h0 + slots = hp_U h) (hI : ∀ a, a < hp_X h0 → ι a = ι0 a) (hE : kx_le h0 h) (hAs : ∀ v ∈ As, kx_ok h v)
    (hw8 : (rest.map fun v => v.category).sum ≤ 8) (hls : ls.size = nL) {st0 : List Value} {ig : Instr} (hdg : decode cc pc = .ok (ig, 3))
    (enter : ∀ T : State, T.heap = H → Stand p l e R s m args below meth c T locs cells slots → ∃ (vm₁ : Vm) (mk : MethodId), s.WarmedH vm₁ ∧ Stand p l e R s m args below meth c (T.setVm vm₁) locs cells slots ∧ (T.setVm vm₁).methodNamed? y = some mk ∧
      ∀ target, (∀ acts, Steps p.tables e below (doInvoke e ((T.setVm vm₁).setTop (F0 m pc ls rest)) acts mk (As.map (kx_cv ι)).toArray).1 target) → Steps p.tables e below (T.setTop (F0 m pc ls st0)) target)
    (kret : ∀ (v : Option kx_V) (ι' : Nat → Nat) (H' : Heap) (locs' : List Loc) (cells' slots' : Nat), r' = .inl v → kx_P s0 D cA ι' h' H' → (∀ a t, hp_T h' a = some t → t ≠ 98 → kx_A s0 s (ι' a)) → va_S (kx_A s0 s) s.heap H' locs' → hp_C h0 + cells' = hp_C h' → hp_U h0 + slots' = hp_U h' → (∀ a t, hp_T h a = some t → ι' a = ι a) → (∀ a, a < hp_X h0 → ι' a = ι0 a) → kx_le h h' → kx_le h0 h' → (∀ x, v = some x → kx_ok h' x) →
      W p l e R s m args below meth c H' locs' cells' slots' (kx_Q s0 D cA below s ι0 h0 rr hf) (F0 m (pc + 3) ls ((v.map (kx_cv ι')).toList ++ rest)))
    {HS : List kx_HE} (kthr : ∀ e', r' = .inr e' → ∃ q, HS.find? (fun q => Nat.beq q.2.2.2.2.1 e') = some q ∧ rr = .inl (some (.inl q.2.2.2.2.2)) ∧ hf = h') (hex : c.exceptionTable.toList.map (fun h => (h.startPc, h.endPc, h.handlerPc, h.catchType)) = HS.map kx_h4) (hHS : kx_hs own cc nL pc HS) (hNC : kx_NC s0) (hrt : meth.sig.returnType = some .int) (hl0 : lv_has ls nL []) :
    W p l e R s m args below meth c H locs cells slots (kx_Q s0 D cA below s ι0 h0 rr hf) (F0 m pc ls st0) := by
  intro T hT X
  obtain ⟨vm₁, mk, hW₁, X₁, hn, hgo⟩ := enter T hT X
  obtain ⟨hx, hb, hown, hml, hlocks, hts, hB, hcc, hcs⟩ := id G
  have hU1 : (T.setVm vm₁).heap = H := hT
  generalize hUe : T.setVm vm₁ = U at hn X₁ hgo hU1
  have hWU : s.WarmedH U.vm := by rw [← hUe]; exact hW₁
  have hSU : va_S (kx_A s0 s) s.heap U.heap locs := by rw [hU1]; exact hS
  have hBU := kx_BU hB hWU hSU
  have hM1 := hM { frames := R.frames - 1, cells := R.cells - cells, slots := R.slots - slots, locals := R.locals - (19 + maxL) } ⟨by have := hR.1; show d + 1 ≤ R.frames - 1; omega, by have := hR.2; show 32 * d + 100 ≤ R.locals - (19 + maxL); omega⟩ (by show kx_cc ≤ R.cells - cells + hp_C h; omega) (by show kx_cs ≤ R.slots - slots + hp_U h; omega)
  generalize hrm : ({ frames := R.frames - 1, cells := R.cells - cells, slots := R.slots - slots, locals := R.locals - (19 + maxL) } : Room) = rm at hM1
  have hpre : ∀ w ∈ kx_WS, w.before (As.map (kx_cv ι)).toArray U = true := fun w hw => hg w hw args _ s U hWU (hts w hw)
  have hat : At U (F0 m pc ls rest).method c below := X₁.here
  obtain ⟨methY, cY, hmY, hcY, -, hlY, -, -, -, -⟩ := Cond.code_spec hn (hpre _ hcode)
  obtain ⟨kY, hkY, -⟩ := className_of_methodNamed hn
  have hinitY : kY.init = .initialized := Cond.initialized_spec (findClass_of_methodNamed hn) hkY (hpre _ hini)
  have hdg' : decode c.code (F0 m pc ls rest).pc = .ok (ig, 3) := by rw [hb]; exact hdg
  have happ : (headSpec kx_WS rm).appliesLoose y e.platform (U.calling (F0 m pc ls rest) mk (As.map (kx_cv ι)).toArray) = true :=
    Spec.appliesLoose_calling (g := F0 m pc ls rest) hat hdg' hn hkY hinitY
      (X₁.room_calling (g := F0 m pc ls rest) (R' := rm) (by show ls.size = _; rw [hls, hml]) hmY hcY (by rw [← hrm]; have := hR.1; show R.frames - 1 + 1 ≤ R.frames; omega) (by rw [hlY, ← hrm]; have := hR.2; show 2 * 0 + (rest.map fun v => v.category).sum + (maxL + 11) + (R.locals - (19 + maxL)) ≤ R.locals; omega) (by rw [← hrm]; show cells + (R.cells - cells) ≤ R.cells; omega) (by rw [← hrm]; show slots + (R.slots - slots) ≤ R.slots; omega)) (atoms_intro hpre)
  obtain ⟨mid, hmid⟩ := hat.above
  have hfr : (U.setTop (F0 m pc ls rest)).frames = (.java (F0 m pc ls rest) :: mid) ++ below := by rw [State.frames_setTop' _ hat.top, hmid]; rfl
  have hPc : (U.calling (F0 m pc ls rest) mk (As.map (kx_cv ι)).toArray).heap = H := hU1
  obtain ⟨o, s₂, hsteps, -, hend, hq⟩ := Steps.callFree hM1 p X₁.admits X₁.cas X₁.clock (acts := []) hfr happ ⟨rfl, ⟨hBU.1, va_K.moved (Vm.Alike.refl U.vm) hBU.2.1, hBU.2.2.1, hBU.2.2.2.1, hBU.2.2.2.2⟩, (by show kx_P s0 D cA ι h U.heap; rw [hU1]; exact hP), hAs⟩ trivial
  rw [State.frames_setTop' _ hat.top] at hend
  have hq' : kx_E s0 D cA ι h r' h' (U.calling (F0 m pc ls rest) mk (As.map (kx_cv ι)).toArray) o s₂ := hq
  obtain ⟨ι', L, kn, nn, i1, p1, o1, w1, sm1, l1, f1, c1, u1, e1⟩ := hq'
  obtain ⟨g₀, hg0⟩ := Option.isSome_iff_exists.mp hat.top
  obtain ⟨r0, hr0⟩ := State.topJava?_eq_some.mp hg0
  obtain ⟨e2, q2, q3, q4, q5, q6⟩ := id sm1
  have e3 : s₂ = ({ (U.calling (F0 m pc ls rest) mk (As.map (kx_cv ι)).toArray).setFrames s₂.frames with heap := s₂.heap, slotsUsed := s₂.slotsUsed } : State).setVm s₂.vm := by
    have z : s₂ = ({ s₂ with vm := (U.calling (F0 m pc ls rest) mk (As.map (kx_cv ι)).toArray).vm } : State).setVm s₂.vm := rfl
    rw [e2] at z
    exact z
  have hW' : U.WarmedH s₂.vm := w1
  have hsame : U.sameButNew ({ U with heap := s₂.heap, slotsUsed := s₂.slotsUsed } : State) L kn nn := by
    refine ⟨?_, q2, q3, q4, q5, q6⟩
    obtain ⟨t, ht, -⟩ := State.frames_cons hr0
    show ({ U with heap := s₂.heap, slotsUsed := s₂.slotsUsed } : State) = { U.setFrames U.frames with heap := s₂.heap, slotsUsed := s₂.slotsUsed }
    rw [State.setFrames_self ht]
  have XV : Stand p l e R s m args below meth c (({ U with heap := s₂.heap, slotsUsed := s₂.slotsUsed } : State).setVm s₂.vm) (locs ++ L) (cells + kn) (slots + nn) :=
    ⟨X₁.admits, X₁.cas, X₁.clock, X₁.frames, X₁.room, X₁.hears, X₁.method, X₁.code, (X₁.here.setHeapUsed s₂.heap s₂.slotsUsed).setVm hW'.alike, X₁.tail, State.WarmedH.trans X₁.warmed hW', X₁.limits, X₁.bytes, X₁.same.trans (hsame.setVm s.vm)⟩
  have hLs : ∀ q ∈ locs ++ L, kx_A s0 s q.base := by
    intro q hq
    rcases List.mem_append.mp hq with h1 | h1
    · exact hS.2.2 q h1
    · have h2 := l1 q h1
      exact kx_A_of X₁ h2.1 (fun cell hcell => h2.2 cell hcell)
  have hSV : va_S (kx_A s0 s) s.heap s₂.heap (locs ++ L) := kx_S_of XV hLs
  have hIx : ∀ a t, hp_T h a = some t → ι' a = ι a := fun a t ha => i1 a ((hP.1 a t ha).1)
  have hI' : ∀ a, a < hp_X h0 → ι' a = ι0 a := fun a ha => (i1 a (Nat.lt_of_lt_of_le ha hE.1)).trans (hI a ha)
  have hE' : kx_le h0 h' := ⟨Nat.le_trans hE.1 e1.1, fun a t ha => e1.2.1 a t (hE.2.1 a t ha), e1.2.2⟩
  cases o with
  | returned v0 =>
    cases r' with
    | inr e' => obtain ⟨x, cell, z, -⟩ := o1; cases z
    | inl v =>
      obtain ⟨hv0, hok⟩ := o1
      have hv0 : v0 = v.map (kx_cv ι') := Outcome.returned.inj hv0
      subst hv0
      obtain ⟨c₂, i₂, len₂, hc₂, hd₂, hf₂⟩ := hend
      have hcc2 : c₂ = c := by
        have z : s₂.code? m = U.code? m := by rw [State.code?_eq, State.code?_eq, hW'.alike.method?]
        exact Option.some.inj (hc₂.symm.trans (z.trans hat.code))
      subst hcc2
      have hlen : len₂ = 3 := by rw [hdg'] at hd₂; cases hd₂; rfl
      subst hlen
      have hs₂ : s₂ = (({ U with heap := s₂.heap, slotsUsed := s₂.slotsUsed } : State).setVm s₂.vm).setTop (F0 m (pc + 3) ls ((v.map (kx_cv ι')).toList ++ rest)) := by
        have hr' : (({ U with heap := s₂.heap, slotsUsed := s₂.slotsUsed } : State).setVm s₂.vm).frames = .java g₀ :: r0 := hr0
        refine e3.trans ?_
        rw [hf₂, State.calling_eq hat.top, State.setFrames_setFrames, State.setTop_of_frames _ hr', hr0]
        rfl
      obtain ⟨t, a1, b1⟩ := kret v ι' s₂.heap (locs ++ L) (cells + kn) (slots + nn) rfl p1 (kx_PA XV p1) hSV (by omega) (by omega) hIx hI' e1 hE' hok (({ U with heap := s₂.heap, slotsUsed := s₂.slotsUsed } : State).setVm s₂.vm) rfl XV
      exact ⟨t, hgo _ (fun acts => by rw [doInvoke_state]; exact hsteps.trans (by rw [hs₂]; exact a1)), b1⟩
  | threw x =>
    cases r' with
    | inl v => obtain ⟨z, -⟩ := o1; cases z
    | inr e' =>
      obtain ⟨q, hq9, rfl, rfl⟩ := kthr e' rfl
      have hf₂ : s₂.frames = .throwing x :: .java (F0 m pc ls rest) :: U.frames.tail := hend
      have hs₂ : s₂ = ((({ U with heap := s₂.heap, slotsUsed := s₂.slotsUsed } : State).setVm s₂.vm).setTop (F0 m pc ls rest)).pushFrame (.throwing x) := by
        have hr' : (({ U with heap := s₂.heap, slotsUsed := s₂.slotsUsed } : State).setVm s₂.vm).frames = .java g₀ :: r0 := hr0
        refine e3.trans ?_
        rw [hf₂, State.calling_eq hat.top, State.setFrames_setFrames, State.pushFrame, State.frames_setTop _ hr', State.setTop_of_frames _ hr', State.setFrames_setFrames, hr0]
        rfl
      obtain ⟨x', cell, hxe, hx1, hx2, hx3, hx4⟩ := o1
      have hxe : x = x' := Outcome.threw.inj hxe
      subst hxe
      have hqm := List.mem_of_find?_eq_some hq9
      have hqz := List.find?_some (p := fun q : kx_HE => Nat.beq q.2.2.2.2.1 e') hq9
      have hqe : q.2.2.2.2.1 = e' := Nat.eq_of_beq_eq_true hqz
      obtain ⟨-, -, -, k4, -, k6, k7⟩ := hHS q hqm
      have hcl : s.vm.findClass (kx_en e') = some cell.cls := by
        have z := XV.warmed.alike.findClass (kx_en e')
        rw [← z]
        exact hx4
      have hpl : e.platform.magicAccessors = ({} : Platform).magicAccessors := by rw [X₁.admits.platform]
      have hNCs : kx_NC s := fun a9 b9 h1 h2 h3 => (hNC a9 b9 h1 h2 h3).moved hB.1.alike
      obtain ⟨vm', w9, f9⟩ := kx_search (s := s) (e := e) (own := own) (args := args) hpl (f := F0 m pc ls rest) (a := x) (cell := cell) (e' := e') (by rw [← hqe]; exact k4) hown hNCs (by rw [← hqe]; exact hts _ k6) hcl hx2 HS c.exceptionTable.toList hex
        (fun q9 h9 => by obtain ⟨z1, z2, z3, z4, z5, -, -⟩ := hHS q9 h9; exact ⟨z1, z2, z3, z4, hts _ z5⟩) q hq9 (((({ U with heap := s₂.heap, slotsUsed := s₂.slotsUsed } : State).setVm s₂.vm).setTop (F0 m pc ls rest)).pushFrame (.throwing x)) (by rw [Stand.throwing_vm]; exact XV.warmed) (by rw [Stand.throwing_heap]; exact hx1)
      obtain ⟨t, a1, b1⟩ := kx_hw (x := x) G k7 hrt hl0 p1 hSV (by omega) (by omega) hI' hE' ((({ U with heap := s₂.heap, slotsUsed := s₂.slotsUsed } : State).setVm s₂.vm).setVm vm') rfl (XV.noted w9)
      have hfind : ∀ (Q : Handler → Pre) (E : CtlPost) (d : Bool) (acts : List Action), wp (findHandler (F0 m pc ls rest) x) Q E e d acts (((({ U with heap := s₂.heap, slotsUsed := s₂.slotsUsed } : State).setVm s₂.vm).setTop (F0 m pc ls rest)).pushFrame (.throwing x)) ↔ Q (.found q.2.2.1) d acts ((((({ U with heap := s₂.heap, slotsUsed := s₂.slotsUsed } : State).setVm s₂.vm).setTop (F0 m pc ls rest)).pushFrame (.throwing x)).setVm vm') := by
        intro Q9 E9 d9 a9
        rw [W.findHandler_eq (by rw [Stand.throwing_vm]; exact XV.method') XV.code]
        exact f9 Q9 E9 d9 a9
      have hst := kx_caught (tb := p.tables) (below := below) (c := c) (T := (({ U with heap := s₂.heap, slotsUsed := s₂.slotsUsed } : State).setVm s₂.vm)) (g := F0 m pc ls rest) (a := x) XV.here (pc := q.2.2.1) (vm' := vm') hfind a1
      exact ⟨t, hgo _ (fun acts => by rw [doInvoke_state]; exact hsteps.trans (by rw [hs₂]; exact hst)), b1⟩

theorem kx_coreC (G : kx_G p e R s m args meth c s0 D cA cc own nL h0) (hg : ∀ w ∈ kx_WS, kx_kp w) {C : kx_C} {d n : Nat} (hCS : kx_cs9 l s0 D cA C d) (hR : kx_need (d + 1) R) {HS : List kx_HE} (hex : c.exceptionTable.toList.map (fun h => (h.startPc, h.endPc, h.handlerPc, h.catchType)) = HS.map kx_h4) (hHS : kx_hs own cc nL pc HS) (hNC : kx_NC s0) (hrt : meth.sig.returnType = some .int) {bytes : ByteArray} {maxL w : Nat} {ret : Option FieldType} (hcal : kx_cal n bytes maxL ret w) {As r9 : List kx_V} (hfit : kx_fits (kx_pm n) As = true) (hr9 : r9.length ≤ 4) {lv : kx_L} {h : kx_H} {q : kx_R × kx_H} (hq : C n As h = some q) {st0 : List Value} {ig : Instr} (hdg : decode cc pc = .ok (ig, 3))
    {ι : Nat → Nat} {H : Heap} (hP : kx_P s0 D cA ι h H) (hl : lv_has ls nL (kx_lc ι lv)) (hs1 : ∀ v ∈ As, kx_ok h v) (hs2 : ∀ v ∈ r9, kx_ok h v) (hv : ∀ q ∈ lv, kx_ok h q.2) (hS : va_S (kx_A s0 s) s.heap H locs) (hC : hp_C h0 + cells = hp_C h) (hU : hp_U h0 + slots = hp_U h) (hI : ∀ a, a < hp_X h0 → ι a = ι0 a) (hE : kx_le h0 h)
    (enter : ∀ T : State, T.heap = H → Stand p l e R s m args below meth c T locs cells slots → ∃ (vm₁ : Vm) (mk : MethodId), s.WarmedH vm₁ ∧ Stand p l e R s m args below meth c (T.setVm vm₁) locs cells slots ∧ (T.setVm vm₁).methodNamed? (kx_mn n) = some mk ∧
      ∀ target, (∀ acts, Steps p.tables e below (doInvoke e ((T.setVm vm₁).setTop (F0 m pc ls (r9.map (kx_cv ι)))) acts mk (As.map (kx_cv ι)).toArray).1 target) → Steps p.tables e below (T.setTop (F0 m pc ls st0)) target)
    (hk : kx_Sn p l e R s m args below meth c s0 D cA nL ι0 h0 rr hf (pc + 3) k) (hret : ∀ v, q.1 = .inl v → k lv (v.toList ++ r9) q.2 = some (rr, hf)) (hthr : ∀ e', q.1 = .inr e' → ∃ q9, HS.find? (fun q => Nat.beq q.2.2.2.2.1 e') = some q9 ∧ rr = .inl (some (.inl q9.2.2.2.2.2)) ∧ hf = q.2) :
    W p l e R s m args below meth c H locs cells slots (kx_Q s0 D cA below s ι0 h0 rr hf) (F0 m pc ls st0) := by
  obtain ⟨r', h'⟩ := q
  refine kx_wcallC G hg hcal.1 hcal.2.1 hcal.2.2.1 (fun rm hn h1 h2 => hCS n As h r' h' hq hfit hE.2.2.1 hE.2.2.2 rm ι hn h1 h2) hR (by have := G.2.2.2.2.2.2.2.1; have := hE.2.2.1; omega) (by have := G.2.2.2.2.2.2.2.2; have := hE.2.2.2; omega) hP hS hC hU hI hE hs1 (by have := kx_w2 ι r9; omega) hl.1 hdg enter (fun v ι' H' locs' cells' slots' e1 p1 a1 s1 c1 u1 x1 i1 l1 l2 ok1 => ?_) (fun e' he => hthr e' he) hex hHS hNC hrt ⟨hl.1, hl.2.1, fun q h9 => (by cases h9)⟩
  have up : ∀ v9, kx_ok h v9 → kx_ok h' v9 := fun v9 ho => by
    rcases v9 with x | x | ⟨t9, o9⟩
    · trivial
    · trivial
    · exact fun a ha => l1.2.1 a t9 (ho a ha)
  have h3 := hk lv (v.toList ++ r9) h' (hret v e1) ι' H' locs' cells' slots' ls p1 a1 (by rw [kx_lc_ext hv x1]; exact hl) (fun w hw => by
    rcases List.mem_append.mp hw with z | z
    · exact ok1 w (by cases v with
        | none => cases z
        | some y => rw [List.mem_singleton.mp z])
    · exact up w (hs2 w z)) (fun q hq => up _ (hv q hq)) s1 c1 u1 i1 l2
  rw [List.map_append, kx_st_ext hs2 x1] at h3
  have e4 : (v.map (kx_cv ι')).toList = v.toList.map (kx_cv ι') := by cases v <;> rfl
  rw [e4]
  exact h3

theorem kx_lk_spec {HS : List kx_HE} {e : Nat} {c9 : Int32} (h : kx_lk HS e = some c9) : ∃ q, HS.find? (fun q => Nat.beq q.2.2.2.2.1 e) = some q ∧ q.2.2.2.2.2 = c9 := by
  unfold kx_lk at h
  cases hq : HS.find? (fun q => Nat.beq q.2.2.2.2.1 e) with
  | none => rw [hq] at h; cases h
  | some q => rw [hq] at h; exact ⟨q, rfl, Option.some.inj h⟩
theorem kx_bvc_spec {HS : List kx_HE} {o : kx_O} {K : kx_H → kx_O} {z : kx_R × kx_H} (hz : kx_bvc HS o K = some z) : ∃ q, o = some q ∧ (∀ v, q.1 = .inl v → v = none ∧ K q.2 = some z) ∧ ∀ e', q.1 = .inr e' → ∃ q9, HS.find? (fun q => Nat.beq q.2.2.2.2.1 e') = some q9 ∧ z = (.inl (some (.inl q9.2.2.2.2.2)), q.2) := by
  cases o with
  | none => cases hz
  | some q =>
    obtain ⟨r', h'⟩ := q
    refine ⟨_, rfl, ?_⟩
    rcases r' with v | e'
    · cases v with
      | none => exact ⟨fun v hv => (by cases hv; exact ⟨rfl, hz⟩), fun e' he => (by cases he)⟩
      | some v => cases hz
    · refine ⟨fun v hv => (by cases hv), fun e9 he => ?_⟩
      cases he
      have hz2 : (kx_lk HS e').bind (fun c => some ((.inl (some (.inl c)), h') : kx_R × kx_H)) = some z := hz
      cases hq : kx_lk HS e' with
      | none => rw [hq] at hz2; cases hz2
      | some c9 =>
        rw [hq] at hz2
        obtain ⟨q9, h1, h2⟩ := kx_lk_spec hq
        cases hz2
        exact ⟨q9, h1, by rw [h2]⟩
theorem kx_bic_spec {HS : List kx_HE} {o : kx_O} {K : Int32 → kx_H → kx_O} {z : kx_R × kx_H} (hz : kx_bic HS o K = some z) : ∃ q, o = some q ∧ (∀ v, q.1 = .inl v → ∃ x, v = some (.inl x) ∧ K x q.2 = some z) ∧ ∀ e', q.1 = .inr e' → ∃ q9, HS.find? (fun q => Nat.beq q.2.2.2.2.1 e') = some q9 ∧ z = (.inl (some (.inl q9.2.2.2.2.2)), q.2) := by
  cases o with
  | none => cases hz
  | some q =>
    obtain ⟨r', h'⟩ := q
    refine ⟨_, rfl, ?_⟩
    rcases r' with v | e'
    · rcases v with _ | (v | v | v)
      · cases hz
      · exact ⟨fun v9 hv => (by cases hv; exact ⟨v, rfl, hz⟩), fun e' he => (by cases he)⟩
      · cases hz
      · cases hz
    · refine ⟨fun v hv => (by cases hv), fun e9 he => ?_⟩
      cases he
      have hz2 : (kx_lk HS e').bind (fun c => some ((.inl (some (.inl c)), h') : kx_R × kx_H)) = some z := hz
      cases hq : kx_lk HS e' with
      | none => rw [hq] at hz2; cases hz2
      | some c9 =>
        rw [hq] at hz2
        obtain ⟨q9, h1, h2⟩ := kx_lk_spec hq
        cases hz2
        exact ⟨q9, h1, by rw [h2]⟩
theorem kx_blc_spec {HS : List kx_HE} {o : kx_O} {K : Int64 → kx_H → kx_O} {z : kx_R × kx_H} (hz : kx_blc HS o K = some z) : ∃ q, o = some q ∧ (∀ v, q.1 = .inl v → ∃ x, v = some (.inr (.inl x)) ∧ K x q.2 = some z) ∧ ∀ e', q.1 = .inr e' → ∃ q9, HS.find? (fun q => Nat.beq q.2.2.2.2.1 e') = some q9 ∧ z = (.inl (some (.inl q9.2.2.2.2.2)), q.2) := by
  cases o with
  | none => cases hz
  | some q =>
    obtain ⟨r', h'⟩ := q
    refine ⟨_, rfl, ?_⟩
    rcases r' with v | e'
    · rcases v with _ | (v | v | v)
      · cases hz
      · cases hz
      · exact ⟨fun v9 hv => (by cases hv; exact ⟨v, rfl, hz⟩), fun e' he => (by cases he)⟩
      · cases hz
    · refine ⟨fun v hv => (by cases hv), fun e9 he => ?_⟩
      cases he
      have hz2 : (kx_lk HS e').bind (fun c => some ((.inl (some (.inl c)), h') : kx_R × kx_H)) = some z := hz
      cases hq : kx_lk HS e' with
      | none => rw [hq] at hz2; cases hz2
      | some c9 =>
        rw [hq] at hz2
        obtain ⟨q9, h1, h2⟩ := kx_lk_spec hq
        cases hz2
        exact ⟨q9, h1, by rw [h2]⟩
theorem kx_s_Vvc (G : kx_G p e R s m args meth c s0 D cA cc own nL h0) (hg : ∀ w ∈ kx_WS, kx_kp w) {C : kx_C} {d n : Nat} (hCS : kx_cs9 l s0 D cA C d) (hR : kx_need (d + 1) R) {HS : List kx_HE} (hex : c.exceptionTable.toList.map (fun h => (h.startPc, h.endPc, h.handlerPc, h.catchType)) = HS.map kx_h4) (hHS : kx_hs own cc nL pc HS) (hNC : kx_NC s0) (hrt : meth.sig.returnType = some .int) {bytes : ByteArray} {maxL : Nat} {ret : Option FieldType} {ps : List Nat} (hcal : kx_cal n bytes maxL ret ps.length) (hpm : kx_pm n = (t + 2) :: ps) (h1 : Cond.methodLink own i (kx_mn n) ∈ kx_WS) (h2 : Cond.instanceMethod (kx_mn n) ∈ kx_WS) (h3 : Cond.selects r.1 (kx_mn n) (kx_mn n) ∈ kx_WS) (hc : kx_cl[t]? = some r) (h98 : t < 98) (hd : decode cc pc = .ok (.invokevirtual i, 3)) (hk : kx_Sn p l e R s m args below meth c s0 D cA nL ι0 h0 rr hf (pc + 3) k) : kx_Sn p l e R s m args below meth c s0 D cA nL ι0 h0 rr hf pc (kx_Vvc C n t ps HS k) := by
  intro lv st h hF
  unfold kx_Vvc at hF
  obtain ⟨a, r9, hst, hfit, hr9, hF⟩ := kx_ao_spec hF
  obtain ⟨q, hq, hret, hthr⟩ := kx_bvc_spec hF
  intro ι H locs cells slots ls hP hA hl hs hv hS hC hU hI hE
  have hts := G.2.2.2.2.2.1
  have hs' := hs
  rw [hst] at hs'
  have hta : hp_T h a = some t := hs' (.inr (.inr (t, some a))) (List.mem_append_right _ List.mem_cons_self) a rfl
  have hlen : (st.take ps.length).reverse.length = ps.length := kx_fits_len hfit
  have hmap : st.map (kx_cv ι) = ((st.take ps.length).reverse.map (kx_cv ι)).reverse ++ .ref (ι a) :: r9.map (kx_cv ι) := by
    conv => lhs; rw [hst]
    rw [List.map_append, List.map_cons, List.map_reverse, List.reverse_reverse]
    rfl
  rw [hmap]
  refine kx_coreC G hg hCS hR hex hHS hNC hrt hcal (As := .inr (.inr (t, some a)) :: (st.take ps.length).reverse) (r9 := r9) (by rw [hpm]; exact kx_fits2 hfit) hr9 hq hd hP hl (fun v hv9 => ?_) (fun v hv9 => hs' v (List.mem_append_right _ (List.mem_cons_of_mem _ hv9))) hv hS hC hU hI hE (fun T hT X => by
      obtain ⟨-, r', hr', cellB, b1, b2, b3, -⟩ := (hP.1 a t hta).2.2.1 h98
      cases hc.symm.trans hr'
      have hK := (G.2.2.2.2.2.2.1.2.1.1 t r hc).2
      exact kx_enV X G.1 G.2.1 (C := r.1) G.2.2.1 (hts _ h1) (hts _ h2) (hts _ h3) (hts _ hcal.1) hcal.2.2.2.1 (by rw [hT]; exact b1) (by rw [b3]; rfl) (by rw [b2]; exact hK.1) (argsL := (st.take ps.length).reverse.map (kx_cv ι)) (by rw [List.length_map, hlen]; exact hcal.2.2.2.2) hd) hk (fun v hv => by obtain ⟨rfl, z⟩ := hret v hv; exact z) (fun e' he => by obtain ⟨q9, h9, z⟩ := hthr e' he; cases z; exact ⟨q9, h9, rfl, rfl⟩)
  rcases List.mem_cons.mp hv9 with rfl | hv9
  · exact fun b hb => by cases hb; exact hta
  · exact hs v (List.mem_of_mem_take (List.mem_reverse.mp hv9))

theorem kx_s_Vic (G : kx_G p e R s m args meth c s0 D cA cc own nL h0) (hg : ∀ w ∈ kx_WS, kx_kp w) {C : kx_C} {d n : Nat} (hCS : kx_cs9 l s0 D cA C d) (hR : kx_need (d + 1) R) {HS : List kx_HE} (hex : c.exceptionTable.toList.map (fun h => (h.startPc, h.endPc, h.handlerPc, h.catchType)) = HS.map kx_h4) (hHS : kx_hs own cc nL pc HS) (hNC : kx_NC s0) (hrt : meth.sig.returnType = some .int) {bytes : ByteArray} {maxL : Nat} {ret : Option FieldType} {ps : List Nat} (hcal : kx_cal n bytes maxL ret ps.length) (hpm : kx_pm n = (t + 2) :: ps) (h1 : Cond.methodLink own i (kx_mn n) ∈ kx_WS) (h2 : Cond.instanceMethod (kx_mn n) ∈ kx_WS) (h3 : Cond.selects r.1 (kx_mn n) (kx_mn n) ∈ kx_WS) (hc : kx_cl[t]? = some r) (h98 : t < 98) (hd : decode cc pc = .ok (.invokevirtual i, 3)) (hk : kx_Sn p l e R s m args below meth c s0 D cA nL ι0 h0 rr hf (pc + 3) k) : kx_Sn p l e R s m args below meth c s0 D cA nL ι0 h0 rr hf pc (kx_Vic C n t ps HS k) := by
  intro lv st h hF
  unfold kx_Vic at hF
  obtain ⟨a, r9, hst, hfit, hr9, hF⟩ := kx_ao_spec hF
  obtain ⟨q, hq, hret, hthr⟩ := kx_bic_spec hF
  intro ι H locs cells slots ls hP hA hl hs hv hS hC hU hI hE
  have hts := G.2.2.2.2.2.1
  have hs' := hs
  rw [hst] at hs'
  have hta : hp_T h a = some t := hs' (.inr (.inr (t, some a))) (List.mem_append_right _ List.mem_cons_self) a rfl
  have hlen : (st.take ps.length).reverse.length = ps.length := kx_fits_len hfit
  have hmap : st.map (kx_cv ι) = ((st.take ps.length).reverse.map (kx_cv ι)).reverse ++ .ref (ι a) :: r9.map (kx_cv ι) := by
    conv => lhs; rw [hst]
    rw [List.map_append, List.map_cons, List.map_reverse, List.reverse_reverse]
    rfl
  rw [hmap]
  refine kx_coreC G hg hCS hR hex hHS hNC hrt hcal (As := .inr (.inr (t, some a)) :: (st.take ps.length).reverse) (r9 := r9) (by rw [hpm]; exact kx_fits2 hfit) hr9 hq hd hP hl (fun v hv9 => ?_) (fun v hv9 => hs' v (List.mem_append_right _ (List.mem_cons_of_mem _ hv9))) hv hS hC hU hI hE (fun T hT X => by
      obtain ⟨-, r', hr', cellB, b1, b2, b3, -⟩ := (hP.1 a t hta).2.2.1 h98
      cases hc.symm.trans hr'
      have hK := (G.2.2.2.2.2.2.1.2.1.1 t r hc).2
      exact kx_enV X G.1 G.2.1 (C := r.1) G.2.2.1 (hts _ h1) (hts _ h2) (hts _ h3) (hts _ hcal.1) hcal.2.2.2.1 (by rw [hT]; exact b1) (by rw [b3]; rfl) (by rw [b2]; exact hK.1) (argsL := (st.take ps.length).reverse.map (kx_cv ι)) (by rw [List.length_map, hlen]; exact hcal.2.2.2.2) hd) hk (fun v hv => by obtain ⟨x, rfl, z⟩ := hret v hv; exact z) (fun e' he => by obtain ⟨q9, h9, z⟩ := hthr e' he; cases z; exact ⟨q9, h9, rfl, rfl⟩)
  rcases List.mem_cons.mp hv9 with rfl | hv9
  · exact fun b hb => by cases hb; exact hta
  · exact hs v (List.mem_of_mem_take (List.mem_reverse.mp hv9))

theorem kx_s_Vlc (G : kx_G p e R s m args meth c s0 D cA cc own nL h0) (hg : ∀ w ∈ kx_WS, kx_kp w) {C : kx_C} {d n : Nat} (hCS : kx_cs9 l s0 D cA C d) (hR : kx_need (d + 1) R) {HS : List kx_HE} (hex : c.exceptionTable.toList.map (fun h => (h.startPc, h.endPc, h.handlerPc, h.catchType)) = HS.map kx_h4) (hHS : kx_hs own cc nL pc HS) (hNC : kx_NC s0) (hrt : meth.sig.returnType = some .int) {bytes : ByteArray} {maxL : Nat} {ret : Option FieldType} {ps : List Nat} (hcal : kx_cal n bytes maxL ret ps.length) (hpm : kx_pm n = (t + 2) :: ps) (h1 : Cond.methodLink own i (kx_mn n) ∈ kx_WS) (h2 : Cond.instanceMethod (kx_mn n) ∈ kx_WS) (h3 : Cond.selects r.1 (kx_mn n) (kx_mn n) ∈ kx_WS) (hc : kx_cl[t]? = some r) (h98 : t < 98) (hd : decode cc pc = .ok (.invokevirtual i, 3)) (hk : kx_Sn p l e R s m args below meth c s0 D cA nL ι0 h0 rr hf (pc + 3) k) : kx_Sn p l e R s m args below meth c s0 D cA nL ι0 h0 rr hf pc (kx_Vlc C n t ps HS k) := by
  intro lv st h hF
  unfold kx_Vlc at hF
  obtain ⟨a, r9, hst, hfit, hr9, hF⟩ := kx_ao_spec hF
  obtain ⟨q, hq, hret, hthr⟩ := kx_blc_spec hF
  intro ι H locs cells slots ls hP hA hl hs hv hS hC hU hI hE
  have hts := G.2.2.2.2.2.1
  have hs' := hs
  rw [hst] at hs'
  have hta : hp_T h a = some t := hs' (.inr (.inr (t, some a))) (List.mem_append_right _ List.mem_cons_self) a rfl
  have hlen : (st.take ps.length).reverse.length = ps.length := kx_fits_len hfit
  have hmap : st.map (kx_cv ι) = ((st.take ps.length).reverse.map (kx_cv ι)).reverse ++ .ref (ι a) :: r9.map (kx_cv ι) := by
    conv => lhs; rw [hst]
    rw [List.map_append, List.map_cons, List.map_reverse, List.reverse_reverse]
    rfl
  rw [hmap]
  refine kx_coreC G hg hCS hR hex hHS hNC hrt hcal (As := .inr (.inr (t, some a)) :: (st.take ps.length).reverse) (r9 := r9) (by rw [hpm]; exact kx_fits2 hfit) hr9 hq hd hP hl (fun v hv9 => ?_) (fun v hv9 => hs' v (List.mem_append_right _ (List.mem_cons_of_mem _ hv9))) hv hS hC hU hI hE (fun T hT X => by
      obtain ⟨-, r', hr', cellB, b1, b2, b3, -⟩ := (hP.1 a t hta).2.2.1 h98
      cases hc.symm.trans hr'
      have hK := (G.2.2.2.2.2.2.1.2.1.1 t r hc).2
      exact kx_enV X G.1 G.2.1 (C := r.1) G.2.2.1 (hts _ h1) (hts _ h2) (hts _ h3) (hts _ hcal.1) hcal.2.2.2.1 (by rw [hT]; exact b1) (by rw [b3]; rfl) (by rw [b2]; exact hK.1) (argsL := (st.take ps.length).reverse.map (kx_cv ι)) (by rw [List.length_map, hlen]; exact hcal.2.2.2.2) hd) hk (fun v hv => by obtain ⟨x, rfl, z⟩ := hret v hv; exact z) (fun e' he => by obtain ⟨q9, h9, z⟩ := hthr e' he; cases z; exact ⟨q9, h9, rfl, rfl⟩)
  rcases List.mem_cons.mp hv9 with rfl | hv9
  · exact fun b hb => by cases hb; exact hta
  · exact hs v (List.mem_of_mem_take (List.mem_reverse.mp hv9))

theorem kx_wcallW (G : kx_G p e R s m args meth c s0 D cA cc own nL h0) (hg : ∀ w ∈ kx_WS, kx_kp w) {y : MethodName} {bytes : ByteArray} {maxL : Nat} {ret : Option FieldType} {hh : List (Nat × Nat × Nat × Nat)} (hcode : Cond.codeWith y bytes maxL ret hh ∈ kx_WS) (hini : Cond.initialized y.cls ∈ kx_WS) (hmax : maxL ≤ 13) {d : Nat} {As : List kx_V} {r' : kx_R} {h' : kx_H}
    (hM : ∀ rm, kx_need d rm → kx_cc ≤ rm.cells + hp_C h → kx_cs ≤ rm.slots + hp_U h → kx_Mt l s0 D cA y rm ι As h r' h') (hR : kx_need (d + 1) R)
    (hcell : cells ≤ R.cells) (hslot : slots ≤ R.slots)
    (hP : kx_P s0 D cA ι h H) (hS : va_S (kx_A s0 s) s.heap H locs) (hC : hp_C h0 + cells = hp_C h) (hU : hp_U h0 + slots = hp_U h) (hI : ∀ a, a < hp_X h0 → ι a = ι0 a) (hE : kx_le h0 h) (hAs : ∀ v ∈ As, kx_ok h v)
    (hw8 : (rest.map fun v => v.category).sum ≤ 8) (hls : ls.size = nL) {st0 : List Value} {ig : Instr} (hdg : decode cc pc = .ok (ig, 3))
    (enter : ∀ T : State, T.heap = H → Stand p l e R s m args below meth c T locs cells slots → ∃ (vm₁ : Vm) (mk : MethodId), s.WarmedH vm₁ ∧ Stand p l e R s m args below meth c (T.setVm vm₁) locs cells slots ∧ (T.setVm vm₁).methodNamed? y = some mk ∧
      ∀ target, (∀ acts, Steps p.tables e below (doInvoke e ((T.setVm vm₁).setTop (F0 m pc ls rest)) acts mk (As.map (kx_cv ι)).toArray).1 target) → Steps p.tables e below (T.setTop (F0 m pc ls st0)) target)
    (kret : ∀ (v : Option kx_V) (ι' : Nat → Nat) (H' : Heap) (locs' : List Loc) (cells' slots' : Nat), r' = .inl v → kx_P s0 D cA ι' h' H' → (∀ a t, hp_T h' a = some t → t ≠ 98 → kx_A s0 s (ι' a)) → va_S (kx_A s0 s) s.heap H' locs' → hp_C h0 + cells' = hp_C h' → hp_U h0 + slots' = hp_U h' → (∀ a t, hp_T h a = some t → ι' a = ι a) → (∀ a, a < hp_X h0 → ι' a = ι0 a) → kx_le h h' → kx_le h0 h' → (∀ x, v = some x → kx_ok h' x) →
      W p l e R s m args below meth c H' locs' cells' slots' (kx_Q s0 D cA below s ι0 h0 rr hf) (F0 m (pc + 3) ls ((v.map (kx_cv ι')).toList ++ rest)))
    (kthr : ∀ e', r' = .inr e' → rr = .inr e' ∧ hf = h') (hout : ∀ x ∈ c.exceptionTable.toList, covers x pc = false) :
    W p l e R s m args below meth c H locs cells slots (kx_Q s0 D cA below s ι0 h0 rr hf) (F0 m pc ls st0) := by
  intro T hT X
  obtain ⟨vm₁, mk, hW₁, X₁, hn, hgo⟩ := enter T hT X
  obtain ⟨hx, hb, hown, hml, hlocks, hts, hB, hcc, hcs⟩ := id G
  have hU1 : (T.setVm vm₁).heap = H := hT
  generalize hUe : T.setVm vm₁ = U at hn X₁ hgo hU1
  have hWU : s.WarmedH U.vm := by rw [← hUe]; exact hW₁
  have hSU : va_S (kx_A s0 s) s.heap U.heap locs := by rw [hU1]; exact hS
  have hBU := kx_BU hB hWU hSU
  have hM1 := hM { frames := R.frames - 1, cells := R.cells - cells, slots := R.slots - slots, locals := R.locals - (19 + maxL) } ⟨by have := hR.1; show d + 1 ≤ R.frames - 1; omega, by have := hR.2; show 32 * d + 100 ≤ R.locals - (19 + maxL); omega⟩ (by show kx_cc ≤ R.cells - cells + hp_C h; omega) (by show kx_cs ≤ R.slots - slots + hp_U h; omega)
  generalize hrm : ({ frames := R.frames - 1, cells := R.cells - cells, slots := R.slots - slots, locals := R.locals - (19 + maxL) } : Room) = rm at hM1
  have hpre : ∀ w ∈ kx_WS, w.before (As.map (kx_cv ι)).toArray U = true := fun w hw => hg w hw args _ s U hWU (hts w hw)
  have hat : At U (F0 m pc ls rest).method c below := X₁.here
  obtain ⟨m9, methY, cY, hn9, hmY, hcY, -, hlY, -⟩ := Cond.codeWith_spec (hpre _ hcode)
  cases hn.symm.trans hn9
  obtain ⟨kY, hkY, -⟩ := className_of_methodNamed hn
  have hinitY : kY.init = .initialized := Cond.initialized_spec (findClass_of_methodNamed hn) hkY (hpre _ hini)
  have hdg' : decode c.code (F0 m pc ls rest).pc = .ok (ig, 3) := by rw [hb]; exact hdg
  have happ : (headSpec kx_WS rm).appliesLoose y e.platform (U.calling (F0 m pc ls rest) mk (As.map (kx_cv ι)).toArray) = true :=
    Spec.appliesLoose_calling (g := F0 m pc ls rest) hat hdg' hn hkY hinitY
      (X₁.room_calling (g := F0 m pc ls rest) (R' := rm) (by show ls.size = _; rw [hls, hml]) hmY hcY (by rw [← hrm]; have := hR.1; show R.frames - 1 + 1 ≤ R.frames; omega) (by rw [hlY, ← hrm]; have := hR.2; show 2 * 0 + (rest.map fun v => v.category).sum + (maxL + 11) + (R.locals - (19 + maxL)) ≤ R.locals; omega) (by rw [← hrm]; show cells + (R.cells - cells) ≤ R.cells; omega) (by rw [← hrm]; show slots + (R.slots - slots) ≤ R.slots; omega)) (atoms_intro hpre)
  obtain ⟨mid, hmid⟩ := hat.above
  have hfr : (U.setTop (F0 m pc ls rest)).frames = (.java (F0 m pc ls rest) :: mid) ++ below := by rw [State.frames_setTop' _ hat.top, hmid]; rfl
  have hPc : (U.calling (F0 m pc ls rest) mk (As.map (kx_cv ι)).toArray).heap = H := hU1
  obtain ⟨o, s₂, hsteps, -, hend, hq⟩ := Steps.callFree hM1 p X₁.admits X₁.cas X₁.clock (acts := []) hfr happ ⟨rfl, ⟨hBU.1, va_K.moved (Vm.Alike.refl U.vm) hBU.2.1, hBU.2.2.1, hBU.2.2.2.1, hBU.2.2.2.2⟩, (by show kx_P s0 D cA ι h U.heap; rw [hU1]; exact hP), hAs⟩ trivial
  rw [State.frames_setTop' _ hat.top] at hend
  have hq' : kx_E s0 D cA ι h r' h' (U.calling (F0 m pc ls rest) mk (As.map (kx_cv ι)).toArray) o s₂ := hq
  obtain ⟨ι', L, kn, nn, i1, p1, o1, w1, sm1, l1, f1, c1, u1, e1⟩ := hq'
  obtain ⟨g₀, hg0⟩ := Option.isSome_iff_exists.mp hat.top
  obtain ⟨r0, hr0⟩ := State.topJava?_eq_some.mp hg0
  obtain ⟨e2, q2, q3, q4, q5, q6⟩ := id sm1
  have e3 : s₂ = ({ (U.calling (F0 m pc ls rest) mk (As.map (kx_cv ι)).toArray).setFrames s₂.frames with heap := s₂.heap, slotsUsed := s₂.slotsUsed } : State).setVm s₂.vm := by
    have z : s₂ = ({ s₂ with vm := (U.calling (F0 m pc ls rest) mk (As.map (kx_cv ι)).toArray).vm } : State).setVm s₂.vm := rfl
    rw [e2] at z
    exact z
  have hW' : U.WarmedH s₂.vm := w1
  have hsame : U.sameButNew ({ U with heap := s₂.heap, slotsUsed := s₂.slotsUsed } : State) L kn nn := by
    refine ⟨?_, q2, q3, q4, q5, q6⟩
    obtain ⟨t, ht, -⟩ := State.frames_cons hr0
    show ({ U with heap := s₂.heap, slotsUsed := s₂.slotsUsed } : State) = { U.setFrames U.frames with heap := s₂.heap, slotsUsed := s₂.slotsUsed }
    rw [State.setFrames_self ht]
  have XV : Stand p l e R s m args below meth c (({ U with heap := s₂.heap, slotsUsed := s₂.slotsUsed } : State).setVm s₂.vm) (locs ++ L) (cells + kn) (slots + nn) :=
    ⟨X₁.admits, X₁.cas, X₁.clock, X₁.frames, X₁.room, X₁.hears, X₁.method, X₁.code, (X₁.here.setHeapUsed s₂.heap s₂.slotsUsed).setVm hW'.alike, X₁.tail, State.WarmedH.trans X₁.warmed hW', X₁.limits, X₁.bytes, X₁.same.trans (hsame.setVm s.vm)⟩
  have hLs : ∀ q ∈ locs ++ L, kx_A s0 s q.base := by
    intro q hq
    rcases List.mem_append.mp hq with h1 | h1
    · exact hS.2.2 q h1
    · have h2 := l1 q h1
      exact kx_A_of X₁ h2.1 (fun cell hcell => h2.2 cell hcell)
  have hSV : va_S (kx_A s0 s) s.heap s₂.heap (locs ++ L) := kx_S_of XV hLs
  have hIx : ∀ a t, hp_T h a = some t → ι' a = ι a := fun a t ha => i1 a ((hP.1 a t ha).1)
  have hI' : ∀ a, a < hp_X h0 → ι' a = ι0 a := fun a ha => (i1 a (Nat.lt_of_lt_of_le ha hE.1)).trans (hI a ha)
  have hE' : kx_le h0 h' := ⟨Nat.le_trans hE.1 e1.1, fun a t ha => e1.2.1 a t (hE.2.1 a t ha), e1.2.2⟩
  cases o with
  | returned v0 =>
    cases r' with
    | inr e' => obtain ⟨x, cell, z, -⟩ := o1; cases z
    | inl v =>
      obtain ⟨hv0, hok⟩ := o1
      have hv0 : v0 = v.map (kx_cv ι') := Outcome.returned.inj hv0
      subst hv0
      obtain ⟨c₂, i₂, len₂, hc₂, hd₂, hf₂⟩ := hend
      have hcc2 : c₂ = c := by
        have z : s₂.code? m = U.code? m := by rw [State.code?_eq, State.code?_eq, hW'.alike.method?]
        exact Option.some.inj (hc₂.symm.trans (z.trans hat.code))
      subst hcc2
      have hlen : len₂ = 3 := by rw [hdg'] at hd₂; cases hd₂; rfl
      subst hlen
      have hs₂ : s₂ = (({ U with heap := s₂.heap, slotsUsed := s₂.slotsUsed } : State).setVm s₂.vm).setTop (F0 m (pc + 3) ls ((v.map (kx_cv ι')).toList ++ rest)) := by
        have hr' : (({ U with heap := s₂.heap, slotsUsed := s₂.slotsUsed } : State).setVm s₂.vm).frames = .java g₀ :: r0 := hr0
        refine e3.trans ?_
        rw [hf₂, State.calling_eq hat.top, State.setFrames_setFrames, State.setTop_of_frames _ hr', hr0]
        rfl
      obtain ⟨t, a1, b1⟩ := kret v ι' s₂.heap (locs ++ L) (cells + kn) (slots + nn) rfl p1 (kx_PA XV p1) hSV (by omega) (by omega) hIx hI' e1 hE' hok (({ U with heap := s₂.heap, slotsUsed := s₂.slotsUsed } : State).setVm s₂.vm) rfl XV
      exact ⟨t, hgo _ (fun acts => by rw [doInvoke_state]; exact hsteps.trans (by rw [hs₂]; exact a1)), b1⟩
  | threw x =>
    cases r' with
    | inl v => obtain ⟨z, -⟩ := o1; cases z
    | inr e' =>
      obtain ⟨rfl, rfl⟩ := kthr e' rfl
      have hf₂ : s₂.frames = .throwing x :: .java (F0 m pc ls rest) :: U.frames.tail := hend
      have hs₂ : s₂ = ((({ U with heap := s₂.heap, slotsUsed := s₂.slotsUsed } : State).setVm s₂.vm).setTop (F0 m pc ls rest)).pushFrame (.throwing x) := by
        have hr' : (({ U with heap := s₂.heap, slotsUsed := s₂.slotsUsed } : State).setVm s₂.vm).frames = .java g₀ :: r0 := hr0
        refine e3.trans ?_
        rw [hf₂, State.calling_eq hat.top, State.setFrames_setFrames, State.pushFrame, State.frames_setTop _ hr', State.setTop_of_frames _ hr', State.setFrames_setFrames, hr0]
        rfl
      obtain ⟨z1, z2, z3, z4, z5⟩ := XV.leaveThrown x (g := F0 m pc ls rest) rfl rfl rfl hout hlocks
      refine ⟨_, hgo _ (fun acts => by rw [doInvoke_state]; exact hsteps.trans (by rw [hs₂]; exact z1)), .threw x, z2, z3, ι', locs ++ L, cells + kn, slots + nn, hI', p1, o1, z4, z5, hLs, fun q hq => hSV.2.1 q (Nat.lt_of_lt_of_le hq hB.2.2.2.1) (fun z => absurd z.1 (by omega)), by omega, by omega, hE'⟩

def kx_calW (n : Nat) (bytes : ByteArray) (maxL : Nat) (ret : Option FieldType) (hh : List (Nat × Nat × Nat × Nat)) (w : Nat) : Prop := Cond.codeWith (kx_mn n) bytes maxL ret hh ∈ kx_WS ∧ Cond.initialized (kx_mn n).cls ∈ kx_WS ∧ maxL ≤ 13 ∧ ((kx_mn n).cls ≠ "java/lang/invoke/MethodHandle" ∧ (kx_mn n).cls ≠ "java/lang/invoke/VarHandle") ∧ (parseMethodDescriptor (kx_mn n).desc).map (fun d => d.parameters.length) = some w
theorem kx_coreW (G : kx_G p e R s m args meth c s0 D cA cc own nL h0) (hg : ∀ w ∈ kx_WS, kx_kp w) {C : kx_C} {d n : Nat} (hCS : kx_cs9 l s0 D cA C d) (hR : kx_need (d + 1) R) (hout : ∀ x ∈ c.exceptionTable.toList, covers x pc = false) {bytes : ByteArray} {maxL w : Nat} {ret : Option FieldType} {hh : List (Nat × Nat × Nat × Nat)} (hcal : kx_calW n bytes maxL ret hh w) {As r9 : List kx_V} (hfit : kx_fits (kx_pm n) As = true) (hr9 : r9.length ≤ 4) {lv : kx_L} {h : kx_H} {q : kx_R × kx_H} (hq : C n As h = some q) {st0 : List Value} {ig : Instr} (hdg : decode cc pc = .ok (ig, 3))
    {ι : Nat → Nat} {H : Heap} (hP : kx_P s0 D cA ι h H) (hl : lv_has ls nL (kx_lc ι lv)) (hs1 : ∀ v ∈ As, kx_ok h v) (hs2 : ∀ v ∈ r9, kx_ok h v) (hv : ∀ q ∈ lv, kx_ok h q.2) (hS : va_S (kx_A s0 s) s.heap H locs) (hC : hp_C h0 + cells = hp_C h) (hU : hp_U h0 + slots = hp_U h) (hI : ∀ a, a < hp_X h0 → ι a = ι0 a) (hE : kx_le h0 h)
    (enter : ∀ T : State, T.heap = H → Stand p l e R s m args below meth c T locs cells slots → ∃ (vm₁ : Vm) (mk : MethodId), s.WarmedH vm₁ ∧ Stand p l e R s m args below meth c (T.setVm vm₁) locs cells slots ∧ (T.setVm vm₁).methodNamed? (kx_mn n) = some mk ∧
      ∀ target, (∀ acts, Steps p.tables e below (doInvoke e ((T.setVm vm₁).setTop (F0 m pc ls (r9.map (kx_cv ι)))) acts mk (As.map (kx_cv ι)).toArray).1 target) → Steps p.tables e below (T.setTop (F0 m pc ls st0)) target)
    (hk : kx_Sn p l e R s m args below meth c s0 D cA nL ι0 h0 rr hf (pc + 3) k) (hret : ∀ v, q.1 = .inl v → k lv (v.toList ++ r9) q.2 = some (rr, hf)) (hthr : ∀ e', q.1 = .inr e' → rr = .inr e' ∧ hf = q.2) :
    W p l e R s m args below meth c H locs cells slots (kx_Q s0 D cA below s ι0 h0 rr hf) (F0 m pc ls st0) := by
  obtain ⟨r', h'⟩ := q
  refine kx_wcallW G hg hcal.1 hcal.2.1 hcal.2.2.1 (fun rm hn h1 h2 => hCS n As h r' h' hq hfit hE.2.2.1 hE.2.2.2 rm ι hn h1 h2) hR (by have := G.2.2.2.2.2.2.2.1; have := hE.2.2.1; omega) (by have := G.2.2.2.2.2.2.2.2; have := hE.2.2.2; omega) hP hS hC hU hI hE hs1 (by have := kx_w2 ι r9; omega) hl.1 hdg enter (fun v ι' H' locs' cells' slots' e1 p1 a1 s1 c1 u1 x1 i1 l1 l2 ok1 => ?_) (fun e' he => hthr e' he) hout
  have up : ∀ v9, kx_ok h v9 → kx_ok h' v9 := fun v9 ho => by
    rcases v9 with x | x | ⟨t9, o9⟩
    · trivial
    · trivial
    · exact fun a ha => l1.2.1 a t9 (ho a ha)
  have h3 := hk lv (v.toList ++ r9) h' (hret v e1) ι' H' locs' cells' slots' ls p1 a1 (by rw [kx_lc_ext hv x1]; exact hl) (fun w hw => by
    rcases List.mem_append.mp hw with z | z
    · exact ok1 w (by cases v with
        | none => cases z
        | some y => rw [List.mem_singleton.mp z])
    · exact up w (hs2 w z)) (fun q hq => up _ (hv q hq)) s1 c1 u1 i1 l2
  rw [List.map_append, kx_st_ext hs2 x1] at h3
  have e4 : (v.map (kx_cv ι')).toList = v.toList.map (kx_cv ι') := by cases v <;> rfl
  rw [e4]
  exact h3

theorem kx_enSW {T : State} (X : Stand p l e R s m args below meth c T locs cells slots) (hexec : p.tables.exec = Jvm.exec) (hb : c.code = cc) {y : MethodName} {bytes : ByteArray} {maxL : Nat} {ret : Option FieldType}
    (hown : s.vm.findClass own = some m.cls) (hlink : (Cond.methodLink own i y).before args s = true) (hstat : (Cond.static y).before args s = true) (hinit : (Cond.initialized y.cls).before args s = true)
    {hh : List (Nat × Nat × Nat × Nat)} (hcode : (Cond.codeWith y bytes maxL ret hh).before args s = true) (hy : y.cls ≠ "java/lang/invoke/MethodHandle" ∧ y.cls ≠ "java/lang/invoke/VarHandle")
    {argsL : List Value} (hlen : (parseMethodDescriptor y.desc).map (fun d => d.parameters.length) = some argsL.length) (hdg : decode cc pc = .ok (.invokestatic i, 3)) :
    ∃ (vm₁ : Vm) (mk : MethodId), s.WarmedH vm₁ ∧ Stand p l e R s m args below meth c (T.setVm vm₁) locs cells slots ∧ (T.setVm vm₁).methodNamed? y = some mk ∧
      ∀ target, (∀ acts, Steps p.tables e below (doInvoke e ((T.setVm vm₁).setTop (F0 m pc ls rest)) acts mk argsL.toArray).1 target) → Steps p.tables e below (T.setTop (F0 m pc ls (argsL.reverse ++ rest))) target := by
  subst hb
  obtain ⟨mk, methM, cM, hnamed, hmethM, -, -, -, -, -, -, hsigM⟩ := Cond.codeWith_spec hcode
  have hstatic : methM.isStatic = true := Cond.static_spec hnamed hmethM hstat
  obtain ⟨kP, hkP, -⟩ := className_of_methodNamed hnamed
  have hinitP : kP.init = .initialized := Cond.initialized_spec (findClass_of_methodNamed hnamed) hkP hinit
  have hlen' : argsL.length = methM.sig.parameters.length := by rw [hsigM] at hlen; exact (Option.some.inj hlen).symm
  obtain ⟨vm₁, X₁, hstep₁⟩ := X.invokestatic hexec hown hlink hnamed hmethM hstatic hkP hinitP hy (g := F0 m pc ls (argsL.reverse ++ rest)) rfl (argsL := argsL) (rest := rest) hlen' rfl hdg
  exact ⟨vm₁, mk, X₁.warmed, X₁, X₁.named hnamed, fun target h => hstep₁ _ fun acts => h acts⟩

theorem kx_s_SWi (G : kx_G p e R s m args meth c s0 D cA cc own nL h0) (hg : ∀ w ∈ kx_WS, kx_kp w) {C : kx_C} {d n : Nat} (hCS : kx_cs9 l s0 D cA C d) (hR : kx_need (d + 1) R) (hout : ∀ x ∈ c.exceptionTable.toList, covers x pc = false) {bytes : ByteArray} {maxL : Nat} {ret : Option FieldType} {ps : List Nat} {hh : List (Nat × Nat × Nat × Nat)} (hcal : kx_calW n bytes maxL ret hh ps.length) (hpm : kx_pm n = ps) (h1 : Cond.methodLink own i (kx_mn n) ∈ kx_WS) (h2 : Cond.static (kx_mn n) ∈ kx_WS) (hd : decode cc pc = .ok (.invokestatic i, 3)) (hk : kx_Sn p l e R s m args below meth c s0 D cA nL ι0 h0 rr hf (pc + 3) k) : kx_Sn p l e R s m args below meth c s0 D cA nL ι0 h0 rr hf pc (kx_Si C n ps k) := by
  intro lv st h hF
  unfold kx_Si at hF
  obtain ⟨hfit, hr9, hF⟩ := kx_as_spec hF
  obtain ⟨q, hq, hret, hthr⟩ := kx_bi_spec hF
  intro ι H locs cells slots ls hP hA hl hs hv hS hC hU hI hE
  have hts := G.2.2.2.2.2.1
  have hlen : (st.take ps.length).reverse.length = ps.length := kx_fits_len hfit
  have hmap : st.map (kx_cv ι) = ((st.take ps.length).reverse.map (kx_cv ι)).reverse ++ (st.drop ps.length).map (kx_cv ι) := by
    rw [List.map_reverse, List.reverse_reverse, ← List.map_append, List.take_append_drop]
  rw [hmap]
  exact kx_coreW G hg hCS hR hout hcal (As := (st.take ps.length).reverse) (r9 := st.drop ps.length) (by rw [hpm]; exact hfit) hr9 hq hd hP hl (fun v hv9 => hs v (List.mem_of_mem_take (List.mem_reverse.mp hv9))) (fun v hv9 => hs v (List.mem_of_mem_drop hv9)) hv hS hC hU hI hE (fun T hT X => kx_enSW X G.1 G.2.1 G.2.2.1 (hts _ h1) (hts _ h2) (hts _ hcal.2.1) (hts _ hcal.1) hcal.2.2.2.1 (argsL := (st.take ps.length).reverse.map (kx_cv ι)) (by rw [List.length_map, hlen]; exact hcal.2.2.2.2) hd) hk (fun v hv => by obtain ⟨x, rfl, z⟩ := hret v hv; exact z) (fun e' he => by have z := hthr e' he; cases z; exact ⟨rfl, rfl⟩)

theorem kx_tabl {l : Launch} {p : Program} {x : MethodName} {S : Spec} {code : ByteArray} {maxLocals : Nat} {ret : Option FieldType} {e : Env} {s : State} {m : MethodId} {args : Array Value} {below : List Frame} {meth : Method} {c : Code} {s₁ : State} (B : BodyLoose p l x S code maxLocals ret e s m args below meth c s₁) {hh : List (Nat × Nat × Nat × Nat)} (h : (Cond.codeWith x code maxLocals ret hh).before args s = true) : c.exceptionTable.toList.map (fun h => (h.startPc, h.endPc, h.handlerPc, h.catchType)) = hh := by
  obtain ⟨m', meth', c', hn', hm', hc', -, -, he', -⟩ := Cond.codeWith_spec h
  cases B.named.symm.trans hn'
  cases B.method.symm.trans hm'
  cases (Stand.of_body B).code.symm.trans hc'
  exact he'
/-- a method's contract out of its walk -/
theorem kx_methW {y : MethodName} {maxL : Nat} {ret : Option FieldType} {hh : List (Nat × Nat × Nat × Nat)} (hcode : Cond.codeWith y cc maxL ret hh ∈ kx_WS) (hy : plainName y.cls = true) {ps : List Nat} (hps : kx_wd ps ≤ maxL) {F : kx_F} {As : List kx_V} (hF : F (kx_in 0 As) [] h0 = some (rr, hf)) (hfit : kx_fits ps As = true) {rm : Room}
    (hcc : kx_cc ≤ rm.cells + hp_C h0) (hcs : kx_cs ≤ rm.slots + hp_U h0) (hcap : hp_C h0 ≤ kx_cc) (hcap2 : hp_U h0 ≤ kx_cs)
    (body : ∀ (p : Program) (e : Env) (s : State) (m : MethodId) (args : Array Value) (below : List Frame) (meth : Method) (c : Code), kx_G p e rm s m args meth c s0 D cA cc y.cls maxL h0 → meth.sig.returnType = ret → meth.name = y.name → c.exceptionTable.toList.map (fun h => (h.startPc, h.endPc, h.handlerPc, h.catchType)) = hh → l.admits e → kx_Sn p l e rm s m args below meth c s0 D cA maxL ι0 h0 rr hf 0 F) : kx_Mt l s0 D cA y rm ι0 As h0 rr hf := by
  refine MetFree.of_bodyS (code := cc) (maxLocals := maxL) (ret := ret) hy ?_ ?_
  · intro args s m h hn
    obtain ⟨m9, meth, c, hn9, h1, h2, h3, h4, -, h5, h6, -⟩ := Cond.codeWith_spec (atoms_spec (ws := kx_WS) h _ hcode)
    cases hn.symm.trans hn9
    exact ⟨meth, c, h1, h2, h3, h4, h5, h6⟩
  · intro p e s m args below meth c s₁ B hml hP _
    obtain ⟨rfl, hB, hPw, hok⟩ := hP
    have hts := atoms_spec (ws := kx_WS) B.pre
    have hh0 : s₁.heap = s.heap := by rw [B.state]; rfl
    have X := Stand.of_body B
    have G : kx_G p e rm s m (As.map (kx_cv ι0)).toArray meth c s0 D cA cc y.cls maxL h0 := ⟨B.exec, B.bytes, findClass_of_methodNamed B.named, hml, B.notSynchronized, hts, hB, hcc, hcs⟩
    have hl := lv_entry (As.map (kx_cv ι0)) (n := maxL) (by rw [kx_wd_ok hfit]; exact hps)
    rw [← kx_in_lc ι0 As 0] at hl
    have hw := body p e s m _ below meth c G B.returns (name_of_methodNamed B.named B.method).1 (kx_tabl B (hts _ hcode)) B.admits _ _ _ hF ι0 s.heap [] 0 0 _ hPw (kx_PA X (by rw [hh0]; exact hPw)) hl (fun v hv => by cases hv) (kx_in_ok hok 0) va_S.rf (by omega) (by omega) (fun _ _ => rfl) ⟨Nat.le_refl _, fun _ _ z => z, hcap, hcap2⟩
    obtain ⟨t, a1, o, b1, b2, b3⟩ := hw s₁ hh0 X
    refine ⟨t, o, ?_, b1, b2, b3⟩
    rw [lg_entry_eq]
    exact a1

end KV
