theorem kx_static {A A' : Array Value} {s0 U : State} (hW : s0.WarmedH U.vm) (hh : ∀ q : Nat, q < s0.heap.size → U.heap[q]? = s0.heap[q]?) {C n d : String} (hl : (Cond.laysStatic C n d).before A s0 = true) (hini : (Cond.initialized C).before A s0 = true) (h : (Cond.isRef (.static C n d)).before A s0 = true) : (Cond.isRef (.static C n d)).before A' U = true := by
  have z := va_Zqof (A := fun q => s0.heap.size ≤ q) hl hini h (fun a ha => by omega)
  have z2 := (z.moved hW.alike).kept (H1 := U.heap) (fun a h1 h2 => hh a h1)
  rcases z2 with z3 | ⟨t, z3⟩
  · obtain ⟨cf, kf, fi, f, a, cell, h1, h2, h3, h4, h5, h6, h7, -⟩ := z3
    simp [Cond.before, Cond.holds, Cond.value, Term.eval, State.fieldNamed?, h1, h2, h4, h5, h6, h7]
  · obtain ⟨cf, kf, fi, f, a, cell, h1, h2, h3, h4, h5, h6, h7, -⟩ := z3
    simp [Cond.before, Cond.holds, Cond.value, Term.eval, State.fieldNamed?, h1, h2, h4, h5, h6, h7]
theorem kx_staticL {A A' : Array Value} {s0 U : State} (hW : s0.WarmedH U.vm) (hh : ∀ q : Nat, q < s0.heap.size → U.heap[q]? = s0.heap[q]?) {C n d : String} (hl : (Cond.laysStatic C n d).before A s0 = true) : (Cond.laysStatic C n d).before A' U = true := by
  have h1 : (Cond.laysStatic C n d).before A (s0.setVm U.vm) = true := Cond.holds_shifted (State.Shifted.of_warmed hW) _ [] rfl hl
  obtain ⟨c, k, i, f, a, cell, hc, hi, hst, ha, hcell, hs, hcls, hlt, hty⟩ := Cond.laysStatic_spec h1
  have hcell' : U.heap[a]? = some cell := by
    have z : s0.heap[a]? = some cell := hcell
    rw [hh a (Array.getElem?_eq_some_iff.mp z).1]
    exact z
  have hc' : U.vm.findClass C = some c := hc
  have hi' : U.fieldFound? C n d = some (c, k, i, f) := hi
  simp [Cond.before, Cond.holds, Cond.value, hc', hi', hst, ha, hcell', hs, hcls, hlt, hty]
/-- the exceptions' words: of a class that makes one, its constructor's place there -/
def kx_ta (own : String) (ic e : Nat) : List Cond := Bundle.ownAtoms own ic (kx_en e) ["java/lang/RuntimeException", "java/lang/Exception"]
def kx_sr (n d : String) : Cond := .isRef (.static Bundle.tN n d)
def kx_T0 (s0 : State) : Prop := ∀ q ∈ kx_ths, ∃ A, ∀ w ∈ kx_ta q.1 q.2.1 q.2.2, w.before A s0 = true
theorem kx_ta_ok {own : String} {ic e : Nat} (hq : (own, ic, e) ∈ kx_ths) : ∀ w ∈ kx_ta own ic e, kx_kb w = true ∨ w = kx_sr "UNASSIGNED_STACK" Bundle.steD ∨ w = kx_sr "SUPPRESSED_SENTINEL" Bundle.listD ∨ w = .laysStatic Bundle.tN "UNASSIGNED_STACK" Bundle.steD ∨ w = .laysStatic Bundle.tN "SUPPRESSED_SENTINEL" Bundle.listD := by
  have h : ∀ q ∈ kx_ths, ∀ w ∈ kx_ta q.1 q.2.1 q.2.2, kx_kb w = true ∨ w = kx_sr "UNASSIGNED_STACK" Bundle.steD ∨ w = kx_sr "SUPPRESSED_SENTINEL" Bundle.listD ∨ w = .laysStatic Bundle.tN "UNASSIGNED_STACK" Bundle.steD ∨ w = .laysStatic Bundle.tN "SUPPRESSED_SENTINEL" Bundle.listD := by decide +kernel
  exact h _ hq
theorem kx_ta_at {s0 U : State} (hT : kx_T0 s0) (hW : s0.WarmedH U.vm) (hh : ∀ q : Nat, q < s0.heap.size → U.heap[q]? = s0.heap[q]?) {own : String} {ic e : Nat} (hq : (own, ic, e) ∈ kx_ths) (A' : Array Value) : ∀ w ∈ kx_ta own ic e, w.before A' U = true := by
  intro w hw
  obtain ⟨A, hA⟩ := hT _ hq
  rcases kx_ta_ok hq w hw with h | h | h | h | h
  · exact kx_kb_ok h A A' s0 U hW (hA w hw)
  · subst h
    exact kx_static hW hh (hA (.laysStatic Bundle.tN "UNASSIGNED_STACK" Bundle.steD) (by simp [kx_ta, Bundle.ownAtoms, Bundle.throwableAtoms])) (hA (.initialized Bundle.tN) (by simp [kx_ta, Bundle.ownAtoms, Bundle.throwableAtoms])) (hA _ hw)
  · subst h
    exact kx_static hW hh (hA (.laysStatic Bundle.tN "SUPPRESSED_SENTINEL" Bundle.listD) (by simp [kx_ta, Bundle.ownAtoms, Bundle.throwableAtoms])) (hA (.initialized Bundle.tN) (by simp [kx_ta, Bundle.ownAtoms, Bundle.throwableAtoms])) (hA _ hw)
  · subst h
    exact kx_staticL hW hh (hA _ hw)
  · subst h
    exact kx_staticL hW hh (hA _ hw)
section KR
variable {p : Program} {l : Launch} {e : Env} {R : Room} {s : State} {m : MethodId} {args : Array Value} {below : List Frame} {meth : Method} {c : Code} {H : Heap} {locs : List Loc} {cells slots : Nat} {Q : State → Prop}
variable {s0 : State} {D : va_G} {cA : Nat → ClassId} {cc : ByteArray} {own : String} {nL : Nat} {ι ι0 : Nat → Nat} {h h0 hf : kx_H} {rr : kx_R} {pc : Nat} {k : kx_F} {ls : Array Slot} {rest : List Value} {a t i : Nat} {r : vw_C}
/-- the walk, as if its method began here -/
theorem kx_rebase {T : State} (X : Stand p l e R s m args below meth c T locs cells slots) (hc : cells ≤ R.cells) (hs : slots ≤ R.slots) :
    Stand p l e { frames := R.frames, cells := R.cells - cells, slots := R.slots - slots, locals := R.locals } (T.setFrames (.invoking m args :: below)) m args below meth c T [] 0 0 := by
  obtain ⟨g₀, hfr⟩ := X.frames_eq
  have hcur := State.cur_lt_of_frames hfr
  obtain ⟨th, hth, -⟩ := State.frames_cons hfr
  have hf : (T.setFrames (.invoking m args :: below)).frames = .invoking m args :: below := State.frames_setFrames _ hcur
  have hm : (T.setFrames (.invoking m args :: below)).vm.method? m = some meth := X.method'
  refine ⟨X.admits, X.cas, X.clock, hf, ?_, ?_, hm, X.code, X.here, X.tail, State.WarmedH.refl _, ?_, ?_, ?_⟩
  · have h1 := X.room
    simp only [State.hasRoom, Bool.and_eq_true, decide_eq_true_eq] at h1 ⊢
    rw [State.localsInUse_invoking hf hm X.code, State.stackLimits_setFrames, State.stackBytes_setFrames, hf, X.limits, X.bytes]
    rw [State.localsInUse_invoking X.frames X.method X.code, X.frames] at h1
    have h2 := X.heapSize
    have h3 := X.used
    refine ⟨⟨⟨h1.1.1.1, ?_⟩, ?_⟩, X.book⟩
    · have h4 := h1.1.1.2
      show T.heap.size + (R.cells - cells) ≤ _
      omega
    · have h4 := h1.1.2
      show T.slotsUsed + (R.slots - slots) ≤ _
      omega
  · have h1 := X.hears
    unfold State.hears at h1 ⊢
    have hal := X.warmed.alike
    cases below with
    | nil =>
      simp only at h1 ⊢
      rw [hm]
      rw [X.method] at h1
      exact h1
    | cons f r =>
      cases f <;> simp only at h1 ⊢ <;> first
        | exact h1
        | (rw [hm]; rw [X.method] at h1; exact h1)
        | (rw [State.code?_eq] at h1 ⊢; show ((T.vm.method? _).bind _ |>.bind _).isSome = true; rw [hal.method?]; exact h1)
  · rw [State.stackLimits_setFrames]
  · rw [State.stackBytes_setFrames]
  · refine ⟨?_, Nat.le_refl _, Nat.le_refl _, ?_, ?_, fun a c hc => ⟨c, hc, rfl, rfl, fun _ _ => rfl⟩⟩
    · show T = { (T.setFrames (.invoking m args :: below)).setFrames T.frames with heap := T.heap, slotsUsed := T.slotsUsed }
      rw [State.setFrames_setFrames, State.setFrames_self hth]
    · show T.slotsUsed = T.slotsUsed + ((T.heap.toList.drop T.heap.size).map (·.slots.size)).sum
      rw [List.drop_of_length_le (by simp)]
      rfl
    · show ((T.heap.toList.drop T.heap.size).map (·.slots.size)).sum ≤ 0
      rw [List.drop_of_length_le (by simp)]
      exact Nat.le_refl _
end KR
