/-- a word that stays -/
def kx_kp (w : Cond) : Prop := ∀ (A A' : Array Value) (u U : State), u.WarmedH U.vm → w.before A u = true → w.before A' U = true
theorem kx_kb_ok {w : Cond} (h : kx_kb w = true) : kx_kp w := by
  intro A A' u U hW hw
  unfold kx_kb at h
  split at h
  · exact va_Nw.use rfl (va_Nw.warmM hW (va_Nw.of rfl hw))
  · exact va_Nw.use rfl (va_Nw.warmF hW (va_Nw.of rfl hw))
  · exact va_Nw.use rfl (va_Nw.warmC hW (va_Nw.of rfl hw))
  · exact va_AO.use (va_AO.moved hW.alike (va_AO.of hw))
  · exact word_at hW (Or.inr ⟨_, rfl⟩) hw
  · exact va_Nw.use rfl (va_Nw.warmD hW (va_Nw.of rfl hw))
  · rename_i own i tx
    have hown : ∃ cur, u.vm.findClass own = some cur := by
      have h1 := hw
      simp only [Cond.before, Cond.holds, Cond.value] at h1
      cases hc : u.vm.findClass own with
      | none => simp [hc] at h1
      | some cur => exact ⟨cur, rfl⟩
    obtain ⟨cur, hown⟩ := hown
    obtain ⟨k, cf, j, a', -, -, -, -, -, hev⟩ := Cond.stringRef_spec hown hw
    exact (vk_R.warm hW (vk_R.of hw hev)).1
  · exact word_at hW (Or.inl h) hw
theorem kx_good : ∀ w ∈ kx_WS, kx_kp w := fun w hw => kx_kb_ok (List.mem_filter.mp hw).2
section KE
variable {p : Program} {l : Launch} {e : Env} {R : Room} {s : State} {m : MethodId} {args : Array Value} {below : List Frame} {meth : Method} {c : Code} {H : Heap} {locs : List Loc} {cells slots : Nat} {Q : State → Prop}
variable {s0 : State} {D : va_G} {cA : Nat → ClassId} {cc : ByteArray} {own : String} {nL : Nat} {ι ι0 : Nat → Nat} {h h0 hf : kx_H} {rr : kx_R} {pc : Nat} {k : kx_F} {ls : Array Slot} {rest : List Value} {a t i : Nat} {r : vw_C}
theorem kx_mono {Q' : State → Prop} {g : JFrame} (hq : ∀ t, Q t → Q' t) (kk : W p l e R s m args below meth c H locs cells slots Q g) : W p l e R s m args below meth c H locs cells slots Q' g := by
  intro T hT X
  obtain ⟨t, a, b⟩ := kk T hT X
  exact ⟨t, a, hq t b⟩
theorem kx_fin {v : Option kx_V} (hB : s0.heap.size ≤ s.heap.size) (hP : kx_P s0 D cA ι hf H) (hS : va_S (kx_A s0 s) s.heap H locs) (hC : hp_C h0 + cells = hp_C hf) (hU : hp_U h0 + slots = hp_U hf) (hI : ∀ a, a < hp_X h0 → ι a = ι0 a) (hE : kx_le h0 hf) (hok : ∀ x, v = some x → kx_ok hf x) :
    ∀ t, MQ below (fun _ _ o t => o = .returned (v.map (kx_cv ι)) ∧ t.heap = H) args s cells slots (kx_A s0 s) t → kx_Q s0 D cA below s ι0 h0 (.inl v) hf t := by
  rintro t ⟨o, h1, h2, ⟨h3, h4⟩, L, ⟨-, h6, h7⟩, h8⟩
  refine ⟨o, h1, h2, ι, L, cells, slots, hI, by rw [h4]; exact hP, ⟨h3, hok⟩, h6, h7, h8, fun q hq => ?_, hC, hU, hE⟩
  rw [h4]
  exact hS.2.1 q (Nat.lt_of_lt_of_le hq hB) (fun z => absurd z.1 (by omega))
theorem kx_s_return (G : kx_G p e R s m args meth c s0 D cA cc own nL h0) (hr : meth.sig.returnType = none) (hd : decode cc pc = .ok (.return_, 1)) : kx_Sn p l e R s m args below meth c s0 D cA nL ι0 h0 rr hf pc kx_rv := by
  intro lv st h hF
  unfold kx_rv at hF
  split at hF
  · cases hF
    intro ι H locs cells slots ls hP hA hl hs hv hS hC hU hI hE
    have hlocks : meth.locks = false := G.2.2.2.2.1
    exact kx_mono (kx_fin (v := none) G.2.2.2.2.2.2.1.2.2.2.1 hP hS hC hU hI hE (fun x hx => by cases hx)) (W.vret G.1 G.2.1 hr (fun t ht _ => ⟨rfl, ht⟩) hS.2.2 hd hlocks)
  · cases hF
theorem kx_s_ireturn (G : kx_G p e R s m args meth c s0 D cA cc own nL h0) (hr : meth.sig.returnType = some .int) (hd : decode cc pc = .ok (.ireturn, 1)) : kx_Sn p l e R s m args below meth c s0 D cA nL ι0 h0 rr hf pc kx_ri := by
  intro lv st h hF
  unfold kx_ri at hF
  split at hF
  · rename_i x
    cases hF
    intro ι H locs cells slots ls hP hA hl hs hv hS hC hU hI hE
    have hlocks : meth.locks = false := G.2.2.2.2.1
    exact kx_mono (kx_fin (v := some (.inl x)) G.2.2.2.2.2.2.1.2.2.2.1 hP hS hC hU hI hE (fun y hy => by cases hy; trivial)) (W.iret G.1 G.2.1 hr (fun t ht _ => ⟨rfl, ht⟩) hS.2.2 hd hlocks)
  · cases hF
theorem kx_s_zreturn (G : kx_G p e R s m args meth c s0 D cA cc own nL h0) (hr : meth.sig.returnType = some .boolean) (hd : decode cc pc = .ok (.ireturn, 1)) : kx_Sn p l e R s m args below meth c s0 D cA nL ι0 h0 rr hf pc kx_rz := by
  intro lv st h hF
  unfold kx_rz at hF
  split at hF
  · rename_i x
    split at hF
    · rename_i hx01
      cases hF
      intro ι H locs cells slots ls hP hA hl hs hv hS hC hU hI hE
      have hlocks : meth.locks = false := G.2.2.2.2.1
      exact kx_mono (kx_fin (v := some (.inl x)) G.2.2.2.2.2.2.1.2.2.2.1 hP hS hC hU hI hE (fun y hy => by cases hy; trivial)) (W.zret G.1 G.2.1 hr (by rcases hx01 with rfl | rfl <;> decide) (fun t ht _ => ⟨rfl, ht⟩) hS.2.2 hd hlocks)
    · cases hF
  · cases hF
theorem kx_s_lreturn (G : kx_G p e R s m args meth c s0 D cA cc own nL h0) (hr : meth.sig.returnType = some .long) (hd : decode cc pc = .ok (.lreturn, 1)) : kx_Sn p l e R s m args below meth c s0 D cA nL ι0 h0 rr hf pc kx_rl := by
  intro lv st h hF
  unfold kx_rl at hF
  split at hF
  · rename_i x
    cases hF
    intro ι H locs cells slots ls hP hA hl hs hv hS hC hU hI hE
    have hlocks : meth.locks = false := G.2.2.2.2.1
    exact kx_mono (kx_fin (v := some (.inr (.inl x))) G.2.2.2.2.2.2.1.2.2.2.1 hP hS hC hU hI hE (fun y hy => by cases hy; trivial)) (W.lret G.1 G.2.1 hr (fun t ht _ => ⟨rfl, ht⟩) hS.2.2 hd hlocks)
  · cases hF
theorem kx_s_areturn (G : kx_G p e R s m args meth c s0 D cA cc own nL h0) {n9 : String} (hr : meth.sig.returnType = some (.object n9)) (hd : decode cc pc = .ok (.areturn, 1)) : kx_Sn p l e R s m args below meth c s0 D cA nL ι0 h0 rr hf pc kx_rr := by
  intro lv st h hF
  unfold kx_rr at hF
  split at hF
  · rename_i x
    cases hF
    intro ι H locs cells slots ls hP hA hl hs hv hS hC hU hI hE
    have hlocks : meth.locks = false := G.2.2.2.2.1
    exact kx_mono (kx_fin (v := some (.inr (.inr x))) G.2.2.2.2.2.2.1.2.2.2.1 hP hS hC hU hI hE (fun y hy => by cases hy; exact kx_okh hs)) (W.aret G.1 G.2.1 hr (Or.inl ⟨_, rfl⟩) (by obtain ⟨t9, o9⟩ := x; cases o9; exact Or.inl rfl; exact Or.inr ⟨_, rfl⟩) (fun t ht _ => ⟨rfl, ht⟩) hS.2.2 hd hlocks)
  · cases hF
theorem kx_w2 (ι : Nat → Nat) (st : List kx_V) : ((st.map (kx_cv ι)).map fun v => v.category).sum ≤ 2 * st.length := by
  induction st with
  | nil => exact Nat.le_refl _
  | cons v r ih =>
    simp only [List.map_cons, List.sum_cons, List.length_cons]
    rcases lv_cat (kx_cv ι v) with z | z <;> omega
theorem kx_w8 {st : List kx_V} {g : JFrame} (hg : st.length ≤ 8) (hR : 40 ≤ R.locals) (h0 : g.monitorRoom = 0) : 2 * g.monitorRoom + ((st.map (kx_cv ι)).map fun v => v.category).sum + 12 ≤ R.locals := by
  have := kx_w2 ι st
  omega
theorem kx_s_obj (G : kx_G p e R s m args meth c s0 D cA cc own nL h0) (h1 : Cond.methodLink own i objectInit ∈ kx_WS) (h2 : Cond.instanceMethod objectInit ∈ kx_WS) (h3 : Cond.code objectInit ⟨#[0xb1]⟩ 1 none ∈ kx_WS) (hR1 : 1 ≤ R.frames) (hR2 : 40 ≤ R.locals) (hd : decode cc pc = .ok (.invokespecial i, 3)) (hk : kx_Sn p l e R s m args below meth c s0 D cA nL ι0 h0 rr hf (pc + 3) k) : kx_Sn p l e R s m args below meth c s0 D cA nL ι0 h0 rr hf pc (kx_obj k) := by
  intro lv st h hF
  unfold kx_obj at hF
  split at hF
  · rename_i x r9
    obtain ⟨t9, o9⟩ := x
    cases hr9 : Nat.ble r9.length 8 with
    | false => rw [hr9] at hF; cases hF
    | true =>
     rw [hr9] at hF
     cases o9 with
     | none => cases hF
     | some a =>
      intro ι H locs cells slots ls hP hA hl hs hv hS hC hU hI hE
      refine W.objInit G.1 G.2.1 G.2.2.1 (G.2.2.2.2.2.1 _ h1) (G.2.2.2.2.2.1 _ h2) (G.2.2.2.2.2.1 _ h3) rfl (by rw [G.2.2.2.1]; exact hl.1) (a := ι a) (rest := r9.map (kx_cv ι)) rfl hd hR1 ?_ (hk _ _ _ hF ι H locs cells slots ls hP hA hl (kx_okt hs) hv hS hC hU hI hE)
      exact kx_w8 (Nat.le_of_ble_eq_true hr9) hR2 rfl
  · cases hF
theorem kx_S_of {T : State} (X : Stand p l e R s m args below meth c T locs cells slots) {A : Nat → Prop} (hL : ∀ q ∈ locs, A q.base) : va_S A s.heap T.heap locs := by
  obtain ⟨-, z1, -, -, -, z6⟩ := X.same
  refine ⟨z1, fun q h1 h2 => ?_, hL⟩
  have hc : s.heap[q]? = some s.heap[q] := Array.getElem?_eq_getElem h1
  obtain ⟨c', g1, g2, g3, g4⟩ := z6 q _ hc
  have g1' : T.heap[q]? = some c' := g1
  rw [g1', hc]
  congr 1
  have e1 : c'.slots = (s.heap[q]).slots := Array.ext_getElem? fun i => g4 i (fun hm => h2 (hL _ hm))
  refine g2.trans ?_
  rw [e1]
theorem kx_A_of {T : State} (X : Stand p l e R s m args below meth c T locs cells slots) {q : Nat} (h1 : s0.heap.size ≤ q) (h2 : ∀ cell : Cell, T.heap[q]? = some cell → cell.vm.isStatics = false) : kx_A s0 s q := by
  refine ⟨h1, fun c0 hc0 => ?_⟩
  obtain ⟨c', g1, g2, -⟩ := X.same.2.2.2.2.2 q c0 hc0
  have e1 : c'.vm = c0.vm := by rw [g2]
  rw [← e1]
  exact h2 c' g1
theorem kx_P_ns (hP : kx_P s0 D cA ι h H) (ha : hp_T h a = some t) (ht : t ≠ 98) : s0.heap.size ≤ ι a ∧ ∃ cell : Cell, H[ι a]? = some cell ∧ cell.vm.isStatics = false := by
  obtain ⟨-, -, g3, g4⟩ := hP.1 a t ha
  rcases Nat.lt_trichotomy t 98 with z | z | z
  · obtain ⟨x0, r, -, cell, q1, -, q3, -⟩ := g3 z
    exact ⟨x0, cell, q1, by rw [q3]; rfl⟩
  · exact absurd z ht
  · exact ⟨(g4 z).1, _, (g4 z).2, rfl⟩
theorem kx_PA {T : State} (X : Stand p l e R s m args below meth c T locs cells slots) (hP : kx_P s0 D cA ι h T.heap) : ∀ a t, hp_T h a = some t → t ≠ 98 → kx_A s0 s (ι a) := by
  intro a t ha ht
  obtain ⟨x0, cell, q1, q2⟩ := kx_P_ns hP ha ht
  exact kx_A_of X x0 (fun c9 h9 => by cases q1.symm.trans h9; exact q2)
def kx_need (d : Nat) (rm : Room) : Prop := d + 1 ≤ rm.frames ∧ 32 * d + 100 ≤ rm.locals
/-- a method's contract: this run of it -/
def kx_Mt (l : Launch) (s0 : State) (D : va_G) (cA : Nat → ClassId) (y : MethodName) (rm : Room) (ι0 : Nat → Nat) (As : List kx_V) (h0 : kx_H) (rr : kx_R) (hf : kx_H) : Prop :=
  MetFree l y (headSpec kx_WS rm) (fun a U => a = (As.map (kx_cv ι0)).toArray ∧ kx_B s0 D cA U ∧ kx_P s0 D cA ι0 h0 U.heap ∧ ∀ v ∈ As, kx_ok h0 v) (fun _ _ _ _ _ => True) (fun _ st o t => kx_E s0 D cA ι0 h0 rr hf st o t)
theorem kx_BU (hB : kx_B s0 D cA s) {U : State} (hW : s.WarmedH U.vm) (hS : va_S (kx_A s0 s) s.heap U.heap locs) : kx_B s0 D cA U := by
  obtain ⟨b1, b2, b3, b4, b5⟩ := hB
  refine ⟨State.WarmedH.trans b1 hW, va_K.moved hW.alike b2, b3, Nat.le_trans b4 hS.1, fun q hq => ?_⟩
  rw [hS.2.1 q (Nat.lt_of_lt_of_le hq b4) (fun z => absurd z.1 (by omega))]
  exact b5 q hq
theorem kx_wcall (G : kx_G p e R s m args meth c s0 D cA cc own nL h0) (hg : ∀ w ∈ kx_WS, kx_kp w) {y : MethodName} {bytes : ByteArray} {maxL : Nat} {ret : Option FieldType} (hcode : Cond.code y bytes maxL ret ∈ kx_WS) (hini : Cond.initialized y.cls ∈ kx_WS) (hmax : maxL ≤ 13) {d : Nat} {As : List kx_V} {r' : kx_R} {h' : kx_H}
    (hM : ∀ rm, kx_need d rm → kx_cc ≤ rm.cells + hp_C h → kx_cs ≤ rm.slots + hp_U h → kx_Mt l s0 D cA y rm ι As h r' h') (hR : kx_need (d + 1) R)
    (hcell : cells ≤ R.cells) (hslot : slots ≤ R.slots)
    (hP : kx_P s0 D cA ι h H) (hS : va_S (kx_A s0 s) s.heap H locs) (hC : hp_C h0 + cells = hp_C h) (hU : hp_U h0 + slots = hp_U h) (hI : ∀ a, a < hp_X h0 → ι a = ι0 a) (hE : kx_le h0 h) (hAs : ∀ v ∈ As, kx_ok h v)
    (hw8 : (rest.map fun v => v.category).sum ≤ 8) (hls : ls.size = nL) {st0 : List Value} {ig : Instr} (hdg : decode cc pc = .ok (ig, 3))
    (enter : ∀ T : State, T.heap = H → Stand p l e R s m args below meth c T locs cells slots → ∃ (vm₁ : Vm) (mk : MethodId), s.WarmedH vm₁ ∧ Stand p l e R s m args below meth c (T.setVm vm₁) locs cells slots ∧ (T.setVm vm₁).methodNamed? y = some mk ∧
      ∀ target, (∀ acts, Steps p.tables e below (doInvoke e ((T.setVm vm₁).setTop (F0 m pc ls rest)) acts mk (As.map (kx_cv ι)).toArray).1 target) → Steps p.tables e below (T.setTop (F0 m pc ls st0)) target)
    (kret : ∀ (v : Option kx_V) (ι' : Nat → Nat) (H' : Heap) (locs' : List Loc) (cells' slots' : Nat), r' = .inl v → kx_P s0 D cA ι' h' H' → (∀ a t, hp_T h' a = some t → t ≠ 98 → kx_A s0 s (ι' a)) → va_S (kx_A s0 s) s.heap H' locs' → hp_C h0 + cells' = hp_C h' → hp_U h0 + slots' = hp_U h' → (∀ a t, hp_T h a = some t → ι' a = ι a) → (∀ a, a < hp_X h0 → ι' a = ι0 a) → kx_le h h' → kx_le h0 h' → (∀ x, v = some x → kx_ok h' x) →
      W p l e R s m args below meth c H' locs' cells' slots' (kx_Q s0 D cA below s ι0 h0 rr hf) (F0 m (pc + 3) ls ((v.map (kx_cv ι')).toList ++ rest)))
    (kthr : ∀ e', r' = .inr e' → rr = .inr e' ∧ hf = h') (hout : ∀ x ∈ c.exceptionTable.toList, covers x pc = false) :
    W p l e R s m args below meth c H locs cells slots (kx_Q s0 D cA below s ι0 h0 rr hf) (F0 m pc ls st0) := by
  intro T hT X
  obtain ⟨vm₁, mk, hW₁, X₁, hn, hgo⟩ := enter T hT X
  obtain ⟨hx, hb, hown, hml, hlocks, hts, hB, hcc, hcs⟩ := id G
  have hU1 : (T.setVm vm₁).heap = H := hT
  generalize hUe : T.setVm vm₁ = U at hn X₁ hgo hU1
  have hWU : s.WarmedH U.vm := by rw [← hUe]; exact hW₁
  have hSU : va_S (kx_A s0 s) s.heap U.heap locs := by rw [hU1]; exact hS
  have hBU := kx_BU hB hWU hSU
  have hM1 := hM { frames := R.frames - 1, cells := R.cells - cells, slots := R.slots - slots, locals := R.locals - (19 + maxL) } ⟨by have := hR.1; show d + 1 ≤ R.frames - 1; omega, by have := hR.2; show 32 * d + 100 ≤ R.locals - (19 + maxL); omega⟩ (by show kx_cc ≤ R.cells - cells + hp_C h; omega) (by show kx_cs ≤ R.slots - slots + hp_U h; omega)
  generalize hrm : ({ frames := R.frames - 1, cells := R.cells - cells, slots := R.slots - slots, locals := R.locals - (19 + maxL) } : Room) = rm at hM1
  have hpre : ∀ w ∈ kx_WS, w.before (As.map (kx_cv ι)).toArray U = true := fun w hw => hg w hw args _ s U hWU (hts w hw)
  have hat : At U (F0 m pc ls rest).method c below := X₁.here
  obtain ⟨methY, cY, hmY, hcY, -, hlY, -, -, -, -⟩ := Cond.code_spec hn (hpre _ hcode)
  obtain ⟨kY, hkY, -⟩ := className_of_methodNamed hn
  have hinitY : kY.init = .initialized := Cond.initialized_spec (findClass_of_methodNamed hn) hkY (hpre _ hini)
  have hdg' : decode c.code (F0 m pc ls rest).pc = .ok (ig, 3) := by rw [hb]; exact hdg
  have happ : (headSpec kx_WS rm).appliesLoose y e.platform (U.calling (F0 m pc ls rest) mk (As.map (kx_cv ι)).toArray) = true :=
    Spec.appliesLoose_calling (g := F0 m pc ls rest) hat hdg' hn hkY hinitY
      (X₁.room_calling (g := F0 m pc ls rest) (R' := rm) (by show ls.size = _; rw [hls, hml]) hmY hcY (by rw [← hrm]; have := hR.1; show R.frames - 1 + 1 ≤ R.frames; omega) (by rw [hlY, ← hrm]; have := hR.2; show 2 * 0 + (rest.map fun v => v.category).sum + (maxL + 11) + (R.locals - (19 + maxL)) ≤ R.locals; omega) (by rw [← hrm]; show cells + (R.cells - cells) ≤ R.cells; omega) (by rw [← hrm]; show slots + (R.slots - slots) ≤ R.slots; omega)) (atoms_intro hpre)
  obtain ⟨mid, hmid⟩ := hat.above
  have hfr : (U.setTop (F0 m pc ls rest)).frames = (.java (F0 m pc ls rest) :: mid) ++ below := by rw [State.frames_setTop' _ hat.top, hmid]; rfl
  have hPc : (U.calling (F0 m pc ls rest) mk (As.map (kx_cv ι)).toArray).heap = H := hU1
  obtain ⟨o, s₂, hsteps, -, hend, hq⟩ := Steps.callFree hM1 p X₁.admits X₁.cas X₁.clock (acts := []) hfr happ ⟨rfl, ⟨hBU.1, va_K.moved (Vm.Alike.refl U.vm) hBU.2.1, hBU.2.2.1, hBU.2.2.2.1, hBU.2.2.2.2⟩, (by show kx_P s0 D cA ι h U.heap; rw [hU1]; exact hP), hAs⟩ trivial
  rw [State.frames_setTop' _ hat.top] at hend
  have hq' : kx_E s0 D cA ι h r' h' (U.calling (F0 m pc ls rest) mk (As.map (kx_cv ι)).toArray) o s₂ := hq
  obtain ⟨ι', L, kn, nn, i1, p1, o1, w1, sm1, l1, f1, c1, u1, e1⟩ := hq'
  obtain ⟨g₀, hg0⟩ := Option.isSome_iff_exists.mp hat.top
  obtain ⟨r0, hr0⟩ := State.topJava?_eq_some.mp hg0
  obtain ⟨e2, q2, q3, q4, q5, q6⟩ := id sm1
  have e3 : s₂ = ({ (U.calling (F0 m pc ls rest) mk (As.map (kx_cv ι)).toArray).setFrames s₂.frames with heap := s₂.heap, slotsUsed := s₂.slotsUsed } : State).setVm s₂.vm := by
    have z : s₂ = ({ s₂ with vm := (U.calling (F0 m pc ls rest) mk (As.map (kx_cv ι)).toArray).vm } : State).setVm s₂.vm := rfl
    rw [e2] at z
    exact z
  have hW' : U.WarmedH s₂.vm := w1
  have hsame : U.sameButNew ({ U with heap := s₂.heap, slotsUsed := s₂.slotsUsed } : State) L kn nn := by
    refine ⟨?_, q2, q3, q4, q5, q6⟩
    obtain ⟨t, ht, -⟩ := State.frames_cons hr0
    show ({ U with heap := s₂.heap, slotsUsed := s₂.slotsUsed } : State) = { U.setFrames U.frames with heap := s₂.heap, slotsUsed := s₂.slotsUsed }
    rw [State.setFrames_self ht]
  have XV : Stand p l e R s m args below meth c (({ U with heap := s₂.heap, slotsUsed := s₂.slotsUsed } : State).setVm s₂.vm) (locs ++ L) (cells + kn) (slots + nn) :=
    ⟨X₁.admits, X₁.cas, X₁.clock, X₁.frames, X₁.room, X₁.hears, X₁.method, X₁.code, (X₁.here.setHeapUsed s₂.heap s₂.slotsUsed).setVm hW'.alike, X₁.tail, State.WarmedH.trans X₁.warmed hW', X₁.limits, X₁.bytes, X₁.same.trans (hsame.setVm s.vm)⟩
  have hLs : ∀ q ∈ locs ++ L, kx_A s0 s q.base := by
    intro q hq
    rcases List.mem_append.mp hq with h1 | h1
    · exact hS.2.2 q h1
    · have h2 := l1 q h1
      exact kx_A_of X₁ h2.1 (fun cell hcell => h2.2 cell hcell)
  have hSV : va_S (kx_A s0 s) s.heap s₂.heap (locs ++ L) := kx_S_of XV hLs
  have hIx : ∀ a t, hp_T h a = some t → ι' a = ι a := fun a t ha => i1 a ((hP.1 a t ha).1)
  have hI' : ∀ a, a < hp_X h0 → ι' a = ι0 a := fun a ha => (i1 a (Nat.lt_of_lt_of_le ha hE.1)).trans (hI a ha)
  have hE' : kx_le h0 h' := ⟨Nat.le_trans hE.1 e1.1, fun a t ha => e1.2.1 a t (hE.2.1 a t ha), e1.2.2⟩
  cases o with
  | returned v0 =>
    cases r' with
    | inr e' => obtain ⟨x, cell, z, -⟩ := o1; cases z
    | inl v =>
      obtain ⟨hv0, hok⟩ := o1
      have hv0 : v0 = v.map (kx_cv ι') := Outcome.returned.inj hv0
      subst hv0
      obtain ⟨c₂, i₂, len₂, hc₂, hd₂, hf₂⟩ := hend
      have hcc2 : c₂ = c := by
        have z : s₂.code? m = U.code? m := by rw [State.code?_eq, State.code?_eq, hW'.alike.method?]
        exact Option.some.inj (hc₂.symm.trans (z.trans hat.code))
      subst hcc2
      have hlen : len₂ = 3 := by rw [hdg'] at hd₂; cases hd₂; rfl
      subst hlen
      have hs₂ : s₂ = (({ U with heap := s₂.heap, slotsUsed := s₂.slotsUsed } : State).setVm s₂.vm).setTop (F0 m (pc + 3) ls ((v.map (kx_cv ι')).toList ++ rest)) := by
        have hr' : (({ U with heap := s₂.heap, slotsUsed := s₂.slotsUsed } : State).setVm s₂.vm).frames = .java g₀ :: r0 := hr0
        refine e3.trans ?_
        rw [hf₂, State.calling_eq hat.top, State.setFrames_setFrames, State.setTop_of_frames _ hr', hr0]
        rfl
      obtain ⟨t, a1, b1⟩ := kret v ι' s₂.heap (locs ++ L) (cells + kn) (slots + nn) rfl p1 (kx_PA XV p1) hSV (by omega) (by omega) hIx hI' e1 hE' hok (({ U with heap := s₂.heap, slotsUsed := s₂.slotsUsed } : State).setVm s₂.vm) rfl XV
      exact ⟨t, hgo _ (fun acts => by rw [doInvoke_state]; exact hsteps.trans (by rw [hs₂]; exact a1)), b1⟩
  | threw x =>
    cases r' with
    | inl v => obtain ⟨z, -⟩ := o1; cases z
    | inr e' =>
      obtain ⟨rfl, rfl⟩ := kthr e' rfl
      have hf₂ : s₂.frames = .throwing x :: .java (F0 m pc ls rest) :: U.frames.tail := hend
      have hs₂ : s₂ = ((({ U with heap := s₂.heap, slotsUsed := s₂.slotsUsed } : State).setVm s₂.vm).setTop (F0 m pc ls rest)).pushFrame (.throwing x) := by
        have hr' : (({ U with heap := s₂.heap, slotsUsed := s₂.slotsUsed } : State).setVm s₂.vm).frames = .java g₀ :: r0 := hr0
        refine e3.trans ?_
        rw [hf₂, State.calling_eq hat.top, State.setFrames_setFrames, State.pushFrame, State.frames_setTop _ hr', State.setTop_of_frames _ hr', State.setFrames_setFrames, hr0]
        rfl
      obtain ⟨z1, z2, z3, z4, z5⟩ := XV.leaveThrown x (g := F0 m pc ls rest) rfl rfl rfl hout hlocks
      refine ⟨_, hgo _ (fun acts => by rw [doInvoke_state]; exact hsteps.trans (by rw [hs₂]; exact z1)), .threw x, z2, z3, ι', locs ++ L, cells + kn, slots + nn, hI', p1, o1, z4, z5, hLs, fun q hq => hSV.2.1 q (Nat.lt_of_lt_of_le hq hB.2.2.2.1) (fun z => absurd z.1 (by omega)), by omega, by omega, hE'⟩
end KE
