/-! the law's start, its end, and the claim out of it -/
def kx_h0 (L : Nat) (xs : Nat → Int32) : kx_H := (fun b => if b = 0 then some 98 else none, fun b j => if b = 0 then xs j else 0, fun _ _ => 0, fun _ _ => none, fun _ _ => false, fun b => if b = 0 then L else 0, 1, 0, 0)
/-- what the law's function answers of a script -/
def kx_goodL (L : Nat) (xs : Nat → Int32) : Prop := ∃ hf, kx_ex (bl_m 9 (kx_ev kx_M 9)) kx_fuel 0 (kx_in 0 [kx_r 98 (some 0)]) [] (kx_h0 L xs) = some (.inl (some (.inl 1)), hf)
theorem kx_lay {s : State} {args : Array Value} (hts : ∀ w ∈ kx_WS, w.before args s = true) {C : String} {T : u_T} {N n : Nat} (hin : ∀ w ∈ u_ws C T N, w ∈ kx_WS) (hi : Cond.instantiable C n ∈ kx_WS) (ty : Nat → FieldType) (hty : ∀ k, k < N → parseFieldDescriptor (T k).2.2.1 = some (ty k)) (hnm : ∀ a, a < N → ∀ b, b < N → a ≠ b → (T a).2.1 ≠ (T b).2.1) :
    ∃ (cC : ClassId) (iS : Nat → Nat), u_Kn s C T N cC iS ∧ ∀ x y, x < N → y < N → x ≠ y → iS x ≠ iS y := by
  obtain ⟨cC, iS, h⟩ := u_known hts hin (hts _ hi)
  refine ⟨cC, iS, h, ?_⟩
  intro x y hx hy hne
  obtain ⟨hS, -⟩ := h
  obtain ⟨_, _, _, fa, hia, ea⟩ := hS x hx
  obtain ⟨_, _, _, fb, hib, eb⟩ := hS y hy
  rw [← ea, ← eb]
  refine u_apart (u_lays hts hin hx) (u_lays hts hin hy) hia hib ?_
  rw [(State.fieldFound?_type hia (hty x hx)).1, (State.fieldFound?_type hib (hty y hy)).1]
  exact hnm x hx y hy hne
theorem kx_arr1 {s : State} {args : Array Value} {ty : FieldType} (h : (Cond.arrayClass ty).before args s = true) (hn : ∀ C, ty ≠ .object C) : ∃ cA : ClassId, ArrOfT s cA ty ∧ va_RA s cA ty := by
  obtain ⟨c, k, comp, h1, h2, h3⟩ := Cond.arrayClass_spec h
  refine ⟨c, fun n z => ⟨fun k h => (by cases h), k, h2, comp, h3⟩, ?_⟩
  cases ty with
  | object C => exact absurd rfl (hn C)
  | _ => exact h1
theorem kx_arr2 {s : State} {args : Array Value} {C : String} (h : (Cond.arrayOver (.object C)).before args s = true) : ∃ cA : ClassId, ArrOfT s cA (.object C) ∧ va_RA s cA (.object C) := by
  obtain ⟨comp, c, k, h1, h2, h3, h4, h5⟩ := Cond.arrayOver_spec h
  exact ⟨c, fun n z => ⟨fun k h => (by cases h), k, h3, comp, h4⟩, k, comp, h3, h4, h1, h5⟩

theorem kx_tab {s : State} {args : Array Value} (hts : ∀ w ∈ kx_WS, w.before args s = true) : ∃ (D : va_G) (cA : Nat → ClassId), va_K D kx_cl (kx_tys cA) s ∧ kx_ap D := by
  obtain ⟨c0, i0, q0, z0⟩ := kx_lay hts (C := kr_0.1) (T := kr_0.2.1) (N := kr_0.2.2) ki_0 kw_98 kt_y0 ky_0 (by decide +kernel)
  obtain ⟨c1, i1, q1, z1⟩ := kx_lay hts (C := kr_1.1) (T := kr_1.2.1) (N := kr_1.2.2) ki_1 kw_130 kt_y1 ky_1 (by decide +kernel)
  obtain ⟨c2, i2, q2, z2⟩ := kx_lay hts (C := kr_2.1) (T := kr_2.2.1) (N := kr_2.2.2) ki_2 kw_167 kt_y2 ky_2 (by decide +kernel)
  obtain ⟨c3, i3, q3, z3⟩ := kx_lay hts (C := kr_3.1) (T := kr_3.2.1) (N := kr_3.2.2) ki_3 kw_302 kt_y3 ky_3 (by decide +kernel)
  obtain ⟨c4, i4, q4, z4⟩ := kx_lay hts (C := kr_4.1) (T := kr_4.2.1) (N := kr_4.2.2) ki_4 kw_215 kt_y4 ky_4 (by decide +kernel)
  obtain ⟨c5, i5, q5, z5⟩ := kx_lay hts (C := kr_5.1) (T := kr_5.2.1) (N := kr_5.2.2) ki_5 kw_108 kt_y5 ky_5 (by decide +kernel)
  obtain ⟨c6, i6, q6, z6⟩ := kx_lay hts (C := kr_6.1) (T := kr_6.2.1) (N := kr_6.2.2) ki_6 kw_256 kt_y6 ky_6 (by decide +kernel)
  obtain ⟨c7, i7, q7, z7⟩ := kx_lay hts (C := kr_7.1) (T := kr_7.2.1) (N := kr_7.2.2) ki_7 kw_136 kt_y7 ky_7 (by decide +kernel)
  obtain ⟨c8, i8, q8, z8⟩ := kx_lay hts (C := kr_8.1) (T := kr_8.2.1) (N := kr_8.2.2) ki_8 kw_334 kt_y8 ky_8 (by decide +kernel)
  obtain ⟨c9, i9, q9, z9⟩ := kx_lay hts (C := kr_9.1) (T := kr_9.2.1) (N := kr_9.2.2) ki_9 kw_925 kt_y9 ky_9 (by decide +kernel)
  obtain ⟨a99, r99⟩ := kx_arr1 (hts _ kw_1058) (by intro C h; cases h)
  obtain ⟨a100, r100⟩ := kx_arr1 (hts _ kw_1059) (by intro C h; cases h)
  obtain ⟨a101, r101⟩ := kx_arr1 (hts _ kw_1057) (by intro C h; cases h)
  obtain ⟨a102, r102⟩ := kx_arr2 (hts _ kw_106)
  obtain ⟨a103, r103⟩ := kx_arr2 (hts _ kw_166)
  obtain ⟨a104, r104⟩ := kx_arr2 (hts _ kw_212)
  obtain ⟨a105, r105⟩ := kx_arr2 (hts _ kw_214)
  refine ⟨((fun t => match t with | 0 => c0 | 1 => c1 | 2 => c2 | 3 => c3 | 4 => c4 | 5 => c5 | 6 => c6 | 7 => c7 | 8 => c8 | _ => c9), (fun t => match t with | 0 => i0 | 1 => i1 | 2 => i2 | 3 => i3 | 4 => i4 | 5 => i5 | 6 => i6 | 7 => i7 | 8 => i8 | _ => i9)), (fun t => match t with | 99 => a99 | 100 => a100 | 101 => a101 | 102 => a102 | 103 => a103 | 104 => a104 | _ => a105), ⟨?_, ?_⟩, ?_⟩
  · intro c q hq
    rcases c with _ | c
    · cases hq; exact q0
    rcases c with _ | c
    · cases hq; exact q1
    rcases c with _ | c
    · cases hq; exact q2
    rcases c with _ | c
    · cases hq; exact q3
    rcases c with _ | c
    · cases hq; exact q4
    rcases c with _ | c
    · cases hq; exact q5
    rcases c with _ | c
    · cases hq; exact q6
    rcases c with _ | c
    · cases hq; exact q7
    rcases c with _ | c
    · cases hq; exact q8
    rcases c with _ | c
    · cases hq; exact q9
    · cases hq
  · intro k q hq
    rcases k with _ | k
    · cases hq; exact r99
    rcases k with _ | k
    · cases hq; exact r100
    rcases k with _ | k
    · cases hq; exact r101
    rcases k with _ | k
    · cases hq; exact r102
    rcases k with _ | k
    · cases hq; exact r103
    rcases k with _ | k
    · cases hq; exact r104
    rcases k with _ | k
    · cases hq; exact r105
    · cases hq
  · intro t r hr
    rcases t with _ | t
    · cases hr; exact z0
    rcases t with _ | t
    · cases hr; exact z1
    rcases t with _ | t
    · cases hr; exact z2
    rcases t with _ | t
    · cases hr; exact z3
    rcases t with _ | t
    · cases hr; exact z4
    rcases t with _ | t
    · cases hr; exact z5
    rcases t with _ | t
    · cases hr; exact z6
    rcases t with _ | t
    · cases hr; exact z7
    rcases t with _ | t
    · cases hr; exact z8
    rcases t with _ | t
    · cases hr; exact z9
    · cases hr
def R_law : String := "TaskDeskLaw"
def lw_P (b : Addr) (xs : List Int32) (args : Array Value) (s : State) : Prop := args = #[.ref b] ∧ s.IntsAt b xs ∧ xs.length ≤ 2560 ∧ (Jvm.Cond.and given_1 narrow_1).before args s = true
def lw_Q (_ : Array Value) (s : State) (o : Outcome) (t : State) : Prop := o = .returned (some (.int 1)) ∧ Framed s o t [] 601024 7293034
def lw_Z (below : List Frame) (a : Array Value) (s : State) : State → Prop := fun t => ∃ o, t.status = .running ∧ Ended t below o ∧ lw_Q a s o t
theorem kx_end {s0 : State} {D : va_G} {cA : Nat → ClassId} {below : List Frame} {s : State} {ι0 : Nat → Nat} {h0 hf : kx_H} {a : Array Value} (hs : s0 = s) (hC0 : hp_C h0 = 0) (hU0 : hp_U h0 = 0) {t : State} (h : kx_Q s0 D cA below s ι0 h0 (.inl (some (.inl 1))) hf t) : lw_Z below a s t := by
  subst hs
  obtain ⟨o, h1, h2, ι, L, k, n, e1, e2, e3, e4, e5, e6, e7, e8, e9, e10⟩ := h
  refine ⟨o, h1, h2, e3.1, ⟨_, e3.1⟩, e4, ?_⟩
  have hk : k ≤ 601024 := by have := e10.2.2.1; unfold kx_cc at this; omega
  have hn : n ≤ 7293034 := by have := e10.2.2.2; unfold kx_cs at this; omega
  obtain ⟨f1, f2, f3, f4, f5, f6⟩ := State.sameButNew.mono e5 hk hn
  refine ⟨f1, f2, f3, f4, f5, ?_⟩
  intro q c hq
  have hlt : q < s0.heap.size := (Array.getElem?_eq_some_iff.mp hq).1
  refine ⟨c, (e7 q hlt).trans hq, rfl, rfl, fun _ _ => rfl⟩
/-- what holds at the law's entry -/
def lw_At (p : Program) (l : Launch) (s : State) (m : MethodId) (meth : Method) (c : Code) (b L : Nat) (xs : Nat → Int32) : Prop :=
  p.tables.exec = Jvm.exec ∧ c.code = code ∧ meth.sig.returnType = ret ∧ c.maxLocals = 8 ∧ s.vm.findClass R_law = some m.cls ∧ (∀ w ∈ lw_tbl, w.before #[Value.ref b] s = true) ∧ va_X b L xs s s.heap ∧ b < s.heap.size ∧ meth.locks = false ∧ (Jvm.Cond.and given_1 narrow_1).before #[Value.ref b] s = true ∧ l.flags = pinnedFlags ++ [noTraceFlag] ∧ c.exceptionTable.isEmpty = true ∧ meth.name = "law"
theorem kx_t0_of {s : State} {args : Array Value} (hts : ∀ w ∈ lw_tbl, w.before args s = true) (hg : (Jvm.Cond.and given_1 narrow_1).before args s = true) : kx_T0 s := by
  have hq := flat_of_before _ hg
  intro q hq9
  refine ⟨args, fun w hw => ?_⟩
  have h : ∀ q ∈ kx_ths, ∀ w ∈ kx_ta q.1 q.2.1 q.2.2, w ∈ lw_tbl ∨ w = kx_sr "UNASSIGNED_STACK" Bundle.steD ∨ w = kx_sr "SUPPRESSED_SENTINEL" Bundle.listD := by decide +kernel
  rcases h q hq9 w hw with h1 | h1 | h1
  · exact hts w h1
  · subst h1; exact hq _ (by decide +kernel)
  · subst h1; exact hq _ (by decide +kernel)
theorem kx_nc_of {s : State} {args : Array Value} (hg : (Jvm.Cond.and given_1 narrow_1).before args s = true) : kx_NC s := by
  have hq := flat_of_before _ hg
  intro a b ha hb hne
  have h : ∀ a, a < 4 → ∀ b, b < 4 → a ≠ b → Cond.not (.castable (kx_en a) (kx_en b)) ∈ flatC (Jvm.Cond.and given_1 narrow_1) := by decide +kernel
  exact va_Nc.of (hq _ (h a ha b hb hne))
theorem kx_start_P {s : State} {D : va_G} {cA : Nat → ClassId} {b L : Nat} {xs : Nat → Int32} (hX : va_X b L xs s s.heap) (hb : b < s.heap.size) : kx_P s D cA (fun _ => b) (kx_h0 L xs) s.heap := by
  have hT : ∀ a t, hp_T (kx_h0 L xs) a = some t → a = 0 ∧ t = 98 := by
    intro a t h
    have h' : (if a = 0 then some 98 else none) = some t := h
    split at h'
    · rename_i h0
      exact ⟨h0, (Option.some.inj h').symm⟩
    · cases h'
  refine ⟨fun a t h => ?_, fun a b t u h1 h2 _ => ?_, fun a t k b h1 h2 => ?_, fun a t k b h1 h2 => ?_⟩
  · obtain ⟨rfl, rfl⟩ := hT a t h
    exact ⟨Nat.zero_lt_one, fun _ => ⟨hX, hb⟩, fun h => absurd h (by decide), fun h => absurd h (by decide)⟩
  · rw [(hT a t h1).1, (hT b u h2).1]
  · rw [(hT a t h1).2] at h2; exact absurd h2 (by decide)
  · rw [(hT a t h1).2] at h2; exact absurd h2 (by decide)
theorem whole_start (hgood : ∀ (L : Nat) (xs : Nat → Int32), L ≤ 2560 → kx_goodL L xs) {p : Program} {e : Env} {s : State} {m : MethodId} {below : List Frame} {meth : Method} {c : Code} (l : Launch) {b L : Nat} {xs : Nat → Int32} (hL : L ≤ 2560) (C0 : lw_At p l s m meth c b L xs) : W p l e room_1 s m #[Value.ref b] below meth c s.heap [] 0 0 (lw_Z below #[Value.ref b] s) (entryFrame m ([Value.ref b] : List Value).toArray 8) := by
  obtain ⟨hx, hcode, hret, hml, hown, hts, hX, hb, hlk, hgv, hfl, hne, hnm⟩ := C0
  have hws : ∀ w ∈ kx_WS, w.before #[Value.ref b] s = true := fun w hw => hts w (List.mem_filter.mp hw).1
  obtain ⟨D, cA, hK, hap⟩ := kx_tab hws
  obtain ⟨hf, hgo⟩ := hgood L xs hL
  have hB : kx_B s D cA s := ⟨State.WarmedH.refl _, hK, hap, Nat.le_refl _, fun _ _ => rfl⟩
  have G : kx_G p e room_1 s m #[Value.ref b] meth c s D cA code "TaskDeskLaw" 8 (kx_h0 L xs) := ⟨hx, hcode, hown, hml, hlk, hws, hB, Nat.le_of_ble_eq_true rfl, Nat.le_of_ble_eq_true rfl⟩
  have hT := kx_t0_of hts hgv
  have hN := kx_nc_of hgv
  have CS := kx_all (l := l) (D := D) (cA := cA) hT hN hfl 9
  have hP := kx_start_P (D := D) (cA := cA) hX hb
  have key := kx_loop (p := p) (l := l) (e := e) (R := room_1) (s := s) (m := m) (args := #[Value.ref b]) (below := below) (meth := meth) (c := c) (s0 := s) (D := D) (cA := cA) (nL := 8) (ι0 := fun _ => b) (h0 := kx_h0 L xs) (rr := .inl (some (.inl 1))) (hf := hf) (B := bl_m 9 (kx_ev kx_M 9)) (fun J hJ b9 => sl_m ⟨G, CS, ⟨by decide, by decide⟩, kx_noexc hne, hret, hnm, hT, hfl, hJ⟩ b9) kx_fuel 0
  have hl := lv_entry ([Value.ref b] : List Value) (n := 8) (Nat.le_of_ble_eq_true rfl)
  have hw := key _ _ _ hgo (fun _ => b) s.heap [] 0 0 _ hP (fun a t h1 h2 => by
      exfalso
      have h' : (if a = 0 then some 98 else none) = some t := h1
      split at h'
      · exact h2 (Option.some.inj h').symm
      · cases h') hl (fun v hv => by cases hv) (fun q hq => by
      rcases List.mem_cons.mp hq with rfl | hq
      · intro a ha
        cases ha
        rfl
      · cases hq) va_S.rf rfl rfl (fun _ _ => rfl) ⟨Nat.le_refl _, fun _ _ z => z, Nat.le_of_ble_eq_true rfl, Nat.le_of_ble_eq_true rfl⟩
  rw [lg_entry_eq]
  intro T hT1 X
  obtain ⟨t, a1, a2⟩ := hw T hT1 X
  exact ⟨t, a1, kx_end rfl rfl rfl a2⟩

set_option maxHeartbeats 4000000 in
theorem lw_walk (hgood : ∀ (L : Nat) (xs : Nat → Int32), L ≤ 2560 → kx_goodL L xs) (l : Launch) (hfl : l.flags = pinnedFlags ++ [noTraceFlag]) (b : Addr) (xs : List Int32) : MetFree l x (headSpec (Jvm.Cond.code x code maxLocals ret :: tables_1) room_1) (lw_P b xs) (fun _ _ _ _ _ => True) lw_Q := by
  refine MetFree.of_bodyS (code := code) (maxLocals := maxLocals) (ret := ret) (by decide) ?_ ?_
  · intro args s m h hn
    obtain ⟨meth, c, h1, h2, h3, h4, h5, h6, -, -⟩ := Cond.code_spec hn (atoms_spec (ws := Jvm.Cond.code x code maxLocals ret :: tables_1) h _ List.mem_cons_self)
    exact ⟨meth, c, h1, h2, h3, h4, h5, h6⟩
  · intro p e s m args below meth c s₁ B hml0 hP _
    obtain ⟨rfl, hx, hbd, hgv⟩ := hP
    obtain ⟨scr, harrAt, hlist, hof, hsmall⟩ := hx
    obtain ⟨hcb, hkn, -, -⟩ := State.arrayAt?_spec harrAt
    have hown : s.vm.findClass R_law = some m.cls := findClass_of_methodNamed B.named
    have hts0 : ∀ c ∈ (Jvm.Cond.code x code maxLocals ret :: tables_1), c.before #[Value.ref b] s = true := atoms_spec (ws := Jvm.Cond.code x code maxLocals ret :: tables_1) B.pre
    have hts : ∀ w ∈ lw_tbl, w.before #[Value.ref b] s = true := k2_hts_sels lw_privs (fun w hw => hts0 w (List.mem_cons_of_mem _ hw)) lw_privs_ok
    have hml : c.maxLocals = 8 := B.maxLocals_eq (hts0 _ List.mem_cons_self)
    have X₀ : Stand p l e room_1 s m #[Value.ref b] below meth c s₁ [] 0 0 := Stand.of_body B
    have hh0 : s₁.heap = s.heap := by rw [B.state]; rfl
    have hsz : scr.slots.size = xs.length := by rw [← Array.length_toList, hlist, List.length_map]
    have hval : ∀ j : Nat, j < xs.length → scr.slots[j]? = some (.int (xs.getD j 0)) := fun j hj => by
      rw [← Array.getElem?_toList, hlist]
      simp [hj]
    have hbl : b < s.heap.size := (Array.getElem?_eq_some_iff.mp hcb).1
    have hX : va_X b xs.length (fun j => xs.getD j 0) s s.heap := ⟨scr, hcb, hof, hkn, hsz, hval⟩
    have K : W p l e room_1 s m #[Value.ref b] below meth c s₁.heap [] 0 0 (lw_Z below #[Value.ref b] s) (entryFrame m ([Value.ref b] : List Value).toArray 8) := by
      rw [hh0]
      exact whole_start hgood l hbd ⟨B.exec, B.bytes, B.returns, hml, hown, hts, hX, hbl, B.notSynchronized, hgv, hfl, B.noHandlers (hts0 _ List.mem_cons_self), (name_of_methodNamed B.named B.method).1⟩
    obtain ⟨t, a1, o, b1, b2, b3⟩ := K s₁ rfl X₀
    exact ⟨t, o, a1, b1, b2, b3⟩
theorem lw_pre_spec {args : Array Value} {s : State} (h : (Jvm.Cond.and given_1 narrow_1).before args s = true) (hr : rest_1_c.before args s = true) : ∃ (b : Addr) (xs : List Int32), lw_P b xs args s := by
  have hs := flat_of_before _ h
  have hq := flat_of_before _ hr
  have hc : (Cond.count 1).before args s = true := hs _ (by decide +kernel)
  have harr : (Cond.arrayOf (.arg 0) .int).before args s = true := hs _ (by decide +kernel)
  have hle : (Cond.le (.length (.arg 0)) (.int 2560)).before args s = true := hs _ (by decide +kernel)
  have hlen : (Cond.isInt (.length (.arg 0))).before args s = true := hq _ (by decide +kernel)
  have hall : (Cond.all (.arg 0) (.isInt (.elem (.arg 0) (.index 0)))).before args s = true := hq _ (by decide +kernel)
  obtain ⟨b, xs, hb, hx⟩ := State.ints_of_pre rfl harr hlen hall
  have hsm : xs.length < 2 ^ 31 := hx.choose_spec.2.2.2
  have hev : (Term.length (.arg 0)).eval args s none [] s = some (.int xs.length.toInt32) := hx.length_eval hb
  have hv := Cond.le_ints hev (show (Term.int 2560).eval args s none [] s = some (.int 2560) from rfl)
  have hd : xs.length.toInt32 ≤ 2560 := by
    simpa [Cond.before, Cond.holds, hv] using hle
  have hN : xs.length ≤ 2560 := (Int32.ofNat_le_ofNat hsm (by decide)).mp (show Int32.ofNat xs.length ≤ Int32.ofNat 2560 from hd)
  exact ⟨b, xs, Cond.one_arg hc (show args[0]? = some (.ref b) from hb), hx, hN, h⟩
theorem lw_comes (hgood : ∀ (L : Nat) (xs : Nat → Int32), L ≤ 2560 → kx_goodL L xs) (l : Launch) (hfl : l.flags = pinnedFlags ++ [noTraceFlag]) : Comes l x (Jvm.Cond.code x code maxLocals ret :: tables_1) room_1 (fun tb e args s => Calls_1 tb e args s ∧ rest_1 tb e args s ∧ Pre_1 tb e args s)
    (fun _ _ args s o t => lw_Q args s o t) := by
  intro p e ha hc hk s m args below hf hfit hheap happ hpre
  obtain ⟨b, xs, hP⟩ := lw_pre_spec hpre.2.2 hpre.2.1
  obtain ⟨k, o, h1, h2, h3, hQ⟩ := lw_walk hgood l hfl b xs p e ha hc hk s m args below hf ((Spec.applies_iff_loose hf).mp happ).1 hP trivial
  exact ⟨k, o, h1, h2, h3, hQ⟩
theorem lw_frame {s t : State} {o : Outcome} {args : Array Value} (h : Framed s o t [] 601024 7293034) :
    Framed s o t (fieldLocs frame_1_writes args s ++ arrayLocs frame_1_arrays args s ++ staticLocs frame_1_statics s) 601024 7293034 := h
theorem lw_limb (hgood : ∀ (L : Nat) (xs : Nat → Int32), L ≤ 2560 → kx_goodL L xs) (L : Cond) (hL : ∀ (args : Array Value) (s t : State), L.after args s (.returned (some (.int 1))) t = true) :
    ArmFor flags0 classFile x code maxLocals ret World_1 tables_1 room_1 Calls_1 rest_1 Pre_1
      (fun tb e a s o t => postC L tb e a s o t ∧ Framed s o t (fieldLocs frame_1_writes a s ++ arrayLocs frame_1_arrays a s ++ staticLocs frame_1_statics s) 601024 7293034) := by
  intro l hfl _ _ p e ha hc hk s m args below hf hfit hheap happ hpre
  obtain ⟨k, o, h1, h2, h3, rfl, hF⟩ := lw_comes hgood l hfl p e ha hc hk s m args below hf hfit hheap happ hpre
  exact ⟨k, _, h1, h2, h3, hL args s _, lw_frame hF⟩
