/-! The world of a walk: the cells by their numbers, at addresses that ι names. -/
def kx_cv (ι : Nat → Nat) (v : kx_V) : Value := match v with
  | .inl x => .int x
  | .inr (.inl x) => .long x
  | .inr (.inr r) => va_rf (r.2.map ι)
def kx_val (ι : Nat → Nat) (h : kx_H) (a kd k : Nat) : Value := match kd with
  | 0 => .int (hp_I h a k)
  | 1 => .long (hp_L h a k)
  | 2 => va_rf ((hp_R h a k).map ι)
  | _ => .int (kx_b (hp_B h a k))
def kx_ok (h : kx_H) (v : kx_V) : Prop := match v with
  | .inr (.inr x) => ∀ a, x.2 = some a → hp_T h a = some x.1
  | _ => True
def kx_lc (ι : Nat → Nat) (lv : kx_L) : List (Nat × Value) := lv.map fun q => (q.1, kx_cv ι q.2)
/-- the script (98), an object (below), an array (above) -/
def kx_at (s0 : State) (D : va_G) (cA : Nat → ClassId) (ι : Nat → Nat) (h : kx_H) (H : Heap) (a t : Nat) : Prop :=
  (t = 98 → va_X (ι a) (hp_N h a) (hp_I h a) s0 H ∧ ι a < s0.heap.size) ∧
  (t < 98 → s0.heap.size ≤ ι a ∧ ∃ r : vw_C, kx_cl[t]? = some r ∧ t_OB (ι a) (D.1 t) r.2.2 (D.2 t) H (fun k => kx_val ι h a (kx_ft t k).1 k)) ∧
  (98 < t → s0.heap.size ≤ ι a ∧ H[ι a]? = some (arrV (cA t) (hp_N h a) (fun i => kx_val ι h a (kx_ak t).1 i)))
def kx_P (s0 : State) (D : va_G) (cA : Nat → ClassId) (ι : Nat → Nat) (h : kx_H) (H : Heap) : Prop :=
  (∀ a t, hp_T h a = some t → a < hp_X h ∧ kx_at s0 D cA ι h H a t) ∧
  (∀ a b t u, hp_T h a = some t → hp_T h b = some u → ι a = ι b → a = b) ∧
  (∀ a t k b, hp_T h a = some t → t < 98 → (kx_ft t k).1 = 2 → hp_R h a k = some b → hp_T h b = some (kx_ft t k).2) ∧
  (∀ a t k b, hp_T h a = some t → 98 < t → (kx_ak t).1 = 2 → hp_R h a k = some b → hp_T h b = some (kx_ak t).2)
/-- which old cells a method may write -/
def kx_A (s0 s : State) : Nat → Prop := fun q => s0.heap.size ≤ q ∧ ∀ cell : Cell, s.heap[q]? = some cell → cell.vm.isStatics = false
def kx_le (h0 h : kx_H) : Prop := hp_X h0 ≤ hp_X h ∧ (∀ a t, hp_T h0 a = some t → hp_T h a = some t) ∧ hp_C h ≤ kx_cc ∧ hp_U h ≤ kx_cs
def kx_out (ι : Nat → Nat) (hf : kx_H) (rr : kx_R) (o : Outcome) (t : State) : Prop := match rr with
  | .inl v => o = .returned (v.map (kx_cv ι)) ∧ ∀ x, v = some x → kx_ok hf x
  | .inr e => ∃ (x : Addr) (cell : Cell), o = .threw x ∧ t.heap[x]? = some cell ∧ cell.vm.isStatics = false ∧ cell.vm ≠ .unknown ∧ t.vm.findClass (kx_en e) = some cell.cls
/-- a method's end -/
def kx_E (s0 : State) (D : va_G) (cA : Nat → ClassId) (ι0 : Nat → Nat) (h0 : kx_H) (rr : kx_R) (hf : kx_H) (st : State) (o : Outcome) (t : State) : Prop :=
  ∃ (ι : Nat → Nat) (L : List Loc) (k n : Nat), (∀ a, a < hp_X h0 → ι a = ι0 a) ∧ kx_P s0 D cA ι hf t.heap ∧ kx_out ι hf rr o t ∧ st.WarmedH t.vm ∧ st.sameButNew ({ t with vm := st.vm } : State) L k n ∧ (∀ q ∈ L, kx_A s0 st q.base) ∧
    (∀ q : Nat, q < s0.heap.size → t.heap[q]? = st.heap[q]?) ∧ hp_C h0 + k = hp_C hf ∧ hp_U h0 + n = hp_U hf ∧ kx_le h0 hf
def kx_Q (s0 : State) (D : va_G) (cA : Nat → ClassId) (below : List Frame) (s : State) (ι0 : Nat → Nat) (h0 : kx_H) (rr : kx_R) (hf : kx_H) : State → Prop := fun t =>
  ∃ o, t.status = .running ∧ Ended t below o ∧ kx_E s0 D cA ι0 h0 rr hf s o t
/-- the slots of a class are apart -/
def kx_ap (D : va_G) : Prop := ∀ (t : Nat) (r : vw_C), kx_cl[t]? = some r → ∀ x y, x < r.2.2 → y < r.2.2 → x ≠ y → D.2 t x ≠ D.2 t y
/-- what holds of the tables at every state of a run -/
def kx_B (s0 : State) (D : va_G) (cA : Nat → ClassId) (U : State) : Prop := s0.WarmedH U.vm ∧ va_K D kx_cl (kx_tys cA) U ∧ kx_ap D ∧ s0.heap.size ≤ U.heap.size ∧ ∀ q : Nat, q < s0.heap.size → U.heap[q]? = s0.heap[q]?
def kx_G (p : Program) (e : Env) (R : Room) (s : State) (m : MethodId) (args : Array Value) (meth : Method) (c : Code) (s0 : State) (D : va_G) (cA : Nat → ClassId) (cc : ByteArray) (own : String) (nL : Nat) (h0 : kx_H) : Prop :=
  p.tables.exec = Jvm.exec ∧ c.code = cc ∧ s.vm.findClass own = some m.cls ∧ c.maxLocals = nL ∧ meth.locks = false ∧ (∀ w ∈ kx_WS, w.before args s = true) ∧ kx_B s0 D cA s ∧ kx_cc ≤ R.cells + hp_C h0 ∧ kx_cs ≤ R.slots + hp_U h0
def kx_Sm (p : Program) (l : Launch) (e : Env) (R : Room) (s : State) (m : MethodId) (args : Array Value) (below : List Frame) (meth : Method) (c : Code) (s0 : State) (D : va_G) (cA : Nat → ClassId) (nL : Nat) (ι0 : Nat → Nat) (h0 : kx_H) (rr : kx_R) (hf : kx_H) (pc : Nat) (lv : kx_L) (st : List kx_V) (h : kx_H) : Prop :=
  ∀ (ι : Nat → Nat) (H : Heap) (locs : List Loc) (cells slots : Nat) (ls : Array Slot),
    kx_P s0 D cA ι h H → (∀ a t, hp_T h a = some t → t ≠ 98 → kx_A s0 s (ι a)) → lv_has ls nL (kx_lc ι lv) → (∀ v ∈ st, kx_ok h v) → (∀ q ∈ lv, kx_ok h q.2) → va_S (kx_A s0 s) s.heap H locs →
    hp_C h0 + cells = hp_C h → hp_U h0 + slots = hp_U h → (∀ a, a < hp_X h0 → ι a = ι0 a) → kx_le h0 h →
    W p l e R s m args below meth c H locs cells slots (kx_Q s0 D cA below s ι0 h0 rr hf) (F0 m pc ls (st.map (kx_cv ι)))
def kx_Sn (p : Program) (l : Launch) (e : Env) (R : Room) (s : State) (m : MethodId) (args : Array Value) (below : List Frame) (meth : Method) (c : Code) (s0 : State) (D : va_G) (cA : Nat → ClassId) (nL : Nat) (ι0 : Nat → Nat) (h0 : kx_H) (rr : kx_R) (hf : kx_H) (pc : Nat) (F : kx_F) : Prop :=
  ∀ lv st h, F lv st h = some (rr, hf) → kx_Sm p l e R s m args below meth c s0 D cA nL ι0 h0 rr hf pc lv st h
theorem kx_get_mem {lv : kx_L} {i : Nat} {v : kx_V} (h : kx_get lv i = some v) : (i, v) ∈ lv := by
  induction lv with
  | nil => cases h
  | cons q r ih =>
    unfold kx_get at h
    cases hq : Nat.beq q.1 i with
    | true =>
      rw [hq] at h
      have h1 : q.2 = v := Option.some.inj h
      have h2 : q.1 = i := Nat.eq_of_beq_eq_true hq
      rw [← h1, ← h2]
      exact List.mem_cons_self
    | false =>
      rw [hq] at h
      exact List.mem_cons_of_mem _ (ih h)
theorem kx_get_at {ι : Nat → Nat} {ls : Array Slot} {nL : Nat} {lv : kx_L} {i : Nat} {v : kx_V} (hl : lv_has ls nL (kx_lc ι lv)) (h : kx_get lv i = some v) : ls[i]? = some (.val (kx_cv ι v)) :=
  hl.2.2 (i, kx_cv ι v) (List.mem_map.mpr ⟨(i, v), kx_get_mem h, rfl⟩)
theorem kx_cv_cat (ι : Nat → Nat) (v : kx_V) : ((kx_cv ι v).category == 2) = kx_two v := by
  rcases v with x | x | ⟨t, o⟩
  · rfl
  · rfl
  · cases o <;> rfl
theorem kx_put1_lc (ι : Nat → Nat) (lv : kx_L) (i : Nat) (v : kx_V) : (i, kx_cv ι v) :: (kx_lc ι lv).filter (fun q => !(q.1 == i) && !(q.1 + 1 == i && q.2.category == 2)) = kx_lc ι (kx_put1 lv i v) := by
  unfold kx_put1 kx_lc
  rw [List.map_cons, List.filter_map]
  congr 2
  apply List.filter_congr
  intro q _
  simp only [Function.comp, kx_cv_cat]
theorem kx_put2_lc (ι : Nat → Nat) (lv : kx_L) (i : Nat) (v : kx_V) : (i, kx_cv ι v) :: (kx_lc ι lv).filter (fun q => !(q.1 == i) && (!(q.1 == i + 1) && !(q.1 + 1 == i && q.2.category == 2))) = kx_lc ι (kx_put2 lv i v) := by
  unfold kx_put2 kx_lc
  rw [List.map_cons, List.filter_map]
  congr 2
  apply List.filter_congr
  intro q _
  simp only [Function.comp, kx_cv_cat]
theorem kx_put1_ok {h : kx_H} {lv : kx_L} {i : Nat} {v : kx_V} (hv : ∀ q ∈ lv, kx_ok h q.2) (h1 : kx_ok h v) : ∀ q ∈ kx_put1 lv i v, kx_ok h q.2 := by
  intro q hq
  rcases List.mem_cons.mp hq with rfl | hq
  · exact h1
  · exact hv q (List.mem_filter.mp hq).1
theorem kx_put2_ok {h : kx_H} {lv : kx_L} {i : Nat} {v : kx_V} (hv : ∀ q ∈ lv, kx_ok h q.2) (h1 : kx_ok h v) : ∀ q ∈ kx_put2 lv i v, kx_ok h q.2 := by
  intro q hq
  rcases List.mem_cons.mp hq with rfl | hq
  · exact h1
  · exact hv q (List.mem_filter.mp hq).1
theorem kx_pick_ok {lv l' : kx_L} {is : List Nat} (h : kx_pick lv is = some l') : ∀ q ∈ l', q ∈ lv := by
  induction is generalizing l' with
  | nil =>
    unfold kx_pick at h
    cases h
    intro q hq
    cases hq
  | cons i r ih =>
    unfold kx_pick at h
    cases hv : kx_get lv i with
    | none => rw [hv] at h; cases h
    | some v =>
      cases ht : kx_pick lv r with
      | none => rw [hv, ht] at h; cases h
      | some t =>
        rw [hv, ht] at h
        cases h
        intro q hq
        rcases List.mem_cons.mp hq with rfl | hq
        · exact kx_get_mem hv
        · exact ih ht q hq
theorem kx_lc_sub {ι : Nat → Nat} {ls : Array Slot} {nL : Nat} {lv l' : kx_L} (h : lv_has ls nL (kx_lc ι lv)) (hs : ∀ q ∈ l', q ∈ lv) : lv_has ls nL (kx_lc ι l') := by
  refine ⟨h.1, h.2.1, fun q hq => ?_⟩
  obtain ⟨x, hx, rfl⟩ := List.mem_map.mp hq
  exact h.2.2 _ (List.mem_map.mpr ⟨x, hs x hx, rfl⟩)
theorem kx_ok2 {h : kx_H} {v : kx_V} {st : List kx_V} (h1 : kx_ok h v) (h2 : ∀ v ∈ st, kx_ok h v) : ∀ w ∈ v :: st, kx_ok h w := by
  intro w hw
  rcases List.mem_cons.mp hw with rfl | hw
  · exact h1
  · exact h2 w hw
theorem kx_okt {h : kx_H} {v : kx_V} {st : List kx_V} (h2 : ∀ w ∈ v :: st, kx_ok h w) : ∀ w ∈ st, kx_ok h w := fun w hw => h2 w (List.mem_cons_of_mem _ hw)
theorem kx_okh {h : kx_H} {v : kx_V} {st : List kx_V} (h2 : ∀ w ∈ v :: st, kx_ok h w) : kx_ok h v := h2 v List.mem_cons_self
section KS
variable {p : Program} {l : Launch} {e : Env} {R : Room} {s : State} {m : MethodId} {args : Array Value} {below : List Frame} {meth : Method} {c : Code}
variable {s0 : State} {D : va_G} {cA : Nat → ClassId} {cc : ByteArray} {own : String} {nL : Nat} {ι0 : Nat → Nat} {h0 hf : kx_H} {rr : kx_R} {pc : Nat} {k : kx_F}
theorem kx_s_c {v : kx_V} {n : Nat} {x : Value} (step : ∀ {H : Heap} {locs : List Loc} {cells slots : Nat} {Q : State → Prop} {ls : Array Slot} {rest : List Value}, W p l e R s m args below meth c H locs cells slots Q (F0 m (pc + n) ls (x :: rest)) → W p l e R s m args below meth c H locs cells slots Q (F0 m pc ls rest)) (hx : ∀ ι, kx_cv ι v = x) (ho : ∀ h, kx_ok h v) (hk : kx_Sn p l e R s m args below meth c s0 D cA nL ι0 h0 rr hf (pc + n) k) : kx_Sn p l e R s m args below meth c s0 D cA nL ι0 h0 rr hf pc (kx_c v k) := by
  intro lv st h hF
  intro ι H locs cells slots ls hP hA hl hs hv hS hC hU hI hE
  have kk := hk lv (v :: st) h hF ι H locs cells slots ls hP hA hl (kx_ok2 (ho h) hs) hv hS hC hU hI hE
  rw [List.map_cons, hx] at kk
  exact step kk
theorem kx_s_iconst (G : kx_G p e R s m args meth c s0 D cA cc own nL h0) {i : Int} {v : Int32} (hv : Int32.ofInt i = v) (hd : decode cc pc = .ok (.iconst i, 1)) (hk : kx_Sn p l e R s m args below meth c s0 D cA nL ι0 h0 rr hf (pc + 1) k) : kx_Sn p l e R s m args below meth c s0 D cA nL ι0 h0 rr hf pc (kx_c (kx_i v) k) :=
  kx_s_c (x := .int v) (fun kk => lv_iconst G.1 G.2.1 hd hv kk) (fun _ => rfl) (fun _ => trivial) hk
theorem kx_s_bipush (G : kx_G p e R s m args meth c s0 D cA cc own nL h0) {i : Int} {v : Int32} (hv : (Int8.ofInt i).toInt32 = v) (hd : decode cc pc = .ok (.bipush i, 2)) (hk : kx_Sn p l e R s m args below meth c s0 D cA nL ι0 h0 rr hf (pc + 2) k) : kx_Sn p l e R s m args below meth c s0 D cA nL ι0 h0 rr hf pc (kx_c (kx_i v) k) :=
  kx_s_c (x := .int v) (fun kk => lv_bipush G.1 G.2.1 hd hv kk) (fun _ => rfl) (fun _ => trivial) hk
theorem kx_s_sipush (G : kx_G p e R s m args meth c s0 D cA cc own nL h0) {i : Int} {v : Int32} (hv : (Int16.ofInt i).toInt32 = v) (hd : decode cc pc = .ok (.sipush i, 3)) (hk : kx_Sn p l e R s m args below meth c s0 D cA nL ι0 h0 rr hf (pc + 3) k) : kx_Sn p l e R s m args below meth c s0 D cA nL ι0 h0 rr hf pc (kx_c (kx_i v) k) :=
  kx_s_c (x := .int v) (fun kk => lv_sipush G.1 G.2.1 hd hv kk) (fun _ => rfl) (fun _ => trivial) hk
theorem kx_s_lconst (G : kx_G p e R s m args meth c s0 D cA cc own nL h0) {i : Fin 2} {v : Int64} (hv : Int64.ofNat (i : Nat) = v) (hd : decode cc pc = .ok (.lconst i, 1)) (hk : kx_Sn p l e R s m args below meth c s0 D cA nL ι0 h0 rr hf (pc + 1) k) : kx_Sn p l e R s m args below meth c s0 D cA nL ι0 h0 rr hf pc (kx_c (kx_l v) k) :=
  kx_s_c (x := .long v) (fun kk => lv_lconst G.1 G.2.1 hd hv kk) (fun _ => rfl) (fun _ => trivial) hk
theorem kx_s_ldc (G : kx_G p e R s m args meth c s0 D cA cc own nL h0) {i : Nat} {v : Int32} (hw : Cond.constant own i v ∈ kx_WS) (hd : decode cc pc = .ok (.ldc i, 2)) (hk : kx_Sn p l e R s m args below meth c s0 D cA nL ι0 h0 rr hf (pc + 2) k) : kx_Sn p l e R s m args below meth c s0 D cA nL ι0 h0 rr hf pc (kx_c (kx_i v) k) :=
  kx_s_c (x := .int v) (fun kk => lv_ldc G.1 G.2.1 G.2.2.1 (G.2.2.2.2.2.1 _ hw) hd kk) (fun _ => rfl) (fun _ => trivial) hk
theorem kx_s_ldc2 (G : kx_G p e R s m args meth c s0 D cA cc own nL h0) {i : Nat} {v : Int64} (hw : Cond.constantLong own i v ∈ kx_WS) (hd : decode cc pc = .ok (.ldc2_w i, 3)) (hk : kx_Sn p l e R s m args below meth c s0 D cA nL ι0 h0 rr hf (pc + 3) k) : kx_Sn p l e R s m args below meth c s0 D cA nL ι0 h0 rr hf pc (kx_c (kx_l v) k) :=
  kx_s_c (x := .long v) (fun kk => lv_ldc2 G.1 G.2.1 G.2.2.1 (G.2.2.2.2.2.1 _ hw) hd kk) (fun _ => rfl) (fun _ => trivial) hk
theorem kx_s_null (G : kx_G p e R s m args meth c s0 D cA cc own nL h0) {t : Nat} (hd : decode cc pc = .ok (.aconst_null, 1)) (hk : kx_Sn p l e R s m args below meth c s0 D cA nL ι0 h0 rr hf (pc + 1) k) : kx_Sn p l e R s m args below meth c s0 D cA nL ι0 h0 rr hf pc (kx_c (kx_r t none) k) :=
  kx_s_c (x := .null) (fun kk => lv_null G.1 G.2.1 hd kk) (fun _ => rfl) (fun _ a ha => by cases ha) hk
theorem kx_s_iload_n (G : kx_G p e R s m args meth c s0 D cA cc own nL h0) {i : Nat} {j : Fin 4} (hi : (j : Nat) = i) (hd : decode cc pc = .ok (.iload_n j, 1)) (hk : kx_Sn p l e R s m args below meth c s0 D cA nL ι0 h0 rr hf (pc + 1) k) : kx_Sn p l e R s m args below meth c s0 D cA nL ι0 h0 rr hf pc (kx_li i k) := by
  intro lv st h hF
  unfold kx_li at hF
  split at hF
  · rename_i x hg
    intro ι H locs cells slots ls hP hA hl hs hv hS hC hU hI hE
    exact lv_iload_n G.1 G.2.1 hd hi (kx_get_at hl hg) (hk _ _ _ hF ι H locs cells slots ls hP hA hl (kx_ok2 trivial hs) hv hS hC hU hI hE)
  · cases hF
theorem kx_s_iload (G : kx_G p e R s m args meth c s0 D cA cc own nL h0) {i : Nat}  (hd : decode cc pc = .ok (.iload i, 2)) (hk : kx_Sn p l e R s m args below meth c s0 D cA nL ι0 h0 rr hf (pc + 2) k) : kx_Sn p l e R s m args below meth c s0 D cA nL ι0 h0 rr hf pc (kx_li i k) := by
  intro lv st h hF
  unfold kx_li at hF
  split at hF
  · rename_i x hg
    intro ι H locs cells slots ls hP hA hl hs hv hS hC hU hI hE
    exact lv_iload G.1 G.2.1 hd (kx_get_at hl hg) (hk _ _ _ hF ι H locs cells slots ls hP hA hl (kx_ok2 trivial hs) hv hS hC hU hI hE)
  · cases hF
theorem kx_s_lload_n (G : kx_G p e R s m args meth c s0 D cA cc own nL h0) {i : Nat} {j : Fin 4} (hi : (j : Nat) = i) (hd : decode cc pc = .ok (.lload_n j, 1)) (hk : kx_Sn p l e R s m args below meth c s0 D cA nL ι0 h0 rr hf (pc + 1) k) : kx_Sn p l e R s m args below meth c s0 D cA nL ι0 h0 rr hf pc (kx_ll i k) := by
  intro lv st h hF
  unfold kx_ll at hF
  split at hF
  · rename_i x hg
    intro ι H locs cells slots ls hP hA hl hs hv hS hC hU hI hE
    exact lv_lload_n G.1 G.2.1 hd hi (kx_get_at hl hg) (hk _ _ _ hF ι H locs cells slots ls hP hA hl (kx_ok2 trivial hs) hv hS hC hU hI hE)
  · cases hF
theorem kx_s_lload (G : kx_G p e R s m args meth c s0 D cA cc own nL h0) {i : Nat}  (hd : decode cc pc = .ok (.lload i, 2)) (hk : kx_Sn p l e R s m args below meth c s0 D cA nL ι0 h0 rr hf (pc + 2) k) : kx_Sn p l e R s m args below meth c s0 D cA nL ι0 h0 rr hf pc (kx_ll i k) := by
  intro lv st h hF
  unfold kx_ll at hF
  split at hF
  · rename_i x hg
    intro ι H locs cells slots ls hP hA hl hs hv hS hC hU hI hE
    exact lv_lload G.1 G.2.1 hd (kx_get_at hl hg) (hk _ _ _ hF ι H locs cells slots ls hP hA hl (kx_ok2 trivial hs) hv hS hC hU hI hE)
  · cases hF
theorem kx_s_aload_n (G : kx_G p e R s m args meth c s0 D cA cc own nL h0) {i : Nat} {j : Fin 4} (hi : (j : Nat) = i) (hd : decode cc pc = .ok (.aload_n j, 1)) (hk : kx_Sn p l e R s m args below meth c s0 D cA nL ι0 h0 rr hf (pc + 1) k) : kx_Sn p l e R s m args below meth c s0 D cA nL ι0 h0 rr hf pc (kx_la i k) := by
  intro lv st h hF
  unfold kx_la at hF
  split at hF
  · rename_i x hg
    intro ι H locs cells slots ls hP hA hl hs hv hS hC hU hI hE
    have h1 := kx_get_at hl hg
    have h2 := hk _ _ _ hF ι H locs cells slots ls hP hA hl (kx_ok2 (hv _ (kx_get_mem hg)) hs) hv hS hC hU hI hE
    obtain ⟨t, o⟩ := x
    cases o with
    | none => exact lv_aload_nN G.1 G.2.1 hd hi  h1 h2
    | some a => exact lv_aload_n G.1 G.2.1 hd hi  h1 h2
  · cases hF
theorem kx_s_aload (G : kx_G p e R s m args meth c s0 D cA cc own nL h0) {i : Nat}  (hd : decode cc pc = .ok (.aload i, 2)) (hk : kx_Sn p l e R s m args below meth c s0 D cA nL ι0 h0 rr hf (pc + 2) k) : kx_Sn p l e R s m args below meth c s0 D cA nL ι0 h0 rr hf pc (kx_la i k) := by
  intro lv st h hF
  unfold kx_la at hF
  split at hF
  · rename_i x hg
    intro ι H locs cells slots ls hP hA hl hs hv hS hC hU hI hE
    have h1 := kx_get_at hl hg
    have h2 := hk _ _ _ hF ι H locs cells slots ls hP hA hl (kx_ok2 (hv _ (kx_get_mem hg)) hs) hv hS hC hU hI hE
    obtain ⟨t, o⟩ := x
    cases o with
    | none => exact lv_aloadN G.1 G.2.1 hd  h1 h2
    | some a => exact lv_aload G.1 G.2.1 hd  h1 h2
  · cases hF
theorem kx_s_istore_n (G : kx_G p e R s m args meth c s0 D cA cc own nL h0) {i : Nat} {j : Fin 4} (hi : (j : Nat) = i) (hd : decode cc pc = .ok (.istore_n j, 1)) (hn : i < nL) (hk : kx_Sn p l e R s m args below meth c s0 D cA nL ι0 h0 rr hf (pc + 1) k) : kx_Sn p l e R s m args below meth c s0 D cA nL ι0 h0 rr hf pc (kx_si i k) := by
  intro lv st h hF
  unfold kx_si at hF
  split at hF
  · rename_i x r
    intro ι H locs cells slots ls hP hA hl hs hv hS hC hU hI hE
    exact lv_istore_n G.1 G.2.1 hd hi hl hn (kx_put1_lc ι lv i (.inl x)) (fun ls' hl' => hk _ _ _ hF ι H locs cells slots ls' hP hA hl' (kx_okt hs) (kx_put1_ok hv trivial) hS hC hU hI hE)
  · cases hF
theorem kx_s_istore (G : kx_G p e R s m args meth c s0 D cA cc own nL h0) {i : Nat}  (hd : decode cc pc = .ok (.istore i, 2)) (hn : i < nL) (hk : kx_Sn p l e R s m args below meth c s0 D cA nL ι0 h0 rr hf (pc + 2) k) : kx_Sn p l e R s m args below meth c s0 D cA nL ι0 h0 rr hf pc (kx_si i k) := by
  intro lv st h hF
  unfold kx_si at hF
  split at hF
  · rename_i x r
    intro ι H locs cells slots ls hP hA hl hs hv hS hC hU hI hE
    exact lv_istore G.1 G.2.1 hd hl hn (kx_put1_lc ι lv i (.inl x)) (fun ls' hl' => hk _ _ _ hF ι H locs cells slots ls' hP hA hl' (kx_okt hs) (kx_put1_ok hv trivial) hS hC hU hI hE)
  · cases hF
theorem kx_s_lstore_n (G : kx_G p e R s m args meth c s0 D cA cc own nL h0) {i : Nat} {j : Fin 4} (hi : (j : Nat) = i) (hd : decode cc pc = .ok (.lstore_n j, 1)) (hn : i + 1 < nL) (hk : kx_Sn p l e R s m args below meth c s0 D cA nL ι0 h0 rr hf (pc + 1) k) : kx_Sn p l e R s m args below meth c s0 D cA nL ι0 h0 rr hf pc (kx_sl i k) := by
  intro lv st h hF
  unfold kx_sl at hF
  split at hF
  · rename_i x r
    intro ι H locs cells slots ls hP hA hl hs hv hS hC hU hI hE
    exact lv_lstore_n G.1 G.2.1 hd hi hl hn (kx_put2_lc ι lv i (.inr (.inl x))) (fun ls' hl' => hk _ _ _ hF ι H locs cells slots ls' hP hA hl' (kx_okt hs) (kx_put2_ok hv trivial) hS hC hU hI hE)
  · cases hF
theorem kx_s_lstore (G : kx_G p e R s m args meth c s0 D cA cc own nL h0) {i : Nat}  (hd : decode cc pc = .ok (.lstore i, 2)) (hn : i + 1 < nL) (hk : kx_Sn p l e R s m args below meth c s0 D cA nL ι0 h0 rr hf (pc + 2) k) : kx_Sn p l e R s m args below meth c s0 D cA nL ι0 h0 rr hf pc (kx_sl i k) := by
  intro lv st h hF
  unfold kx_sl at hF
  split at hF
  · rename_i x r
    intro ι H locs cells slots ls hP hA hl hs hv hS hC hU hI hE
    exact lv_lstore G.1 G.2.1 hd hl hn (kx_put2_lc ι lv i (.inr (.inl x))) (fun ls' hl' => hk _ _ _ hF ι H locs cells slots ls' hP hA hl' (kx_okt hs) (kx_put2_ok hv trivial) hS hC hU hI hE)
  · cases hF
theorem kx_s_astore_n (G : kx_G p e R s m args meth c s0 D cA cc own nL h0) {i : Nat} {j : Fin 4} (hi : (j : Nat) = i) (hd : decode cc pc = .ok (.astore_n j, 1)) (hn : i < nL) (hk : kx_Sn p l e R s m args below meth c s0 D cA nL ι0 h0 rr hf (pc + 1) k) : kx_Sn p l e R s m args below meth c s0 D cA nL ι0 h0 rr hf pc (kx_sa i k) := by
  intro lv st h hF
  unfold kx_sa at hF
  split at hF
  · rename_i x r
    intro ι H locs cells slots ls hP hA hl hs hv hS hC hU hI hE
    have h2 := fun ls' hl' => hk _ _ _ hF ι H locs cells slots ls' hP hA hl' (kx_okt hs) (kx_put1_ok hv (kx_okh hs)) hS hC hU hI hE
    have h3 := kx_put1_lc ι lv i (.inr (.inr x))
    obtain ⟨t, o⟩ := x
    cases o with
    | none => exact lv_astore_nN G.1 G.2.1 hd hi hl hn h3 h2
    | some a => exact lv_astore_n G.1 G.2.1 hd hi hl hn h3 h2
  · cases hF
theorem kx_s_astore (G : kx_G p e R s m args meth c s0 D cA cc own nL h0) {i : Nat}  (hd : decode cc pc = .ok (.astore i, 2)) (hn : i < nL) (hk : kx_Sn p l e R s m args below meth c s0 D cA nL ι0 h0 rr hf (pc + 2) k) : kx_Sn p l e R s m args below meth c s0 D cA nL ι0 h0 rr hf pc (kx_sa i k) := by
  intro lv st h hF
  unfold kx_sa at hF
  split at hF
  · rename_i x r
    intro ι H locs cells slots ls hP hA hl hs hv hS hC hU hI hE
    have h2 := fun ls' hl' => hk _ _ _ hF ι H locs cells slots ls' hP hA hl' (kx_okt hs) (kx_put1_ok hv (kx_okh hs)) hS hC hU hI hE
    have h3 := kx_put1_lc ι lv i (.inr (.inr x))
    obtain ⟨t, o⟩ := x
    cases o with
    | none => exact lv_astoreN G.1 G.2.1 hd hl hn h3 h2
    | some a => exact lv_astore G.1 G.2.1 hd hl hn h3 h2
  · cases hF
theorem kx_s_iinc (G : kx_G p e R s m args meth c s0 D cA cc own nL h0) {i : Nat} {n : Int} {v : Int32} (hd : decode cc pc = .ok (.iinc i n, 3)) (hv0 : Int32.ofInt n = v) (hn : i < nL) (hk : kx_Sn p l e R s m args below meth c s0 D cA nL ι0 h0 rr hf (pc + 3) k) : kx_Sn p l e R s m args below meth c s0 D cA nL ι0 h0 rr hf pc (kx_inc i v k) := by
  intro lv st h hF
  unfold kx_inc at hF
  split at hF
  · rename_i x hg
    intro ι H locs cells slots ls hP hA hl hs hv hS hC hU hI hE
    obtain ⟨q, hq⟩ := List.getElem?_of_mem (show (i, kx_cv ι (.inl x)) ∈ kx_lc ι lv from List.mem_map.mpr ⟨(i, .inl x), kx_get_mem hg, rfl⟩)
    exact lv_iinc (v := x + v) G.1 G.2.1 hd hl hq (by rw [hv0]) hn (kx_put1_lc ι lv i (.inl (x + v))) (fun ls' hl' => hk _ _ _ hF ι H locs cells slots ls' hP hA hl' hs (kx_put1_ok hv trivial) hS hC hU hI hE)
  · cases hF
theorem kx_s_nm {is : List Nat} (hk : kx_Sn p l e R s m args below meth c s0 D cA nL ι0 h0 rr hf pc k) : kx_Sn p l e R s m args below meth c s0 D cA nL ι0 h0 rr hf pc (kx_nm is k) := by
  intro lv st h hF
  unfold kx_nm at hF
  cases hq : kx_pick lv is with
  | none => rw [hq] at hF; cases hF
  | some l' =>
    rw [hq] at hF
    intro ι H locs cells slots ls hP hA hl hs hv hS hC hU hI hE
    have hsub := kx_pick_ok hq
    exact hk _ _ _ hF ι H locs cells slots ls hP hA (kx_lc_sub hl hsub) hs (fun q h9 => hv q (hsub q h9)) hS hC hU hI hE
theorem kx_s_ii {f : Int32 → Int32 → Int32} (step : ∀ {H : Heap} {locs : List Loc} {cells slots : Nat} {Q : State → Prop} {ls : Array Slot} {x y : Int32} {rest : List Value}, W p l e R s m args below meth c H locs cells slots Q (F0 m (pc + 1) ls (.int (f x y) :: rest)) → W p l e R s m args below meth c H locs cells slots Q (F0 m pc ls (.int y :: .int x :: rest))) (hk : kx_Sn p l e R s m args below meth c s0 D cA nL ι0 h0 rr hf (pc + 1) k) : kx_Sn p l e R s m args below meth c s0 D cA nL ι0 h0 rr hf pc (kx_ii f k) := by
  intro lv st h hF
  unfold kx_ii at hF
  split at hF
  · intro ι H locs cells slots ls hP hA hl hs hv hS hC hU hI hE
    exact step (hk _ _ _ hF ι H locs cells slots ls hP hA hl (kx_ok2 trivial (kx_okt (kx_okt hs))) hv hS hC hU hI hE)
  · cases hF
theorem kx_s_jj {f : Int64 → Int64 → Int64} (step : ∀ {H : Heap} {locs : List Loc} {cells slots : Nat} {Q : State → Prop} {ls : Array Slot} {x y : Int64} {rest : List Value}, W p l e R s m args below meth c H locs cells slots Q (F0 m (pc + 1) ls (.long (f x y) :: rest)) → W p l e R s m args below meth c H locs cells slots Q (F0 m pc ls (.long y :: .long x :: rest))) (hk : kx_Sn p l e R s m args below meth c s0 D cA nL ι0 h0 rr hf (pc + 1) k) : kx_Sn p l e R s m args below meth c s0 D cA nL ι0 h0 rr hf pc (kx_jj f k) := by
  intro lv st h hF
  unfold kx_jj at hF
  split at hF
  · intro ι H locs cells slots ls hP hA hl hs hv hS hC hU hI hE
    exact step (hk _ _ _ hF ι H locs cells slots ls hP hA hl (kx_ok2 trivial (kx_okt (kx_okt hs))) hv hS hC hU hI hE)
  · cases hF
theorem kx_s_ji {f : Int64 → Int32 → Int64} (step : ∀ {H : Heap} {locs : List Loc} {cells slots : Nat} {Q : State → Prop} {ls : Array Slot} {x : Int64} {y : Int32} {rest : List Value}, W p l e R s m args below meth c H locs cells slots Q (F0 m (pc + 1) ls (.long (f x y) :: rest)) → W p l e R s m args below meth c H locs cells slots Q (F0 m pc ls (.int y :: .long x :: rest))) (hk : kx_Sn p l e R s m args below meth c s0 D cA nL ι0 h0 rr hf (pc + 1) k) : kx_Sn p l e R s m args below meth c s0 D cA nL ι0 h0 rr hf pc (kx_ji f k) := by
  intro lv st h hF
  unfold kx_ji at hF
  split at hF
  · intro ι H locs cells slots ls hP hA hl hs hv hS hC hU hI hE
    exact step (hk _ _ _ hF ι H locs cells slots ls hP hA hl (kx_ok2 trivial (kx_okt (kx_okt hs))) hv hS hC hU hI hE)
  · cases hF
theorem kx_s_iadd (G : kx_G p e R s m args meth c s0 D cA cc own nL h0) (hd : decode cc pc = .ok (.iadd, 1)) (hk : kx_Sn p l e R s m args below meth c s0 D cA nL ι0 h0 rr hf (pc + 1) k) : kx_Sn p l e R s m args below meth c s0 D cA nL ι0 h0 rr hf pc (kx_ii (fun x y => x + y) k) :=
  kx_s_ii (fun kk => lv_iadd G.1 G.2.1 hd kk) hk
theorem kx_s_isub (G : kx_G p e R s m args meth c s0 D cA cc own nL h0) (hd : decode cc pc = .ok (.isub, 1)) (hk : kx_Sn p l e R s m args below meth c s0 D cA nL ι0 h0 rr hf (pc + 1) k) : kx_Sn p l e R s m args below meth c s0 D cA nL ι0 h0 rr hf pc (kx_ii (fun x y => x - y) k) :=
  kx_s_ii (fun kk => lv_isub G.1 G.2.1 hd kk) hk
theorem kx_s_imul (G : kx_G p e R s m args meth c s0 D cA cc own nL h0) (hd : decode cc pc = .ok (.imul, 1)) (hk : kx_Sn p l e R s m args below meth c s0 D cA nL ι0 h0 rr hf (pc + 1) k) : kx_Sn p l e R s m args below meth c s0 D cA nL ι0 h0 rr hf pc (kx_ii (fun x y => x * y) k) :=
  kx_s_ii (fun kk => lv_imul G.1 G.2.1 hd kk) hk
theorem kx_s_iand (G : kx_G p e R s m args meth c s0 D cA cc own nL h0) (hd : decode cc pc = .ok (.iand, 1)) (hk : kx_Sn p l e R s m args below meth c s0 D cA nL ι0 h0 rr hf (pc + 1) k) : kx_Sn p l e R s m args below meth c s0 D cA nL ι0 h0 rr hf pc (kx_ii (fun x y => x &&& y) k) :=
  kx_s_ii (fun kk => lv_iand G.1 G.2.1 hd kk) hk
theorem kx_s_ior (G : kx_G p e R s m args meth c s0 D cA cc own nL h0) (hd : decode cc pc = .ok (.ior, 1)) (hk : kx_Sn p l e R s m args below meth c s0 D cA nL ι0 h0 rr hf (pc + 1) k) : kx_Sn p l e R s m args below meth c s0 D cA nL ι0 h0 rr hf pc (kx_ii (fun x y => x ||| y) k) :=
  kx_s_ii (fun kk => lv_ior G.1 G.2.1 hd kk) hk
theorem kx_s_ixor (G : kx_G p e R s m args meth c s0 D cA cc own nL h0) (hd : decode cc pc = .ok (.ixor, 1)) (hk : kx_Sn p l e R s m args below meth c s0 D cA nL ι0 h0 rr hf (pc + 1) k) : kx_Sn p l e R s m args below meth c s0 D cA nL ι0 h0 rr hf pc (kx_ii (fun x y => x ^^^ y) k) :=
  kx_s_ii (fun kk => lv_ixor G.1 G.2.1 hd kk) hk
theorem kx_s_ladd (G : kx_G p e R s m args meth c s0 D cA cc own nL h0) (hd : decode cc pc = .ok (.ladd, 1)) (hk : kx_Sn p l e R s m args below meth c s0 D cA nL ι0 h0 rr hf (pc + 1) k) : kx_Sn p l e R s m args below meth c s0 D cA nL ι0 h0 rr hf pc (kx_jj (fun x y => x + y) k) :=
  kx_s_jj (fun kk => lv_ladd G.1 G.2.1 hd kk) hk
theorem kx_s_lsub (G : kx_G p e R s m args meth c s0 D cA cc own nL h0) (hd : decode cc pc = .ok (.lsub, 1)) (hk : kx_Sn p l e R s m args below meth c s0 D cA nL ι0 h0 rr hf (pc + 1) k) : kx_Sn p l e R s m args below meth c s0 D cA nL ι0 h0 rr hf pc (kx_jj (fun x y => x - y) k) :=
  kx_s_jj (fun kk => lv_lsub G.1 G.2.1 hd kk) hk
theorem kx_s_lmul (G : kx_G p e R s m args meth c s0 D cA cc own nL h0) (hd : decode cc pc = .ok (.lmul, 1)) (hk : kx_Sn p l e R s m args below meth c s0 D cA nL ι0 h0 rr hf (pc + 1) k) : kx_Sn p l e R s m args below meth c s0 D cA nL ι0 h0 rr hf pc (kx_jj (fun x y => x * y) k) :=
  kx_s_jj (fun kk => lv_lmul G.1 G.2.1 hd kk) hk
theorem kx_s_land (G : kx_G p e R s m args meth c s0 D cA cc own nL h0) (hd : decode cc pc = .ok (.land, 1)) (hk : kx_Sn p l e R s m args below meth c s0 D cA nL ι0 h0 rr hf (pc + 1) k) : kx_Sn p l e R s m args below meth c s0 D cA nL ι0 h0 rr hf pc (kx_jj (fun x y => x &&& y) k) :=
  kx_s_jj (fun kk => lv_land G.1 G.2.1 hd kk) hk
theorem kx_s_lor (G : kx_G p e R s m args meth c s0 D cA cc own nL h0) (hd : decode cc pc = .ok (.lor, 1)) (hk : kx_Sn p l e R s m args below meth c s0 D cA nL ι0 h0 rr hf (pc + 1) k) : kx_Sn p l e R s m args below meth c s0 D cA nL ι0 h0 rr hf pc (kx_jj (fun x y => x ||| y) k) :=
  kx_s_jj (fun kk => lv_lor G.1 G.2.1 hd kk) hk
theorem kx_s_lxor (G : kx_G p e R s m args meth c s0 D cA cc own nL h0) (hd : decode cc pc = .ok (.lxor, 1)) (hk : kx_Sn p l e R s m args below meth c s0 D cA nL ι0 h0 rr hf (pc + 1) k) : kx_Sn p l e R s m args below meth c s0 D cA nL ι0 h0 rr hf pc (kx_jj (fun x y => x ^^^ y) k) :=
  kx_s_jj (fun kk => lv_lxor G.1 G.2.1 hd kk) hk
theorem kx_s_lshl (G : kx_G p e R s m args meth c s0 D cA cc own nL h0) (hd : decode cc pc = .ok (.lshl, 1)) (hk : kx_Sn p l e R s m args below meth c s0 D cA nL ι0 h0 rr hf (pc + 1) k) : kx_Sn p l e R s m args below meth c s0 D cA nL ι0 h0 rr hf pc (kx_ji (fun x y => x <<< (y.toInt64 &&& 63)) k) :=
  kx_s_ji (fun kk => lv_lshl G.1 G.2.1 hd rfl kk) hk
theorem kx_s_irem (G : kx_G p e R s m args meth c s0 D cA cc own nL h0) (hd : decode cc pc = .ok (.irem, 1)) (hk : kx_Sn p l e R s m args below meth c s0 D cA nL ι0 h0 rr hf (pc + 1) k) : kx_Sn p l e R s m args below meth c s0 D cA nL ι0 h0 rr hf pc (kx_irem k) := by
  intro lv st h hF
  unfold kx_irem at hF
  split at hF
  · split at hF
    · cases hF
    · rename_i hy
      intro ι H locs cells slots ls hP hA hl hs hv hS hC hU hI hE
      exact lv_irem G.1 G.2.1 hd hy (hk _ _ _ hF ι H locs cells slots ls hP hA hl (kx_ok2 trivial (kx_okt (kx_okt hs))) hv hS hC hU hI hE)
  · cases hF
theorem kx_s_idiv (G : kx_G p e R s m args meth c s0 D cA cc own nL h0) (hd : decode cc pc = .ok (.idiv, 1)) (hk : kx_Sn p l e R s m args below meth c s0 D cA nL ι0 h0 rr hf (pc + 1) k) : kx_Sn p l e R s m args below meth c s0 D cA nL ι0 h0 rr hf pc (kx_idiv k) := by
  intro lv st h hF
  unfold kx_idiv at hF
  split at hF
  · split at hF
    · cases hF
    · rename_i hy
      intro ι H locs cells slots ls hP hA hl hs hv hS hC hU hI hE
      exact lv_idiv G.1 G.2.1 hd hy (hk _ _ _ hF ι H locs cells slots ls hP hA hl (kx_ok2 trivial (kx_okt (kx_okt hs))) hv hS hC hU hI hE)
  · cases hF
theorem kx_s_ineg (G : kx_G p e R s m args meth c s0 D cA cc own nL h0) (hd : decode cc pc = .ok (.ineg, 1)) (hk : kx_Sn p l e R s m args below meth c s0 D cA nL ι0 h0 rr hf (pc + 1) k) : kx_Sn p l e R s m args below meth c s0 D cA nL ι0 h0 rr hf pc (kx_ineg k) := by
  intro lv st h hF
  unfold kx_ineg at hF
  split at hF
  · intro ι H locs cells slots ls hP hA hl hs hv hS hC hU hI hE
    exact lv_ineg G.1 G.2.1 hd (hk _ _ _ hF ι H locs cells slots ls hP hA hl (kx_ok2 trivial (kx_okt hs)) hv hS hC hU hI hE)
  · cases hF
theorem kx_s_i2l (G : kx_G p e R s m args meth c s0 D cA cc own nL h0) (hd : decode cc pc = .ok (.i2l, 1)) (hk : kx_Sn p l e R s m args below meth c s0 D cA nL ι0 h0 rr hf (pc + 1) k) : kx_Sn p l e R s m args below meth c s0 D cA nL ι0 h0 rr hf pc (kx_i2l k) := by
  intro lv st h hF
  unfold kx_i2l at hF
  split at hF
  · intro ι H locs cells slots ls hP hA hl hs hv hS hC hU hI hE
    exact lv_i2l G.1 G.2.1 hd rfl (hk _ _ _ hF ι H locs cells slots ls hP hA hl (kx_ok2 trivial (kx_okt hs)) hv hS hC hU hI hE)
  · cases hF
theorem kx_s_l2i (G : kx_G p e R s m args meth c s0 D cA cc own nL h0) (hd : decode cc pc = .ok (.l2i, 1)) (hk : kx_Sn p l e R s m args below meth c s0 D cA nL ι0 h0 rr hf (pc + 1) k) : kx_Sn p l e R s m args below meth c s0 D cA nL ι0 h0 rr hf pc (kx_l2i k) := by
  intro lv st h hF
  unfold kx_l2i at hF
  split at hF
  · intro ι H locs cells slots ls hP hA hl hs hv hS hC hU hI hE
    exact lv_l2i G.1 G.2.1 hd rfl (hk _ _ _ hF ι H locs cells slots ls hP hA hl (kx_ok2 trivial (kx_okt hs)) hv hS hC hU hI hE)
  · cases hF
theorem kx_s_lcmp (G : kx_G p e R s m args meth c s0 D cA cc own nL h0) (hd : decode cc pc = .ok (.lcmp, 1)) (hk : kx_Sn p l e R s m args below meth c s0 D cA nL ι0 h0 rr hf (pc + 1) k) : kx_Sn p l e R s m args below meth c s0 D cA nL ι0 h0 rr hf pc (kx_lcmp k) := by
  intro lv st h hF
  unfold kx_lcmp at hF
  split at hF
  · intro ι H locs cells slots ls hP hA hl hs hv hS hC hU hI hE
    exact W.lcmp G.1 G.2.1 hd (hk _ _ _ hF ι H locs cells slots ls hP hA hl (kx_ok2 trivial (kx_okt (kx_okt hs))) hv hS hC hU hI hE)
  · cases hF
theorem kx_one {ι : Nat → Nat} {v : kx_V} (h : kx_two v = false) : (kx_cv ι v).category = 1 := by
  rcases v with x | x | ⟨t, o⟩
  · rfl
  · cases h
  · cases o <;> rfl
theorem kx_s_dup (G : kx_G p e R s m args meth c s0 D cA cc own nL h0) (hd : decode cc pc = .ok (.dup, 1)) (hk : kx_Sn p l e R s m args below meth c s0 D cA nL ι0 h0 rr hf (pc + 1) k) : kx_Sn p l e R s m args below meth c s0 D cA nL ι0 h0 rr hf pc (kx_dup k) := by
  intro lv st h hF
  unfold kx_dup at hF
  split at hF
  · rename_i v r
    cases hz : kx_two v with
    | true => rw [hz] at hF; cases hF
    | false =>
      rw [hz] at hF
      intro ι H locs cells slots ls hP hA hl hs hv hS hC hU hI hE
      exact lv_dup G.1 G.2.1 hd (kx_one hz) (hk _ _ _ hF ι H locs cells slots ls hP hA hl (kx_ok2 (kx_okh hs) hs) hv hS hC hU hI hE)
  · cases hF
theorem kx_s_pop (G : kx_G p e R s m args meth c s0 D cA cc own nL h0) (hd : decode cc pc = .ok (.pop, 1)) (hk : kx_Sn p l e R s m args below meth c s0 D cA nL ι0 h0 rr hf (pc + 1) k) : kx_Sn p l e R s m args below meth c s0 D cA nL ι0 h0 rr hf pc (kx_pop k) := by
  intro lv st h hF
  unfold kx_pop at hF
  split at hF
  · rename_i v r
    cases hz : kx_two v with
    | true => rw [hz] at hF; cases hF
    | false =>
      rw [hz] at hF
      intro ι H locs cells slots ls hP hA hl hs hv hS hC hU hI hE
      exact lv_pop G.1 G.2.1 hd (kx_one hz) (hk _ _ _ hF ι H locs cells slots ls hP hA hl (kx_okt hs) hv hS hC hU hI hE)
  · cases hF
theorem kx_s_dup_x1 (G : kx_G p e R s m args meth c s0 D cA cc own nL h0) (hd : decode cc pc = .ok (.dup_x1, 1)) (hk : kx_Sn p l e R s m args below meth c s0 D cA nL ι0 h0 rr hf (pc + 1) k) : kx_Sn p l e R s m args below meth c s0 D cA nL ι0 h0 rr hf pc (kx_dupx1 k) := by
  intro lv st h hF
  unfold kx_dupx1 at hF
  split at hF
  · rename_i v w r
    cases hz : kx_two v with
    | true => rw [hz] at hF; cases hF
    | false =>
      cases hz2 : kx_two w with
      | true => rw [hz, hz2] at hF; cases hF
      | false =>
        rw [hz, hz2] at hF
        intro ι H locs cells slots ls hP hA hl hs hv hS hC hU hI hE
        exact lv_dup_x1 G.1 G.2.1 hd (kx_one hz) (kx_one hz2) (hk _ _ _ hF ι H locs cells slots ls hP hA hl (kx_ok2 (kx_okh hs) (kx_ok2 (kx_okh (kx_okt hs)) (kx_ok2 (kx_okh hs) (kx_okt (kx_okt hs))))) hv hS hC hU hI hE)
  · cases hF
theorem kx_s_dup2 (G : kx_G p e R s m args meth c s0 D cA cc own nL h0) (hd : decode cc pc = .ok (.dup2, 1)) (hk : kx_Sn p l e R s m args below meth c s0 D cA nL ι0 h0 rr hf (pc + 1) k) : kx_Sn p l e R s m args below meth c s0 D cA nL ι0 h0 rr hf pc (kx_dup2 k) := by
  intro lv st h hF
  unfold kx_dup2 at hF
  split at hF
  · rename_i v w r
    cases hz : kx_two v with
    | true => rw [hz] at hF; cases hF
    | false =>
      cases hz2 : kx_two w with
      | true => rw [hz, hz2] at hF; cases hF
      | false =>
        rw [hz, hz2] at hF
        intro ι H locs cells slots ls hP hA hl hs hv hS hC hU hI hE
        exact lv_dup2_11 G.1 G.2.1 hd (kx_one hz) (kx_one hz2) (hk _ _ _ hF ι H locs cells slots ls hP hA hl (kx_ok2 (kx_okh hs) (kx_ok2 (kx_okh (kx_okt hs)) hs)) hv hS hC hU hI hE)
  · cases hF
theorem kx_s_ifeq (G : kx_G p e R s m args meth c s0 D cA cc own nL h0) {off : Int} {tgt : Nat} {t : kx_F} (hd : decode cc pc = .ok (.ifCond .eq off, 3)) (hg : (pc : Int) + off = (tgt : Int)) (ht : kx_Sn p l e R s m args below meth c s0 D cA nL ι0 h0 rr hf tgt t) (hk : kx_Sn p l e R s m args below meth c s0 D cA nL ι0 h0 rr hf (pc + 3) k) : kx_Sn p l e R s m args below meth c s0 D cA nL ι0 h0 rr hf pc (kx_ifeq t k) := by
  intro lv st h hF
  unfold kx_ifeq at hF
  split at hF
  · intro ι H locs cells slots ls hP hA hl hs hv hS hC hU hI hE
    exact lv_if_eq G.1 G.2.1 hd hg (fun hb9 => ht _ _ _ (by simpa only [if_pos hb9] using hF) ι H locs cells slots ls hP hA hl (kx_okt hs) hv hS hC hU hI hE) (fun hb9 => hk _ _ _ (by simpa only [if_neg hb9] using hF) ι H locs cells slots ls hP hA hl (kx_okt hs) hv hS hC hU hI hE)
  · cases hF
theorem kx_s_ifne (G : kx_G p e R s m args meth c s0 D cA cc own nL h0) {off : Int} {tgt : Nat} {t : kx_F} (hd : decode cc pc = .ok (.ifCond .ne off, 3)) (hg : (pc : Int) + off = (tgt : Int)) (ht : kx_Sn p l e R s m args below meth c s0 D cA nL ι0 h0 rr hf tgt t) (hk : kx_Sn p l e R s m args below meth c s0 D cA nL ι0 h0 rr hf (pc + 3) k) : kx_Sn p l e R s m args below meth c s0 D cA nL ι0 h0 rr hf pc (kx_ifne t k) := by
  intro lv st h hF
  unfold kx_ifne at hF
  split at hF
  · intro ι H locs cells slots ls hP hA hl hs hv hS hC hU hI hE
    exact lv_if_ne G.1 G.2.1 hd hg (fun hb9 => ht _ _ _ (by simpa only [if_neg hb9] using hF) ι H locs cells slots ls hP hA hl (kx_okt hs) hv hS hC hU hI hE) (fun hb9 => hk _ _ _ (by simpa only [if_pos hb9] using hF) ι H locs cells slots ls hP hA hl (kx_okt hs) hv hS hC hU hI hE)
  · cases hF
theorem kx_s_iflt (G : kx_G p e R s m args meth c s0 D cA cc own nL h0) {off : Int} {tgt : Nat} {t : kx_F} (hd : decode cc pc = .ok (.ifCond .lt off, 3)) (hg : (pc : Int) + off = (tgt : Int)) (ht : kx_Sn p l e R s m args below meth c s0 D cA nL ι0 h0 rr hf tgt t) (hk : kx_Sn p l e R s m args below meth c s0 D cA nL ι0 h0 rr hf (pc + 3) k) : kx_Sn p l e R s m args below meth c s0 D cA nL ι0 h0 rr hf pc (kx_iflt t k) := by
  intro lv st h hF
  unfold kx_iflt at hF
  split at hF
  · intro ι H locs cells slots ls hP hA hl hs hv hS hC hU hI hE
    exact lv_if_lt G.1 G.2.1 hd hg (fun hb9 => ht _ _ _ (by simpa only [if_pos hb9] using hF) ι H locs cells slots ls hP hA hl (kx_okt hs) hv hS hC hU hI hE) (fun hb9 => hk _ _ _ (by simpa only [if_neg hb9] using hF) ι H locs cells slots ls hP hA hl (kx_okt hs) hv hS hC hU hI hE)
  · cases hF
theorem kx_s_ifge (G : kx_G p e R s m args meth c s0 D cA cc own nL h0) {off : Int} {tgt : Nat} {t : kx_F} (hd : decode cc pc = .ok (.ifCond .ge off, 3)) (hg : (pc : Int) + off = (tgt : Int)) (ht : kx_Sn p l e R s m args below meth c s0 D cA nL ι0 h0 rr hf tgt t) (hk : kx_Sn p l e R s m args below meth c s0 D cA nL ι0 h0 rr hf (pc + 3) k) : kx_Sn p l e R s m args below meth c s0 D cA nL ι0 h0 rr hf pc (kx_ifge t k) := by
  intro lv st h hF
  unfold kx_ifge at hF
  split at hF
  · intro ι H locs cells slots ls hP hA hl hs hv hS hC hU hI hE
    exact lv_if_ge G.1 G.2.1 hd hg (fun hb9 => ht _ _ _ (by simpa only [if_pos hb9] using hF) ι H locs cells slots ls hP hA hl (kx_okt hs) hv hS hC hU hI hE) (fun hb9 => hk _ _ _ (by simpa only [if_neg hb9] using hF) ι H locs cells slots ls hP hA hl (kx_okt hs) hv hS hC hU hI hE)
  · cases hF
theorem kx_s_ifgt (G : kx_G p e R s m args meth c s0 D cA cc own nL h0) {off : Int} {tgt : Nat} {t : kx_F} (hd : decode cc pc = .ok (.ifCond .gt off, 3)) (hg : (pc : Int) + off = (tgt : Int)) (ht : kx_Sn p l e R s m args below meth c s0 D cA nL ι0 h0 rr hf tgt t) (hk : kx_Sn p l e R s m args below meth c s0 D cA nL ι0 h0 rr hf (pc + 3) k) : kx_Sn p l e R s m args below meth c s0 D cA nL ι0 h0 rr hf pc (kx_ifgt t k) := by
  intro lv st h hF
  unfold kx_ifgt at hF
  split at hF
  · intro ι H locs cells slots ls hP hA hl hs hv hS hC hU hI hE
    exact lv_if_gt G.1 G.2.1 hd hg (fun hb9 => ht _ _ _ (by simpa only [if_pos hb9] using hF) ι H locs cells slots ls hP hA hl (kx_okt hs) hv hS hC hU hI hE) (fun hb9 => hk _ _ _ (by simpa only [if_neg hb9] using hF) ι H locs cells slots ls hP hA hl (kx_okt hs) hv hS hC hU hI hE)
  · cases hF
theorem kx_s_ifle (G : kx_G p e R s m args meth c s0 D cA cc own nL h0) {off : Int} {tgt : Nat} {t : kx_F} (hd : decode cc pc = .ok (.ifCond .le off, 3)) (hg : (pc : Int) + off = (tgt : Int)) (ht : kx_Sn p l e R s m args below meth c s0 D cA nL ι0 h0 rr hf tgt t) (hk : kx_Sn p l e R s m args below meth c s0 D cA nL ι0 h0 rr hf (pc + 3) k) : kx_Sn p l e R s m args below meth c s0 D cA nL ι0 h0 rr hf pc (kx_ifle t k) := by
  intro lv st h hF
  unfold kx_ifle at hF
  split at hF
  · intro ι H locs cells slots ls hP hA hl hs hv hS hC hU hI hE
    exact lv_if_le G.1 G.2.1 hd hg (fun hb9 => ht _ _ _ (by simpa only [if_pos hb9] using hF) ι H locs cells slots ls hP hA hl (kx_okt hs) hv hS hC hU hI hE) (fun hb9 => hk _ _ _ (by simpa only [if_neg hb9] using hF) ι H locs cells slots ls hP hA hl (kx_okt hs) hv hS hC hU hI hE)
  · cases hF
theorem kx_s_ceq (G : kx_G p e R s m args meth c s0 D cA cc own nL h0) {off : Int} {tgt : Nat} {t : kx_F} (hd : decode cc pc = .ok (.if_icmp .eq off, 3)) (hg : (pc : Int) + off = (tgt : Int)) (ht : kx_Sn p l e R s m args below meth c s0 D cA nL ι0 h0 rr hf tgt t) (hk : kx_Sn p l e R s m args below meth c s0 D cA nL ι0 h0 rr hf (pc + 3) k) : kx_Sn p l e R s m args below meth c s0 D cA nL ι0 h0 rr hf pc (kx_ceq t k) := by
  intro lv st h hF
  unfold kx_ceq at hF
  split at hF
  · intro ι H locs cells slots ls hP hA hl hs hv hS hC hU hI hE
    exact lv_icmp_eq G.1 G.2.1 hd hg (fun hb9 => ht _ _ _ (by simpa only [if_pos hb9] using hF) ι H locs cells slots ls hP hA hl (kx_okt (kx_okt hs)) hv hS hC hU hI hE) (fun hb9 => hk _ _ _ (by simpa only [if_neg hb9] using hF) ι H locs cells slots ls hP hA hl (kx_okt (kx_okt hs)) hv hS hC hU hI hE)
  · cases hF
theorem kx_s_cne (G : kx_G p e R s m args meth c s0 D cA cc own nL h0) {off : Int} {tgt : Nat} {t : kx_F} (hd : decode cc pc = .ok (.if_icmp .ne off, 3)) (hg : (pc : Int) + off = (tgt : Int)) (ht : kx_Sn p l e R s m args below meth c s0 D cA nL ι0 h0 rr hf tgt t) (hk : kx_Sn p l e R s m args below meth c s0 D cA nL ι0 h0 rr hf (pc + 3) k) : kx_Sn p l e R s m args below meth c s0 D cA nL ι0 h0 rr hf pc (kx_cne t k) := by
  intro lv st h hF
  unfold kx_cne at hF
  split at hF
  · intro ι H locs cells slots ls hP hA hl hs hv hS hC hU hI hE
    exact lv_icmp_ne G.1 G.2.1 hd hg (fun hb9 => ht _ _ _ (by simpa only [if_neg hb9] using hF) ι H locs cells slots ls hP hA hl (kx_okt (kx_okt hs)) hv hS hC hU hI hE) (fun hb9 => hk _ _ _ (by simpa only [if_pos hb9] using hF) ι H locs cells slots ls hP hA hl (kx_okt (kx_okt hs)) hv hS hC hU hI hE)
  · cases hF
theorem kx_s_clt (G : kx_G p e R s m args meth c s0 D cA cc own nL h0) {off : Int} {tgt : Nat} {t : kx_F} (hd : decode cc pc = .ok (.if_icmp .lt off, 3)) (hg : (pc : Int) + off = (tgt : Int)) (ht : kx_Sn p l e R s m args below meth c s0 D cA nL ι0 h0 rr hf tgt t) (hk : kx_Sn p l e R s m args below meth c s0 D cA nL ι0 h0 rr hf (pc + 3) k) : kx_Sn p l e R s m args below meth c s0 D cA nL ι0 h0 rr hf pc (kx_clt t k) := by
  intro lv st h hF
  unfold kx_clt at hF
  split at hF
  · intro ι H locs cells slots ls hP hA hl hs hv hS hC hU hI hE
    exact lv_icmp_lt G.1 G.2.1 hd hg (fun hb9 => ht _ _ _ (by simpa only [if_pos hb9] using hF) ι H locs cells slots ls hP hA hl (kx_okt (kx_okt hs)) hv hS hC hU hI hE) (fun hb9 => hk _ _ _ (by simpa only [if_neg hb9] using hF) ι H locs cells slots ls hP hA hl (kx_okt (kx_okt hs)) hv hS hC hU hI hE)
  · cases hF
theorem kx_s_cge (G : kx_G p e R s m args meth c s0 D cA cc own nL h0) {off : Int} {tgt : Nat} {t : kx_F} (hd : decode cc pc = .ok (.if_icmp .ge off, 3)) (hg : (pc : Int) + off = (tgt : Int)) (ht : kx_Sn p l e R s m args below meth c s0 D cA nL ι0 h0 rr hf tgt t) (hk : kx_Sn p l e R s m args below meth c s0 D cA nL ι0 h0 rr hf (pc + 3) k) : kx_Sn p l e R s m args below meth c s0 D cA nL ι0 h0 rr hf pc (kx_cge t k) := by
  intro lv st h hF
  unfold kx_cge at hF
  split at hF
  · intro ι H locs cells slots ls hP hA hl hs hv hS hC hU hI hE
    exact lv_icmp_ge G.1 G.2.1 hd hg (fun hb9 => ht _ _ _ (by simpa only [if_pos hb9] using hF) ι H locs cells slots ls hP hA hl (kx_okt (kx_okt hs)) hv hS hC hU hI hE) (fun hb9 => hk _ _ _ (by simpa only [if_neg hb9] using hF) ι H locs cells slots ls hP hA hl (kx_okt (kx_okt hs)) hv hS hC hU hI hE)
  · cases hF
theorem kx_s_cgt (G : kx_G p e R s m args meth c s0 D cA cc own nL h0) {off : Int} {tgt : Nat} {t : kx_F} (hd : decode cc pc = .ok (.if_icmp .gt off, 3)) (hg : (pc : Int) + off = (tgt : Int)) (ht : kx_Sn p l e R s m args below meth c s0 D cA nL ι0 h0 rr hf tgt t) (hk : kx_Sn p l e R s m args below meth c s0 D cA nL ι0 h0 rr hf (pc + 3) k) : kx_Sn p l e R s m args below meth c s0 D cA nL ι0 h0 rr hf pc (kx_cgt t k) := by
  intro lv st h hF
  unfold kx_cgt at hF
  split at hF
  · intro ι H locs cells slots ls hP hA hl hs hv hS hC hU hI hE
    exact lv_icmp_gt G.1 G.2.1 hd hg (fun hb9 => ht _ _ _ (by simpa only [if_pos hb9] using hF) ι H locs cells slots ls hP hA hl (kx_okt (kx_okt hs)) hv hS hC hU hI hE) (fun hb9 => hk _ _ _ (by simpa only [if_neg hb9] using hF) ι H locs cells slots ls hP hA hl (kx_okt (kx_okt hs)) hv hS hC hU hI hE)
  · cases hF
theorem kx_s_cle (G : kx_G p e R s m args meth c s0 D cA cc own nL h0) {off : Int} {tgt : Nat} {t : kx_F} (hd : decode cc pc = .ok (.if_icmp .le off, 3)) (hg : (pc : Int) + off = (tgt : Int)) (ht : kx_Sn p l e R s m args below meth c s0 D cA nL ι0 h0 rr hf tgt t) (hk : kx_Sn p l e R s m args below meth c s0 D cA nL ι0 h0 rr hf (pc + 3) k) : kx_Sn p l e R s m args below meth c s0 D cA nL ι0 h0 rr hf pc (kx_cle t k) := by
  intro lv st h hF
  unfold kx_cle at hF
  split at hF
  · intro ι H locs cells slots ls hP hA hl hs hv hS hC hU hI hE
    exact lv_icmp_le G.1 G.2.1 hd hg (fun hb9 => ht _ _ _ (by simpa only [if_pos hb9] using hF) ι H locs cells slots ls hP hA hl (kx_okt (kx_okt hs)) hv hS hC hU hI hE) (fun hb9 => hk _ _ _ (by simpa only [if_neg hb9] using hF) ι H locs cells slots ls hP hA hl (kx_okt (kx_okt hs)) hv hS hC hU hI hE)
  · cases hF
theorem kx_s_goto (G : kx_G p e R s m args meth c s0 D cA cc own nL h0) {off : Int} {tgt : Nat} (hd : decode cc pc = .ok (.goto off, 3)) (hg : (pc : Int) + off = (tgt : Int)) (hk : kx_Sn p l e R s m args below meth c s0 D cA nL ι0 h0 rr hf tgt k) : kx_Sn p l e R s m args below meth c s0 D cA nL ι0 h0 rr hf pc k := by
  intro lv st h hF
  intro ι H locs cells slots ls hP hA hl hs hv hS hC hU hI hE
  exact lv_goto G.1 G.2.1 hd hg (hk _ _ _ hF ι H locs cells slots ls hP hA hl hs hv hS hC hU hI hE)
theorem kx_s_ifnull (G : kx_G p e R s m args meth c s0 D cA cc own nL h0) {off : Int} {tgt : Nat} {t : kx_F} (hd : decode cc pc = .ok (.ifnull off, 3)) (hg : (pc : Int) + off = (tgt : Int)) (ht : kx_Sn p l e R s m args below meth c s0 D cA nL ι0 h0 rr hf tgt t) (hk : kx_Sn p l e R s m args below meth c s0 D cA nL ι0 h0 rr hf (pc + 3) k) : kx_Sn p l e R s m args below meth c s0 D cA nL ι0 h0 rr hf pc (kx_nul t k) := by
  intro lv st h hF
  unfold kx_nul at hF
  split at hF
  · rename_i x r
    intro ι H locs cells slots ls hP hA hl hs hv hS hC hU hI hE
    obtain ⟨t9, o⟩ := x
    cases o with
    | none => exact lv_ifnullN G.1 G.2.1 hd hg (ht _ _ _ hF ι H locs cells slots ls hP hA hl (kx_okt hs) hv hS hC hU hI hE)
    | some a => exact lv_ifnull G.1 G.2.1 hd (hk _ _ _ hF ι H locs cells slots ls hP hA hl (kx_okt hs) hv hS hC hU hI hE)
  · cases hF
theorem kx_s_ifnonnull (G : kx_G p e R s m args meth c s0 D cA cc own nL h0) {off : Int} {tgt : Nat} {t : kx_F} (hd : decode cc pc = .ok (.ifnonnull off, 3)) (hg : (pc : Int) + off = (tgt : Int)) (ht : kx_Sn p l e R s m args below meth c s0 D cA nL ι0 h0 rr hf tgt t) (hk : kx_Sn p l e R s m args below meth c s0 D cA nL ι0 h0 rr hf (pc + 3) k) : kx_Sn p l e R s m args below meth c s0 D cA nL ι0 h0 rr hf pc (kx_nnul t k) := by
  intro lv st h hF
  unfold kx_nnul at hF
  split at hF
  · rename_i x r
    intro ι H locs cells slots ls hP hA hl hs hv hS hC hU hI hE
    obtain ⟨t9, o⟩ := x
    cases o with
    | none => exact lv_ifnonnullN G.1 G.2.1 hd (hk _ _ _ hF ι H locs cells slots ls hP hA hl (kx_okt hs) hv hS hC hU hI hE)
    | some a => exact lv_ifnonnull G.1 G.2.1 hd hg (ht _ _ _ hF ι H locs cells slots ls hP hA hl (kx_okt hs) hv hS hC hU hI hE)
  · cases hF
theorem kx_inj {ι : Nat → Nat} {h : kx_H} {H : Heap} (hP : kx_P s0 D cA ι h H) {t u : Nat} {x y : Option Nat} (hx : kx_ok h (kx_r t x)) (hy : kx_ok h (kx_r u y)) : x.map ι = y.map ι ↔ x = y := by
  refine ⟨fun q => ?_, fun q => by rw [q]⟩
  cases x with
  | none => cases y with
    | none => rfl
    | some b => cases q
  | some a => cases y with
    | none => cases q
    | some b => rw [hP.2.1 a b t u (hx a rfl) (hy b rfl) (Option.some.inj q)]
theorem kx_s_aeq (G : kx_G p e R s m args meth c s0 D cA cc own nL h0) {off : Int} {tgt : Nat} {t : kx_F} (hd : decode cc pc = .ok (.if_acmp .eq off, 3)) (hg : (pc : Int) + off = (tgt : Int)) (ht : kx_Sn p l e R s m args below meth c s0 D cA nL ι0 h0 rr hf tgt t) (hk : kx_Sn p l e R s m args below meth c s0 D cA nL ι0 h0 rr hf (pc + 3) k) : kx_Sn p l e R s m args below meth c s0 D cA nL ι0 h0 rr hf pc (kx_aeq t k) := by
  intro lv st h hF
  unfold kx_aeq at hF
  split at hF
  · rename_i y x r
    intro ι H locs cells slots ls hP hA hl hs hv hS hC hU hI hE
    cases hq : Nat.beq x.1 y.1 with
    | false => rw [hq] at hF; cases hF
    | true =>
      rw [hq] at hF
      have hi := kx_inj hP (kx_okh (kx_okt hs)) (kx_okh hs)
      refine lv_acmp_eq G.1 G.2.1 hd hg (fun hb9 => ht _ _ _ ?_ ι H locs cells slots ls hP hA hl (kx_okt (kx_okt hs)) hv hS hC hU hI hE) (fun hb9 => hk _ _ _ ?_ ι H locs cells slots ls hP hA hl (kx_okt (kx_okt hs)) hv hS hC hU hI hE)
      · simpa only [cond_true, if_pos (hi.mp hb9)] using hF
      · simpa only [cond_true, if_neg (fun z => hb9 (hi.mpr z))] using hF
  · cases hF
theorem kx_s_ane (G : kx_G p e R s m args meth c s0 D cA cc own nL h0) {off : Int} {tgt : Nat} {t : kx_F} (hd : decode cc pc = .ok (.if_acmp .ne off, 3)) (hg : (pc : Int) + off = (tgt : Int)) (ht : kx_Sn p l e R s m args below meth c s0 D cA nL ι0 h0 rr hf tgt t) (hk : kx_Sn p l e R s m args below meth c s0 D cA nL ι0 h0 rr hf (pc + 3) k) : kx_Sn p l e R s m args below meth c s0 D cA nL ι0 h0 rr hf pc (kx_ane t k) := by
  intro lv st h hF
  unfold kx_ane at hF
  split at hF
  · rename_i y x r
    intro ι H locs cells slots ls hP hA hl hs hv hS hC hU hI hE
    cases hq : Nat.beq x.1 y.1 with
    | false => rw [hq] at hF; cases hF
    | true =>
      rw [hq] at hF
      have hi := kx_inj hP (kx_okh (kx_okt hs)) (kx_okh hs)
      refine lv_acmp_ne G.1 G.2.1 hd hg (fun hb9 => ht _ _ _ ?_ ι H locs cells slots ls hP hA hl (kx_okt (kx_okt hs)) hv hS hC hU hI hE) (fun hb9 => hk _ _ _ ?_ ι H locs cells slots ls hP hA hl (kx_okt (kx_okt hs)) hv hS hC hU hI hE)
      · simpa only [cond_true, if_neg (fun z => hb9 (hi.mpr z))] using hF
      · simpa only [cond_true, if_pos (hi.mp hb9)] using hF
  · cases hF
end KS
