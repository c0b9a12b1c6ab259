/-! what holds of the state's lists: each task is in one place at most -/
theorem pgh (n : Nat) : ∀ l : List Nat, l.Nodup → (∀ x ∈ l, x < n) → l.length ≤ n := by
  induction n with
  | zero =>
    intro l _ h
    cases l with
    | nil => simp
    | cons a l => exact absurd (h a (by simp)) (by omega)
  | succ n ih =>
    intro l nd h
    by_cases hn : n ∈ l
    · have h1 := ih (l.erase n) (nd.erase n) (fun x hx => by
        have h2 := h x (List.mem_of_mem_erase hx)
        have h3 : x ≠ n := fun e => by
          subst e
          exact (nd.not_mem_erase) hx
        omega)
      rw [List.length_erase_of_mem hn] at h1
      omega
    · have h1 := ih l nd (fun x hx => by
        have h2 := h x hx
        have h3 : x ≠ n := fun e => hn (e ▸ hx)
        omega)
      omega
def stt (S : kS) (t : Nat) : Int32 := hp_I S.m 8731 t
def eTs (l : List kMe) : List Nat := l.filterMap (fun e => e.1.getLeft?)
def SB (S : kS) : Prop := (∀ t, S.cur = some t → t < 256) ∧ (S.rd.Nodup) ∧ (∀ t ∈ S.rd, t < 256 ∧ stt S t = 1) ∧ (∀ e ∈ S.mo, e.1 < 256 ∧ e.2.1 < 512 ∧ (stt S e.1 = 2 ∨ stt S e.1 = 3 ∨ stt S e.1 = 4)) ∧ ((S.sn.map (·.1)).Nodup) ∧ (∀ e ∈ S.sn, e.1 < 256 ∧ e.2.1 < 256 ∧ stt S e.1 = 6) ∧ ((eTs S.me).Nodup) ∧ (∀ t x, (Sum.inl t, x) ∈ S.me → t < 256 ∧ stt S t = 5) ∧ (∀ c x, (Sum.inr c, x) ∈ S.me → c < 512)
theorem SB.cu {S : kS} (h : SB S) : ∀ t, S.cur = some t → t < 256 := h.1
theorem SB.rn {S : kS} (h : SB S) : S.rd.Nodup := h.2.1
theorem SB.rs {S : kS} (h : SB S) : ∀ t ∈ S.rd, t < 256 ∧ stt S t = 1 := h.2.2.1
theorem SB.os {S : kS} (h : SB S) : ∀ e ∈ S.mo, e.1 < 256 ∧ e.2.1 < 512 ∧ (stt S e.1 = 2 ∨ stt S e.1 = 3 ∨ stt S e.1 = 4) := h.2.2.2.1
theorem SB.nn {S : kS} (h : SB S) : (S.sn.map (·.1)).Nodup := h.2.2.2.2.1
theorem SB.ss {S : kS} (h : SB S) : ∀ e ∈ S.sn, e.1 < 256 ∧ e.2.1 < 256 ∧ stt S e.1 = 6 := h.2.2.2.2.2.1
theorem SB.en {S : kS} (h : SB S) : (eTs S.me).Nodup := h.2.2.2.2.2.2.1
theorem SB.es {S : kS} (h : SB S) : ∀ t x, (Sum.inl t, x) ∈ S.me → t < 256 ∧ stt S t = 5 := h.2.2.2.2.2.2.2.1
theorem SB.ec {S : kS} (h : SB S) : ∀ c x, (Sum.inr c, x) ∈ S.me → c < 512 := h.2.2.2.2.2.2.2.2
section SBS
variable {S : kS} {t c g : Nat} {n v : Int64} {f b : Bool} {x j : Int32}
theorem SB.rl (B : SB S) (ht : t < 256) (h : t ∉ S.rd) : S.rd.length < 256 := by
  have := pgh 256 (t :: S.rd) (List.nodup_cons.mpr ⟨h, B.rn⟩) (fun x hx => by
    rcases List.mem_cons.mp hx with rfl | hx
    · exact ht
    · exact (B.rs x hx).1)
  simp at this
  omega
theorem SB.sl (B : SB S) (ht : t < 256) (h : ∀ e ∈ S.sn, e.1 ≠ t) : S.sn.length < 256 := by
  have := pgh 256 (t :: S.sn.map (·.1)) (List.nodup_cons.mpr ⟨fun hm => by
    obtain ⟨e, h1, h2⟩ := List.mem_map.mp hm
    exact h e h1 h2, B.nn⟩) (fun x hx => by
    rcases List.mem_cons.mp hx with rfl | hx
    · exact ht
    · obtain ⟨e, h1, rfl⟩ := List.mem_map.mp hx
      exact (B.ss e h1).1)
  simp at this
  omega
theorem SB.sl2 (B : SB S) : S.sn.length ≤ 256 := by
  have := pgh 256 (S.sn.map (·.1)) B.nn (fun x hx => by
    obtain ⟨e, h1, rfl⟩ := List.mem_map.mp hx
    exact (B.ss e h1).1)
  simpa using this
/-- only the states of the tasks count, where the lists grow no longer -/
theorem SB.of {S' : kS} (B : SB S) (hc : ∀ t, S'.cur = some t → t < 256) (hs : ∀ t, t ∈ S'.rd ∨ (∃ e ∈ S'.mo, e.1 = t) ∨ (∃ e ∈ S'.sn, e.1 = t) ∨ (∃ y, (Sum.inl t, y) ∈ S'.me) → stt S' t = stt S t) (h1 : S'.rd.Sublist S.rd) (h2 : S'.mo.Sublist S.mo) (h3 : S'.sn.Sublist S.sn) (h4 : S'.me.Sublist S.me) : SB S' := by
  refine ⟨hc, h1.nodup B.rn, fun t ht => ?_, fun e he => ?_, (h3.map _).nodup B.nn, fun e he => ?_, (h4.filterMap _).nodup B.en, fun t y hy => ?_, fun c y hy => B.ec c y (h4.mem hy)⟩
  · rw [hs t (Or.inl ht)]; exact B.rs t (h1.mem ht)
  · rw [hs e.1 (Or.inr (Or.inl ⟨e, he, rfl⟩))]; exact B.os e (h2.mem he)
  · rw [hs e.1 (Or.inr (Or.inr (Or.inl ⟨e, he, rfl⟩)))]; exact B.ss e (h3.mem he)
  · rw [hs t (Or.inr (Or.inr (Or.inr ⟨y, hy⟩)))]; exact B.es t y (h4.mem hy)
theorem stt_has : stt (sHas S t n f x b) = stt S := by
  funext q
  simp [stt, sHas, hI_I, hI_B, hI_L, kS.th, kS.s_th, kS.cur, kS.s_cur, kS.std, kS.s_std, kS.clk, kS.s_clk, kS.m, kS.s_m, kS.rd, kS.s_rd, kS.rooms, kS.s_rooms, kS.mv, kS.s_mv, kS.mo, kS.s_mo, kS.mt, kS.s_mt, kS.gates, kS.s_gates, kS.sn, kS.s_sn, kS.me, kS.s_me, kS.al, kS.s_al]
theorem SB.has (B : SB S) : SB (sHas S t n f x b) := B.of B.cu (fun q _ => by rw [stt_has]) (List.Sublist.refl _) (List.Sublist.refl _) (List.Sublist.refl _) (List.Sublist.refl _)
theorem SB.th (B : SB S) : SB (sTh S x) := B.of B.cu (fun q _ => rfl) (List.Sublist.refl _) (List.Sublist.refl _) (List.Sublist.refl _) (List.Sublist.refl _)
theorem SB.held (B : SB S) : SB (stHeld S g x) := B.of B.cu (fun q _ => by simp [stt, stHeld, hI_I, kS.th, kS.s_th, kS.cur, kS.s_cur, kS.std, kS.s_std, kS.clk, kS.s_clk, kS.m, kS.s_m, kS.rd, kS.s_rd, kS.rooms, kS.s_rooms, kS.mv, kS.s_mv, kS.mo, kS.s_mo, kS.mt, kS.s_mt, kS.gates, kS.s_gates, kS.sn, kS.s_sn, kS.me, kS.s_me, kS.al, kS.s_al]) (List.Sublist.refl _) (List.Sublist.refl _) (List.Sublist.refl _) (List.Sublist.refl _)
theorem SB.wdr (B : SB S) : SB (sWdr S t) := B.of B.cu (fun q _ => rfl) (List.Sublist.refl _) List.filter_sublist (List.Sublist.refl _) (List.Sublist.refl _)
theorem SB.out (B : SB S) : SB (sOut S t) := B.of B.cu (fun q _ => rfl) (List.Sublist.refl _) (List.Sublist.refl _) List.filter_sublist (List.Sublist.refl _)
theorem SB.store (B : SB S) : SB (sStore S c v) := B.of B.cu (fun q _ => rfl) (List.Sublist.refl _) (List.Sublist.refl _) (List.Sublist.refl _) (List.Sublist.refl _)
theorem SB.tkF (B : SB S) : SB (sTkF S c) := B.of B.cu (fun q _ => rfl) (List.Sublist.refl _) (List.Sublist.refl _) (List.Sublist.refl _) (List.Sublist.refl _)
theorem stt_wake {q : Nat} : stt (sWake S t) q = if q = t then 1 else stt S q := by
  by_cases h : q = t <;> simp [stt, sWake, hI_I, h, kS.th, kS.s_th, kS.cur, kS.s_cur, kS.std, kS.s_std, kS.clk, kS.s_clk, kS.m, kS.s_m, kS.rd, kS.s_rd, kS.rooms, kS.s_rooms, kS.mv, kS.s_mv, kS.mo, kS.s_mo, kS.mt, kS.s_mt, kS.gates, kS.s_gates, kS.sn, kS.s_sn, kS.me, kS.s_me, kS.al, kS.s_al]
/-- t is nowhere in the lists -/
def nIn (S : kS) (t : Nat) : Prop := t ∉ S.rd ∧ (∀ e ∈ S.mo, e.1 ≠ t) ∧ (∀ e ∈ S.sn, e.1 ≠ t) ∧ ∀ y, (Sum.inl t, y) ∉ S.me
theorem SB.nin (B : SB S) (h1 : stt S t ≠ 1) (h2 : stt S t ≠ 2) (h3 : stt S t ≠ 3) (h4 : stt S t ≠ 4) (h5 : stt S t ≠ 5) (h6 : stt S t ≠ 6) : nIn S t := by
  refine ⟨fun h => h1 (B.rs t h).2, fun e he z => ?_, fun e he z => ?_, fun y hy => h5 (B.es t y hy).2⟩
  · have := (B.os e he).2.2
    rw [z] at this
    rcases this with h | h | h <;> contradiction
  · have := (B.ss e he).2.2
    rw [z] at this
    contradiction
theorem SB.wake (B : SB S) (ht : t < 256) (h : nIn S t) : SB (sWake S t) := by
  obtain ⟨h1, h2, h3, h4⟩ := h
  refine ⟨B.cu, ?_, fun q hq => ?_, fun e he => ?_, B.nn, fun e he => ?_, B.en, fun q y hy => ?_, B.ec⟩
  · show (S.rd ++ [t]).Nodup
    rw [List.nodup_append]
    refine ⟨B.rn, by simp, fun a ha b hb e => ?_⟩
    simp at hb
    subst hb
    subst e
    exact h1 ha
  · rw [stt_wake]
    by_cases hqt : q = t
    · rw [if_pos hqt]; exact ⟨hqt ▸ ht, rfl⟩
    · rw [if_neg hqt]
      have : q ∈ S.rd ++ [t] := hq
      simp [hqt] at this
      exact B.rs q this
  · rw [stt_wake, if_neg (h2 e he)]; exact B.os e he
  · rw [stt_wake, if_neg (h3 e he)]; exact B.ss e he
  · rw [stt_wake, if_neg (fun z : q = t => h4 y (z ▸ hy))]; exact B.es q y hy
theorem SB.met_n (B : SB S) {e : kMo} (he : e ∈ S.mo) : nIn (sWdr (sHas S e.1 n f x b) e.1) e.1 := by
  obtain ⟨h1, h2, h3⟩ := B.os e he
  refine ⟨fun h => ?_, fun q hq => ?_, fun q hq z => ?_, fun y hy => ?_⟩
  · have := (B.rs e.1 h).2
    rw [this] at h3
    revert h3; decide
  · have := (List.mem_filter.mp hq).2
    simpa using this
  · have := (B.ss q hq).2.2
    rw [z] at this
    rw [this] at h3
    revert h3; decide
  · have := (B.es e.1 y hy).2
    rw [this] at h3
    revert h3; decide
theorem SB.met (B : SB S) {e : kMo} (he : e ∈ S.mo) : SB (sMet S e n f b) := SB.wake (SB.wdr (SB.has B)) (B.os e he).1 (B.met_n he)
theorem SB.lets_n (B : SB S) {e : kMs} (he : e ∈ S.sn) : nIn (sHas (sOut S e.1) e.1 n f x b) e.1 := by
  obtain ⟨h1, h2, h3⟩ := B.ss e he
  refine ⟨fun h => ?_, fun q hq z => ?_, fun q hq => ?_, fun y hy => ?_⟩
  · have := (B.rs e.1 h).2
    rw [h3] at this
    revert this; decide
  · have := (B.os q hq).2.2
    rw [z, h3] at this
    revert this; decide
  · have := (List.mem_filter.mp hq).2
    simpa using this
  · have := (B.es e.1 y hy).2
    rw [h3] at this
    revert this; decide
theorem SB.lets (B : SB S) {e : kMs} (he : e ∈ S.sn) : SB (sLets S e f) := SB.wake (SB.has (SB.out B)) (B.ss e he).1 (B.lets_n he)
theorem sFst_mem {e : kMo} (h : sFst S c f = some e) : e ∈ S.mo ∧ e.2.1 = c ∧ e.2.2.1 = f := by
  have h2 := List.find?_some h
  simp [oAt] at h2
  exact ⟨List.mem_of_find?_eq_some h, h2⟩
theorem sStg_mem {e : kMs} (h : sStg S g x = some e) : e ∈ S.sn ∧ e.2.1 = g := by
  have h2 := List.find?_some h
  simp [gAt] at h2
  exact ⟨List.mem_of_find?_eq_some h, h2.1⟩
theorem SB.del (B : SB S) : SB (sDel S c v) := by
  unfold sDel
  cases h : sFst S c false with
  | none => exact B.store
  | some e => exact B.met (sFst_mem h).1
theorem SB.take (B : SB S) : SB (sTake S t c x) := by
  unfold sTake
  cases h : sFst S c true with
  | none =>
    show SB (if _ then _ else _)
    split
    · exact (B.tkF).has
    · exact B.has
  | some e =>
    have := (sFst_mem h).1
    show SB (if _ then _ else _)
    split
    · exact SB.met (S := sStore (sHas (sTkF S c) t (sTkV S c) true x false) c e.2.2.2.1) ((B.tkF).has.store) this
    · exact SB.met (S := sHas S t e.2.2.2.1 true x false) B.has this
theorem SB.all (B : SB S) {k : Nat} {h : Bool} : SB (sAll k S c h f b) := by
  induction k generalizing S with
  | zero => exact B
  | succ k ih =>
    unfold sAll
    cases he : sFst S c h with
    | none => exact B
    | some e => exact ih (B.met (sFst_mem he).1)
theorem SB.lall (B : SB S) {k : Nat} : SB (sLall k S g x f) := by
  induction k generalizing S with
  | zero => exact B
  | succ k ih =>
    unfold sLall
    cases he : sStg S g x with
    | none => exact B
    | some e => exact ih (B.lets (sStg_mem he).1)
theorem SB.unlock (B : SB S) : SB (sUnlock S g) := by
  unfold sUnlock
  cases he : sStg S g 2 with
  | none => exact B.held
  | some e => exact B.lets (sStg_mem he).1
theorem SB.writer (B : SB S) : SB (sWriter S g) := by
  unfold sWriter
  cases he : sStg S g 0 with
  | none => exact B
  | some e => exact SB.lets (S := stHeld S g (-1)) B.held (sStg_mem he).1
theorem SB.signal (B : SB S) (hl : (sLock S g).toNatClampNeg < 256) : SB (sSignal S g) := by
  unfold sSignal
  cases he : sStg S g 2 with
  | none => exact B
  | some e =>
    have hm := (sStg_mem he).1
    show SB (if _ then _ else _)
    split
    · exact SB.lets (S := stHeld S _ 1) B.held hm
    · have B1 : SB (sOut S e.1) := B.out
      have hst : ∀ q, hp_I (hp_sI (sOut S e.1).m 8733 e.1 (sLock S g)) 8731 q = stt S q := fun q => by simp [stt, sOut, hI_I, kS.th, kS.s_th, kS.cur, kS.s_cur, kS.std, kS.s_std, kS.clk, kS.s_clk, kS.m, kS.s_m, kS.rd, kS.s_rd, kS.rooms, kS.s_rooms, kS.mv, kS.s_mv, kS.mo, kS.s_mo, kS.mt, kS.s_mt, kS.gates, kS.s_gates, kS.sn, kS.s_sn, kS.me, kS.s_me, kS.al, kS.s_al]
      refine ⟨B1.cu, B1.rn, fun q hq => ?_, fun q hq => ?_, ?_, fun q hq => ?_, B1.en, fun q y hq => ?_, B1.ec⟩
      · unfold stt; rw [hst]; exact B.rs q hq
      · unfold stt; rw [hst]; exact B.os q hq
      · show (((sOut S e.1).sn ++ [(e.1, (sLock S g).toNatClampNeg, false)]).map (·.1)).Nodup
        rw [List.map_append, List.nodup_append]
        refine ⟨B1.nn, by simp, fun a ha b hb z => ?_⟩
        simp at hb
        subst hb
        subst z
        obtain ⟨q, h1, h2⟩ := List.mem_map.mp ha
        have := (List.mem_filter.mp h1).2
        simp at this
        exact this h2
      · unfold stt; rw [hst]
        rcases List.mem_append.mp hq with h1 | h1
        · exact B1.ss q h1
        · simp at h1
          subst h1
          exact ⟨(B.ss e hm).1, hl, (B.ss e hm).2.2⟩
      · unfold stt; rw [hst]; exact B.es q y hq
end SBS
