/-! what the calls keep: who lives, who is where -/
section IV1
variable {S S' S'' : kS} {t c g n : Nat} {v x : Int64} {f b : Bool} {k how place : Int32} {e : kMe} {L : List kMe}
def aliv (S : kS) (t : Nat) : Prop := hp_B S.m 8729 t = true
def IT (S : kS) : Prop := (∀ t, t < 256 → hp_B S.m 8729 t = false → stt S t = 0) ∧ (∀ t, t < 256 → hp_B S.m 8729 t = true → (stt S t = 2 ∨ stt S t = 3 ∨ stt S t = 6) ∨ hp_I S.m 8733 t = -1) ∧ (∀ t, t < 256 → hp_B S.m 8729 t = true → stt S t = 1 → t ∈ S.rd)
theorem IT.set (h : IT S) (hB : hp_B S'.m 8729 = hp_B S.m 8729) (hs : ∀ q, stt S' q = if q = t then how else stt S q) (ha : ∀ q, hp_I S'.m 8733 q = if q = t then place else hp_I S.m 8733 q) (hr : ∀ q, q ≠ t → q ∈ S.rd → q ∈ S'.rd) (al : aliv S t) (hp : (how = 2 ∨ how = 3 ∨ how = 6) ∨ place = -1) (h1 : how = 1 → t ∈ S'.rd) : IT S' := by
  unfold aliv at al
  refine ⟨fun q hq hb => ?_, fun q hq hb => ?_, fun q hq hb h2 => ?_⟩
  · rw [hB] at hb
    rw [hs]
    by_cases hqt : q = t
    · rw [hqt, al] at hb; cases hb
    · rw [if_neg hqt]; exact h.1 q hq hb
  · rw [hB] at hb
    rw [hs, ha]
    by_cases hqt : q = t
    · rw [if_pos hqt, if_pos hqt]; exact hp
    · rw [if_neg hqt, if_neg hqt]; exact h.2.1 q hq hb
  · rw [hB] at hb
    rw [hs] at h2
    by_cases hqt : q = t
    · rw [if_pos hqt] at h2; rw [hqt]; exact h1 h2
    · rw [if_neg hqt] at h2; exact hr q hqt (h.2.2 q hq hb h2)
theorem IT.cong (h : IT S) (hB : hp_B S'.m 8729 = hp_B S.m 8729) (h1 : hp_I S'.m 8731 = hp_I S.m 8731) (h2 : hp_I S'.m 8733 = hp_I S.m 8733) (h3 : S'.rd = S.rd) : IT S' := by
  unfold IT stt
  rw [hB, h1, h2, h3]
  exact h
theorem wake_at (q : Nat) : hp_I (sWake S t).m 8733 q = if q = t then -1 else hp_I S.m 8733 q := by
  show hp_I (hp_sI (hp_sI S.m 8731 t 1) 8733 t (-1)) 8733 q = _
  by_cases h : q = t <;> simp [hI_I, h]
theorem IT.wake (h : IT S) (al : aliv S t) : IT (sWake S t) :=
  h.set (how := 1) (place := -1) rfl (fun q => stt_wake) wake_at (fun q _ hq => List.mem_append_left _ hq) al (Or.inr rfl) (fun _ => List.mem_append_right _ (List.mem_singleton.mpr rfl))
theorem has_rd : (sHas S t v f k b).rd = S.rd := rfl
theorem IT.has (h : IT S) : IT (sHas S t v f k b) := h.cong (has_B (by decide) (by decide)) (has_I (by decide)) (has_I (by decide)) has_rd
/-- who waits at a channel, or sleeps, lives -/
def MA (S : kS) : Prop := ∀ e ∈ S.mo, aliv S e.1
def EA (S : kS) : Prop := ∀ t y, (Sum.inl t, y) ∈ S.me → aliv S t
def TA (S : kS) : Prop := IT S ∧ MA S
theorem MA.sub (h : MA S) (hB : hp_B S'.m 8729 = hp_B S.m 8729) (hm : ∀ e ∈ S'.mo, e ∈ S.mo) : MA S' := fun e he => by
  unfold aliv
  rw [hB]
  exact h e (hm e he)
theorem TA.cong (h : TA S) (hB : hp_B S'.m 8729 = hp_B S.m 8729) (h1 : hp_I S'.m 8731 = hp_I S.m 8731) (h2 : hp_I S'.m 8733 = hp_I S.m 8733) (h3 : S'.rd = S.rd) (hm : ∀ e ∈ S'.mo, e ∈ S.mo) : TA S' := ⟨h.1.cong hB h1 h2 h3, h.2.sub hB hm⟩
theorem TA.has (h : TA S) : TA (sHas S t v f k b) := h.cong (has_B (by decide) (by decide)) (has_I (by decide)) (has_I (by decide)) has_rd (fun _ h => h)
theorem TA.wdr (h : TA S) : TA (sWdr S t) := h.cong rfl rfl rfl rfl (fun _ h => (List.mem_filter.mp h).1)
theorem TA.store (h : TA S) : TA (sStore S c v) := h.cong rfl rfl rfl rfl (fun _ h => h)
theorem TA.tkF (h : TA S) : TA (sTkF S c) := h.cong rfl rfl rfl rfl (fun _ h => h)
theorem TA.wake (h : TA S) (al : aliv S t) : TA (sWake S t) := ⟨h.1.wake al, h.2.sub rfl (fun _ h => h)⟩
theorem TA.met {e : kMo} (h : TA S) (he : e ∈ S.mo) : TA (sMet S e v f b) := by
  have al : aliv (sWdr (sHas S e.1 v f e.2.2.2.2 b) e.1) e.1 := h.2 e he
  exact (TA.wdr (TA.has h)).wake al
theorem TA.del (h : TA S) : TA (sDel S c v) := by
  unfold sDel
  cases hf : sFst S c false with
  | none => exact h.store
  | some e => exact h.met (sFst_mem hf).1
theorem TA.take (h : TA S) : TA (sTake S t c k) := by
  unfold sTake
  cases hf : sFst S c true with
  | none =>
    show TA (if _ then _ else _)
    split
    · exact TA.has (TA.tkF h)
    · exact h.has
  | some e =>
    have he := (sFst_mem hf).1
    show TA (if _ then _ else _)
    split
    · exact TA.met (TA.store (TA.has (TA.tkF h))) he
    · exact TA.met (TA.has h) he
theorem TA.all {r : Bool} : ∀ (j : Nat) {S : kS}, TA S → TA (sAll j S c r f b) := by
  intro j
  induction j with
  | zero => intro S h; exact h
  | succ j ih =>
    intro S h
    unfold sAll
    cases hf : sFst S c r with
    | none => exact h
    | some e => exact ih (h.met (sFst_mem hf).1)
theorem TA.rings (h : TA S) : TA (sRings S c) := by
  unfold sRings
  split
  · exact h
  · split
    · exact h.del
    · exact h
theorem TA.alS (h : TA S) {j : Nat} : TA (S.s_al j) := h.cong rfl rfl rfl rfl (fun _ h => h)
theorem TA.r1 (h : TA S) (hl : ∀ t, e.1 = .inl t → aliv S t) : TA (sRing1 x S e) := by
  unfold sRing1
  split
  · obtain ⟨e1, e2⟩ := e
    cases e1 with
    | inl t => exact h.wake (hl t rfl)
    | inr c => exact TA.rings h.alS
  · exact h
/-- what stays when channels work -/
def FX (S S' : kS) : Prop := S'.gates = S.gates ∧ S'.sn = S.sn ∧ S'.rooms = S.rooms ∧ S'.mt = S.mt ∧ S'.std = S.std ∧ S'.cur = S.cur ∧ (∀ k, k ≠ 8731 → k ≠ 8733 → k ≠ 8739 → hp_I S'.m k = hp_I S.m k) ∧ (∀ k, k ≠ 8737 → k ≠ 8741 → hp_B S'.m k = hp_B S.m k)
theorem FX.rf : FX S S := ⟨rfl, rfl, rfl, rfl, rfl, rfl, fun _ _ _ _ => rfl, fun _ _ _ => rfl⟩
theorem FX.tr (h : FX S S') (h' : FX S' S'') : FX S S'' := by
  obtain ⟨a1, a2, a3, a4, a5, a6, a7, a8⟩ := h
  obtain ⟨b1, b2, b3, b4, b5, b6, b7, b8⟩ := h'
  exact ⟨b1.trans a1, b2.trans a2, b3.trans a3, b4.trans a4, b5.trans a5, b6.trans a6, fun k h1 h2 h3 => (b7 k h1 h2 h3).trans (a7 k h1 h2 h3), fun k h1 h2 => (b8 k h1 h2).trans (a8 k h1 h2)⟩
theorem FX.al (h : FX S S') : hp_B S'.m 8729 = hp_B S.m 8729 := h.2.2.2.2.2.2.2 8729 (by decide) (by decide)
theorem FX.has : FX S (sHas S t v f k b) := ⟨rfl, rfl, rfl, rfl, rfl, rfl, fun j _ _ h => has_I h, fun j h1 h2 => has_B h1 h2⟩
theorem FX.wdr : FX S (sWdr S t) := ⟨rfl, rfl, rfl, rfl, rfl, rfl, fun _ _ _ _ => rfl, fun _ _ _ => rfl⟩
theorem FX.wake : FX S (sWake S t) := ⟨rfl, rfl, rfl, rfl, rfl, rfl, fun j h1 h2 _ => wk_I h1 h2, fun _ _ _ => rfl⟩
theorem FX.store : FX S (sStore S c v) := ⟨rfl, rfl, rfl, rfl, rfl, rfl, fun _ _ _ _ => rfl, fun _ _ _ => rfl⟩
theorem FX.tkF : FX S (sTkF S c) := ⟨rfl, rfl, rfl, rfl, rfl, rfl, fun _ _ _ _ => rfl, fun _ _ _ => rfl⟩
theorem FX.alS {j : Nat} : FX S (S.s_al j) := ⟨rfl, rfl, rfl, rfl, rfl, rfl, fun _ _ _ _ => rfl, fun _ _ _ => rfl⟩
theorem FX.clkS {j : Int64} : FX S (S.s_clk j) := ⟨rfl, rfl, rfl, rfl, rfl, rfl, fun _ _ _ _ => rfl, fun _ _ _ => rfl⟩
theorem FX.meS : FX S (S.s_me L) := ⟨rfl, rfl, rfl, rfl, rfl, rfl, fun _ _ _ _ => rfl, fun _ _ _ => rfl⟩
theorem FX.met {e : kMo} : FX S (sMet S e v f b) := FX.tr FX.has (FX.tr FX.wdr FX.wake)
theorem FX.del : FX S (sDel S c v) := by
  unfold sDel
  cases sFst S c false with
  | none => exact FX.store
  | some e => exact FX.met
theorem FX.take : FX S (sTake S t c k) := by
  unfold sTake
  cases hf : sFst S c true with
  | none =>
    by_cases h : 0 < sCnt S c
    · simp only [if_pos h]; exact FX.tr FX.tkF FX.has
    · simp only [if_neg h]; exact FX.has
  | some e =>
    by_cases h : 0 < sCnt S c
    · simp only [if_pos h]; exact FX.tr FX.tkF (FX.tr FX.has (FX.tr FX.store FX.met))
    · simp only [if_neg h]; exact FX.tr FX.has FX.met
theorem FX.all {r : Bool} : ∀ (j : Nat) (S : kS), FX S (sAll j S c r f b) := by
  intro j
  induction j with
  | zero => intro S; exact FX.rf
  | succ j ih =>
    intro S
    unfold sAll
    cases hf : sFst S c r with
    | none => exact FX.rf
    | some e => exact FX.tr FX.met (ih _)
theorem FX.rings : FX S (sRings S c) := by
  unfold sRings
  split
  · exact FX.rf
  · split
    · exact FX.del
    · exact FX.rf
theorem FX.r1 : FX S (sRing1 x S e) := by
  unfold sRing1
  split
  · obtain ⟨e1, e2⟩ := e
    cases e1 with
    | inl t => exact FX.wake
    | inr c => exact FX.tr FX.alS FX.rings
  · exact FX.rf
theorem FX.fold : ∀ (L : List kMe) (S : kS), FX S (L.foldl (sRing1 x) S) := by
  intro L
  induction L with
  | nil => intro S; exact FX.rf
  | cons e L ih => intro S; rw [List.foldl_cons]; exact FX.tr FX.r1 (ih _)
theorem FX.ring : FX S (sRing S) := FX.tr FX.clkS (FX.tr (FX.fold S.me _) FX.meS)
theorem FX.loop : ∀ (j : Nat) (S : kS), FX S (sLoop j S) := by
  intro j
  induction j with
  | zero => intro S; exact FX.rf
  | succ j ih =>
    intro S
    unfold sLoop
    split
    · exact FX.tr FX.ring (ih _)
    · exact FX.rf
theorem TA.fold : ∀ (L : List kMe) (S : kS), TA S → (∀ t y, (Sum.inl t, y) ∈ L → aliv S t) → TA (L.foldl (sRing1 x) S) := by
  intro L
  induction L with
  | nil => intro S h _; exact h
  | cons e L ih =>
    intro S h hl
    rw [List.foldl_cons]
    refine ih _ (h.r1 (fun t ht => hl t e.2 ?_)) (fun t y hy => ?_)
    · obtain ⟨e1, e2⟩ := e
      cases ht
      exact List.mem_cons_self
    · unfold aliv
      rw [FX.al FX.r1]
      exact hl t y (List.mem_cons_of_mem _ hy)
theorem ring_me : (sRing S).me = S.me.filter (fun e => e.2 != sLeast S.me) := rfl
theorem TA.ring (h : TA S) (he : EA S) : TA (sRing S) ∧ EA (sRing S) := by
  have h1 : TA (S.me.foldl (sRing1 (sLeast S.me)) (S.s_clk (sLeast S.me))) := TA.fold S.me _ (h.cong rfl rfl rfl rfl (fun _ h => h)) he
  refine ⟨h1.cong rfl rfl rfl rfl (fun _ h => h), fun t y hy => ?_⟩
  unfold aliv
  rw [FX.al FX.ring]
  rw [ring_me] at hy
  exact he t y (List.mem_filter.mp hy).1
theorem TA.loop : ∀ (j : Nat) (S : kS), TA S → EA S → TA (sLoop j S) := by
  intro j
  induction j with
  | zero => intro S h _; exact h
  | succ j ih =>
    intro S h he
    unfold sLoop
    split
    · exact ih _ (h.ring he).1 (h.ring he).2
    · exact h
theorem alv_of (B : SB S) (h : IT S) : (∀ t ∈ S.rd, aliv S t) ∧ MA S ∧ (∀ e ∈ S.sn, aliv S e.1) ∧ EA S := by
  have key : ∀ t, t < 256 → stt S t ≠ 0 → aliv S t := fun t ht hs => by
    unfold aliv
    cases hb : hp_B S.m 8729 t with
    | true => rfl
    | false => exact absurd (h.1 t ht hb) hs
  refine ⟨fun t ht => key t (B.rs t ht).1 (by rw [(B.rs t ht).2]; decide), fun e he => key _ (B.os e he).1 (fun h0 => ?_), fun e he => key _ (B.ss e he).1 (by rw [(B.ss e he).2.2]; decide), fun t y hy => key t (B.es t y hy).1 (by rw [(B.es t y hy).2]; decide)⟩
  have := (B.os e he).2.2
  rw [h0] at this
  revert this; decide
end IV1
