/-! what the calls keep: gates -/
section IV6
variable {S S' S'' : kS} {t c g n n' l : Nat} {v : Int64} {f b r goes : Bool} {k how place xc x y : Int32}
def FG (S S' : kS) : Prop := S'.cur = S.cur ∧ S'.std = S.std ∧ hp_B S'.m 8729 = hp_B S.m 8729 ∧ S'.gates = S.gates ∧ hp_I S'.m 8771 = hp_I S.m 8771 ∧ hp_I S'.m 8775 = hp_I S.m 8775
theorem FG.rf : FG S S := ⟨rfl, rfl, rfl, rfl, rfl, rfl⟩
theorem FG.tr (h : FG S S') (h' : FG S' S'') : FG S S'' := by
  obtain ⟨a1, a2, a3, a4, a5, a6⟩ := h
  obtain ⟨b1, b2, b3, b4, b5, b6⟩ := h'
  exact ⟨b1.trans a1, b2.trans a2, b3.trans a3, b4.trans a4, b5.trans a5, b6.trans a6⟩
theorem FX.fg (h : FX S S') : FG S S' := ⟨h.2.2.2.2.2.1, h.2.2.2.2.1, h.al, h.1, h.2.2.2.2.2.2.1 _ (by decide) (by decide) (by decide), h.2.2.2.2.2.2.1 _ (by decide) (by decide) (by decide)⟩
theorem FG.out : FG S (sOut S t) := ⟨rfl, rfl, rfl, rfl, rfl, rfl⟩
theorem FG.lets {e : kMs} : FG S (sLets S e f) := FG.tr FG.out (FG.tr FX.has.fg FX.wake.fg)
theorem held_I {k : Nat} (hk : k ≠ 8773) : hp_I (stHeld S g x).m k = hp_I S.m k := by
  funext j
  show hp_I (hp_sI S.m 8773 g x) k j = _
  simp [hI_I, hk]
theorem held_h (q : Nat) : sHeld (stHeld S g x) q = if q = g then x else sHeld S q := by
  unfold sHeld
  show hp_I (hp_sI S.m 8773 g x) 8773 q = _
  by_cases h : q = g <;> simp [hI_I, h]
theorem FG.held : FG S (stHeld S g x) := ⟨rfl, rfl, rfl, rfl, held_I (by decide), held_I (by decide)⟩
theorem FG.lall : ∀ (j : Nat) (S : kS), FG S (sLall j S g how f) := by
  intro j
  induction j with
  | zero => intro S; exact FG.rf
  | succ j ih =>
    intro S
    unfold sLall
    cases sStg S g how with
    | none => exact FG.rf
    | some e => exact FG.lets.tr (ih _)
theorem FG.stay (F : FG S S') (V : IV S' n) (hc : S.cur = some t) (h0 : stt S' t = 0) (al : aliv S t) (hs : S.std = 0) : FI S' n := by
  refine V.stay (t := t) (F.1.trans hc) h0 ?_ (F.2.1.trans hs)
  unfold aliv
  rw [F.2.2.1]
  exact al
theorem st0_lets {e : kMs} (B : SB S) (he : e ∈ S.sn) (h0 : stt S t = 0) : stt (sLets S e f) t = 0 := by
  unfold sLets
  rw [stt_wake]
  have hne : t ≠ e.1 := fun h => by
    have := (B.ss e he).2.2
    rw [← h, h0] at this
    revert this; decide
  rw [if_neg hne, stt_has]
  exact h0
theorem IV.lets {e : kMs} (V : IV S n) (he : e ∈ S.sn) : IV (sLets S e f) n := by
  obtain ⟨B, T, G, R, L⟩ := V
  have al : aliv S e.1 := (alv_of B T).2.2.1 e he
  have T1 : IT (sOut S e.1) := T.cong rfl rfl rfl rfl
  have G1 : IG (sOut S e.1) n := G.cong (Nat.le_refl _) rfl (fun q hq => (List.mem_filter.mp hq).1) rfl rfl rfl
  have R1 : IR (sOut S e.1) n := R.cong (Nat.le_refl _) rfl rfl
  have F := FX.tr (FX.has (S := sOut S e.1) (t := e.1) (v := 0) (f := f) (k := -1) (b := false)) (FX.wake (t := e.1))
  have al2 : aliv (sHas (sOut S e.1) e.1 0 f (-1) false) e.1 := al
  exact ⟨B.lets he, (IT.has T1).wake al2, F.ig G1 (Nat.le_refl _), F.ir R1 (Nat.le_refl _), L⟩
theorem IV.lall : ∀ (j : Nat) (S : kS), IV S n → IV (sLall j S g how f) n := by
  intro j
  induction j with
  | zero => intro S V; exact V
  | succ j ih =>
    intro S V
    unfold sLall
    cases hs : sStg S g how with
    | none => exact V
    | some e => exact ih _ (V.lets (sStg_mem hs).1)
theorem st0_lall : ∀ (j : Nat) (S : kS), SB S → stt S t = 0 → stt (sLall j S g how f) t = 0 := by
  intro j
  induction j with
  | zero => intro S _ h; exact h
  | succ j ih =>
    intro S B h
    unfold sLall
    cases hs : sStg S g how with
    | none => exact h
    | some e => exact ih _ (B.lets (sStg_mem hs).1) (st0_lets B (sStg_mem hs).1 h)
def hOK (S : kS) (g : Nat) (x : Int32) (n : Nat) : Prop := (sKind S g = 0 → x = 0 ∨ x = 1) ∧ (sKind S g = 1 → x = -1 ∨ ∃ j, j ≤ n + 256 ∧ x = i32 j) ∧ (sKind S g = 2 → 0 ≤ x)
theorem IV.held (V : IV S n) (hn : n ≤ n') (hg : g < S.gates) (hx : hOK S g x n') : IV (stHeld S g x) n' := by
  obtain ⟨B, T, G, R, L⟩ := V
  refine ⟨B.held, T.cong rfl (held_I (by decide)) (held_I (by decide)) rfl, ?_, R.cong hn rfl (held_I (by decide)), L.mono hn⟩
  have hk : ∀ q, sKind (stHeld S g x) q = sKind S q := fun q => congrFun (held_I (by decide)) q
  have hl : ∀ q, sLock (stHeld S g x) q = sLock S q := fun q => congrFun (held_I (by decide)) q
  obtain ⟨a1, a2, a3, a4, a5, a6, a7⟩ := FX.rf.ig G hn
  refine ⟨a1, fun q hq h3 => ?_, fun q hq => ?_, fun q hq => ?_, fun q h1 h2 => ?_, fun e he hr => ?_, a7⟩
  · rw [hk] at h3
    obtain ⟨l, z1, z2, z3⟩ := a2 q hq h3
    exact ⟨l, z1, by rw [hl]; exact z2, by rw [hk]; exact z3⟩
  · rw [hk]; exact a3 q hq
  · rw [hk, held_h]
    by_cases hqg : q = g
    · rw [if_pos hqg, hqg]; exact hx
    · rw [if_neg hqg]; exact a4 q hq
  · have h1' : S.gates ≤ q := h1
    rw [held_h, if_neg (show q ≠ g by omega)]; exact a5 q h1 h2
  · rw [hk]; exact a6 e he hr
theorem st0_held (h0 : stt S t = 0) : stt (stHeld S g x) t = 0 := (congrFun (held_I (by decide)) t).trans h0
theorem IV.unlock (V : IV S n) (hg : g < S.gates) (hk : sKind S g = 0) : IV (sUnlock S g) n := by
  unfold sUnlock
  cases hs : sStg S g 2 with
  | none => exact V.held (Nat.le_refl _) hg ⟨fun _ => Or.inl rfl, fun h => by rw [hk] at h; exact absurd h (by decide), fun h => by rw [hk] at h; exact absurd h (by decide)⟩
  | some e => exact V.lets (sStg_mem hs).1
theorem FG.unlock : FG S (sUnlock S g) := by
  unfold sUnlock
  cases hs : sStg S g 2 with
  | none => exact FG.held
  | some e => exact FG.lets
theorem st0_unlock (B : SB S) (h0 : stt S t = 0) : stt (sUnlock S g) t = 0 := un_stt B h0
theorem IV.writer (V : IV S n) (hg : g < S.gates) (hk : sKind S g = 1) : IV (sWriter S g) n := by
  unfold sWriter
  cases hs : sStg S g 0 with
  | none => exact V
  | some e =>
    have V1 : IV (stHeld S g (-1)) n := V.held (Nat.le_refl _) hg ⟨fun h => by rw [hk] at h; exact absurd h (by decide), fun _ => Or.inl rfl, fun h => by rw [hk] at h; exact absurd h (by decide)⟩
    exact V1.lets (sStg_mem hs).1
theorem FG.writer : FG S (sWriter S g) := by
  unfold sWriter
  cases hs : sStg S g 0 with
  | none => exact FG.rf
  | some e => exact FG.held.tr FG.lets
theorem st0_writer (B : SB S) (h0 : stt S t = 0) : stt (sWriter S g) t = 0 := by
  unfold sWriter
  cases hs : sStg S g 0 with
  | none => exact h0
  | some e => exact st0_lets (SB.held B) (sStg_mem hs).1 (st0_held h0)
theorem sig_none (h : sStg S g 2 = none) : sSignal S g = S := by unfold sSignal; rw [h]
theorem sig_free {e : kMs} (h : sStg S g 2 = some e) (hh : sHeld S (sLock S g).toNatClampNeg = 0) : sSignal S g = sLets (stHeld S (sLock S g).toNatClampNeg 1) e true := by
  unfold sSignal
  rw [h]
  simp only
  rw [if_pos hh]
theorem sig_wait {e : kMs} (h : sStg S g 2 = some e) (hh : ¬ sHeld S (sLock S g).toNatClampNeg = 0) : sSignal S g = ((sOut S e.1).s_m (hp_sI S.m 8733 e.1 (sLock S g))).s_sn ((sOut S e.1).sn ++ [(e.1, (sLock S g).toNatClampNeg, false)]) := by
  unfold sSignal
  rw [h]
  simp only
  rw [if_neg hh]
  rfl
theorem IV.signal (V : IV S n) (hl : l < S.gates) (hlk : sLock S g = i32 l) (hk : sKind S l = 0) : IV (sSignal S g) n ∧ FG S (sSignal S g) ∧ ∀ t, stt S t = 0 → stt (sSignal S g) t = 0 := by
  have hl256 : l < 256 := Nat.lt_of_lt_of_le hl V.2.2.1.1
  have hnat : (sLock S g).toNatClampNeg = l := by rw [hlk]; exact i32_nat (by omega)
  have BS := SB.signal (g := g) V.1 (by rw [hnat]; exact hl256)
  cases hs : sStg S g 2 with
  | none => rw [sig_none hs]; exact ⟨V, FG.rf, fun _ h => h⟩
  | some e =>
    have he := (sStg_mem hs).1
    by_cases hh : sHeld S (sLock S g).toNatClampNeg = 0
    · rw [sig_free hs hh, hnat]
      have V1 : IV (stHeld S l 1) n := V.held (Nat.le_refl _) hl ⟨fun _ => Or.inr rfl, fun h => by rw [hk] at h; exact absurd h (by decide), fun h => by rw [hk] at h; exact absurd h (by decide)⟩
      exact ⟨V1.lets he, FG.held.tr FG.lets, fun t h0 => st0_lets V1.1 he (st0_held h0)⟩
    · have e5 := sig_wait hs hh
      rw [hnat] at e5
      rw [e5] at BS ⊢
      obtain ⟨U, hU⟩ : ∃ U : kS, U = ((sOut S e.1).s_m (hp_sI S.m 8733 e.1 (sLock S g))).s_sn ((sOut S e.1).sn ++ [(e.1, l, false)]) := ⟨_, rfl⟩
      rw [← hU] at BS ⊢
      have um : U.m = hp_sI S.m 8733 e.1 (sLock S g) := by subst hU; rfl
      have us : U.sn = S.sn.filter (fun q => q.1 != e.1) ++ [(e.1, l, false)] := by subst hU; rfl
      have hI : ∀ k, k ≠ 8733 → hp_I U.m k = hp_I S.m k := fun k hk => by rw [um]; funext j; simp [hI_I, hk]
      have hB : hp_B U.m = hp_B S.m := by rw [um]; rfl
      have ug : U.gates = S.gates := by subst hU; rfl
      have al : aliv S e.1 := (alv_of V.1 V.2.1).2.2.1 e he
      have h6 : stt S e.1 = 6 := (V.1.ss e he).2.2
      have hst : stt U = stt S := hI 8731 (by decide)
      have T2 : IT U := V.2.1.set (t := e.1) (how := 6) (place := sLock S g) (congrFun hB _) (fun q => by
        rw [hst]
        by_cases hq : q = e.1
        · rw [if_pos hq, hq]; exact h6
        · rw [if_neg hq]) (fun q => by
          rw [um]
          by_cases hq : q = e.1 <;> simp [hI_I, hq]) (fun q _ hm => by subst hU; exact hm) al (Or.inl (Or.inr (Or.inr rfl))) (fun h => absurd h (by decide))
      have G2 : IG U n := by
        obtain ⟨a1, a2, a3, a4, a5, a6, a7⟩ := IG.cong (S' := U.s_sn S.sn) V.2.2.1 (Nat.le_refl _) ug (fun e he => he) (hI 8771 (by decide)) (hI 8773 (by decide)) (hI 8775 (by decide))
        refine ⟨a1, a2, a3, a4, a5, fun q hq hr => ?_, fun q hq => ?_⟩
        · rw [us] at hq
          rcases List.mem_append.mp hq with h | h
          · exact a6 q (List.mem_filter.mp h).1 hr
          · obtain rfl := List.mem_singleton.mp h
            cases hr
        · rw [us] at hq
          rcases List.mem_append.mp hq with h | h
          · exact a7 q (List.mem_filter.mp h).1
          · obtain rfl := List.mem_singleton.mp h
            rw [ug]; exact hl
      refine ⟨⟨BS, T2, G2, V.2.2.2.1.cong (Nat.le_refl _) (by subst hU; rfl) (hI 8749 (by decide)), by subst hU; exact V.2.2.2.2⟩, ⟨by subst hU; rfl, by subst hU; rfl, congrFun hB _, ug, hI 8771 (by decide), hI 8775 (by decide)⟩, fun t h0 => by rw [hst]; exact h0⟩
theorem IV.sigs (hl : l < 256) : ∀ (j : Nat) (S : kS), IV S n → l < S.gates → sLock S g = i32 l → sKind S l = 0 → IV (sSigs j S g) n ∧ FG S (sSigs j S g) ∧ ∀ t, stt S t = 0 → stt (sSigs j S g) t = 0 := by
  intro j
  induction j with
  | zero => intro S V _ _ _; exact ⟨V, FG.rf, fun _ h => h⟩
  | succ j ih =>
    intro S V h1 h2 h3
    obtain ⟨V1, F1, s1⟩ := V.signal (g := g) h1 h2 h3
    obtain ⟨V2, F2, s2⟩ := ih (sSignal S g) V1 (by rw [F1.2.2.2.1]; exact h1) ((congrFun F1.2.2.2.2.2 g).trans h2) ((congrFun F1.2.2.2.2.1 l).trans h3)
    exact ⟨V2, F1.tr F2, fun t h0 => s2 t (s1 t h0)⟩
theorem IV.pass (V : IV S n) (hc : S.cur = some t) (h0 : stt S t = 0) (al : aliv S t) (hs : S.std = 0) (ht : t < 256) (hg : g < S.gates) (hr : r = true → sKind S g = 1) : FI (sPass S t goes g r f).1 n := by
  unfold sPass
  by_cases h1 : goes = true
  · rw [if_pos h1]
    exact FX.stay FX.has V.has hc (st0_has h0) al hs
  · rw [if_neg h1]
    have hg2 : g < 256 := Nat.lt_of_lt_of_le hg V.2.2.1.1
    exact V.rest (n' := n) (t := t) (how := 6) (place := i32 g) (X := []) (Y := []) (Z := [(t, g, r)]) (Nat.le_refl _) h0 al hs ht (fun e he => by cases he) (Or.inl rfl) (Or.inr ⟨g, r, rfl, hg2, rfl⟩) (Or.inl (Or.inr (Or.inr rfl))) (by decide) (fun e he => by
      obtain rfl := List.mem_singleton.mp he
      exact ⟨hg, hr⟩) _ rfl rfl rfl rfl rfl (List.append_nil _).symm rfl rfl (List.append_nil _).symm V.2.2.2.2
end IV6
