/-! what the calls keep: channels -/
section IV3
variable {S S' S'' : kS} {t c g n n' : Nat} {v x : Int64} {f b : Bool} {k how place xc : Int32} {e : kMe} {L : List kMe}
theorem IV.mono (V : IV S n) (hn : n ≤ n') : IV S n' := by
  obtain ⟨B, T, G, R, L⟩ := V
  exact ⟨B, T, FX.rf.ig G hn, FX.rf.ir R hn, L.mono hn⟩
theorem del_x : (sDel S c v).me = S.me ∧ (sDel S c v).al = S.al ∧ (sDel S c v).mv.length ≤ S.mv.length + 1 ∧ (sDel S c v).mo.length ≤ S.mo.length := by
  unfold sDel
  cases hf : sFst S c false with
  | none => exact ⟨rfl, rfl, by show (S.mv ++ [(c, v)]).length ≤ _; simp, Nat.le_refl _⟩
  | some e => exact ⟨rfl, rfl, Nat.le_succ _, List.length_filter_le _ _⟩
theorem tkF_len (h : 0 < sCnt S c) : (sTkF S c).mv.length + 1 ≤ S.mv.length := by
  show (S.mv.eraseP (vAt c)).length + 1 ≤ _
  obtain ⟨a, ha, hp⟩ := List.countP_pos_iff.mp h
  have := List.length_pos_of_mem ha
  rw [List.length_eraseP_of_mem ha hp]
  omega
theorem take_x : (sTake S t c k).me = S.me ∧ (sTake S t c k).al = S.al ∧ (sTake S t c k).mv.length ≤ S.mv.length ∧ (sTake S t c k).mo.length ≤ S.mo.length := by
  unfold sTake
  cases hf : sFst S c true with
  | none =>
    by_cases h : 0 < sCnt S c
    · simp only [if_pos h]
      exact ⟨rfl, rfl, by have := tkF_len h; show (sTkF S c).mv.length ≤ _; omega, Nat.le_refl _⟩
    · simp only [if_neg h]
      exact ⟨rfl, rfl, Nat.le_refl _, Nat.le_refl _⟩
  | some e =>
    by_cases h : 0 < sCnt S c
    · simp only [if_pos h]
      refine ⟨rfl, rfl, ?_, List.length_filter_le _ _⟩
      have := tkF_len h
      show ((sTkF S c).mv ++ [(c, e.2.2.2.1)]).length ≤ _
      rw [List.length_append]
      exact this
    · simp only [if_neg h]
      exact ⟨rfl, rfl, Nat.le_refl _, List.length_filter_le _ _⟩
theorem all_x {r : Bool} : ∀ (j : Nat) (S : kS), (sAll j S c r f b).me = S.me ∧ (sAll j S c r f b).al = S.al ∧ (sAll j S c r f b).mv = S.mv ∧ (sAll j S c r f b).mo.length ≤ S.mo.length := by
  intro j
  induction j with
  | zero => intro S; exact ⟨rfl, rfl, rfl, Nat.le_refl _⟩
  | succ j ih =>
    intro S
    unfold sAll
    cases hf : sFst S c r with
    | none => exact ⟨rfl, rfl, rfl, Nat.le_refl _⟩
    | some e =>
      obtain ⟨a1, a2, a3, a4⟩ := ih (sMet S e 0 f b)
      exact ⟨a1, a2, a3, Nat.le_trans a4 (List.length_filter_le _ _)⟩
theorem st0_met {e : kMo} (B : SB S) (he : e ∈ S.mo) (h0 : stt S t = 0) : stt (sMet S e v f b) t = 0 := by
  unfold sMet
  rw [stt_wake]
  have hne : t ≠ e.1 := fun h => by
    have := (B.os e he).2.2
    rw [← h, h0] at this
    revert this; decide
  rw [if_neg hne]
  show stt (sHas S e.1 v f e.2.2.2.2 b) t = 0
  rw [stt_has]
  exact h0
theorem st0_has (h0 : stt S t = 0) {q : Nat} : stt (sHas S q v f k b) t = 0 := by rw [stt_has]; exact h0
theorem st0_del (B : SB S) (h0 : stt S t = 0) : stt (sDel S c v) t = 0 := by
  unfold sDel
  cases hf : sFst S c false with
  | none => exact h0
  | some e => exact st0_met B (sFst_mem hf).1 h0
theorem st0_take (B : SB S) (h0 : stt S t = 0) {q : Nat} : stt (sTake S q c k) t = 0 := by
  unfold sTake
  cases hf : sFst S c true with
  | none =>
    by_cases h : 0 < sCnt S c
    · simp only [if_pos h]
      have h1 : stt (sTkF S c) t = 0 := h0
      exact st0_has h1
    · simp only [if_neg h]; exact st0_has h0
  | some e =>
    have he := (sFst_mem hf).1
    by_cases h : 0 < sCnt S c
    · simp only [if_pos h]
      have h1 : stt (sTkF S c) t = 0 := h0
      have h2 : stt (sStore (sHas (sTkF S c) q (sTkV S c) true k false) c e.2.2.2.1) t = 0 := st0_has h1
      exact st0_met (SB.store (SB.has (SB.tkF B))) he h2
    · simp only [if_neg h]
      exact st0_met (SB.has B) he (st0_has h0)
theorem st0_all {r : Bool} : ∀ (j : Nat) (S : kS), SB S → stt S t = 0 → stt (sAll j S c r f b) t = 0 := by
  intro j
  induction j with
  | zero => intro S _ h; exact h
  | succ j ih =>
    intro S B h
    unfold sAll
    cases hf : sFst S c r with
    | none => exact h
    | some e => exact ih _ (B.met (sFst_mem hf).1) (st0_met B (sFst_mem hf).1 h)
theorem IV.ta (V : IV S n) : TA S := ⟨V.2.1, (alv_of V.1 V.2.1).2.1⟩
theorem IV.has (V : IV S n) : IV (sHas S t v f k b) n := by
  obtain ⟨B, T, G, R, L⟩ := V
  exact ⟨B.has, T.has, FX.has.ig G (Nat.le_refl _), FX.has.ir R (Nat.le_refl _), L⟩
theorem IV.del (V : IV S n) : IV (sDel S c v) (n + 1) := by
  have ta := V.ta
  obtain ⟨B, T, G, R, L⟩ := V
  obtain ⟨x1, x2, x3, x4⟩ := del_x (S := S) (c := c) (v := v)
  have hmt : (sDel S c v).mt = S.mt := FX.del.2.2.2.1
  have l1 := L.1.1
  have l2 := L.1.2
  exact ⟨B.del, ta.del.1, FX.del.ig G (Nat.le_succ _), FX.del.ir R (Nat.le_succ _), L.of (by rw [x1]; omega) (by rw [hmt]; omega) x1 hmt x2⟩
theorem IV.take (V : IV S n) : IV (sTake S t c k) n := by
  have ta := V.ta
  obtain ⟨B, T, G, R, L⟩ := V
  obtain ⟨x1, x2, x3, x4⟩ := take_x (S := S) (c := c) (t := t) (k := k)
  have hmt : (sTake S t c k).mt = S.mt := FX.take.2.2.2.1
  have l1 := L.1.1
  have l2 := L.1.2
  exact ⟨B.take, ta.take.1, FX.take.ig G (Nat.le_refl _), FX.take.ir R (Nat.le_refl _), L.of (by rw [x1]; omega) (by rw [hmt]; omega) x1 hmt x2⟩
theorem IV.all {r : Bool} (V : IV S n) (j : Nat) : IV (sAll j S c r f b) n := by
  have ta := V.ta
  obtain ⟨B, T, G, R, L⟩ := V
  obtain ⟨x1, x2, x3, x4⟩ := all_x (c := c) (f := f) (b := b) (r := r) j S
  have F := FX.all (c := c) (f := f) (b := b) (r := r) j S
  have hmt := F.2.2.2.1
  have l1 := L.1.1
  have l2 := L.1.2
  exact ⟨B.all, (ta.all j).1, F.ig G (Nat.le_refl _), F.ir R (Nat.le_refl _), L.of (by rw [x1, x3]; omega) (by rw [hmt]; omega) x1 hmt x2⟩
/-- the same but for what is told here -/
theorem IV.cong (V : IV S n) (hn : n ≤ n') (c1 : ∀ q, S'.cur = some q → q < 256) (c3 : S'.rd = S.rd) (c4 : S'.mo = S.mo) (c5 : S'.sn = S.sn) (c6 : S'.me = S.me) (c9 : S'.gates = S.gates) (hB : hp_B S'.m 8729 = hp_B S.m 8729) (h1 : hp_I S'.m 8731 = hp_I S.m 8731) (h2 : hp_I S'.m 8733 = hp_I S.m 8733) (k1 : hp_I S'.m 8771 = hp_I S.m 8771) (k2 : hp_I S'.m 8773 = hp_I S.m 8773) (k3 : hp_I S'.m 8775 = hp_I S.m 8775) (R : IR S' n') (L : IL S' n') : IV S' n' := by
  obtain ⟨B, T, G, -, -⟩ := V
  exact ⟨B.of c1 (fun q _ => by unfold stt; rw [h1]) (by rw [c3]; exact List.Sublist.refl _) (by rw [c4]; exact List.Sublist.refl _) (by rw [c5]; exact List.Sublist.refl _) (by rw [c6]; exact List.Sublist.refl _), T.cong hB h1 h2 c3, G.cong hn c9 (fun e he => by rw [← c5]; exact he) k1 k2 k3, R, L⟩
/-- it rests, another goes on -/
theorem IV.rest {X : List kMo} {Y : List kMe} {Z : List kMs} (V : IV S n) (hn : n ≤ n') (h0 : stt S t = 0) (al : aliv S t) (hs : S.std = 0) (ht : t < 256)
    (hX : ∀ e ∈ X, e.1 = t ∧ e.2.1 < 512 ∧ (how = 2 ∨ how = 3 ∨ how = 4)) (hY : Y = [] ∨ ∃ y, Y = [(Sum.inl t, y)] ∧ how = 5) (hZ : Z = [] ∨ ∃ g r, Z = [(t, g, r)] ∧ g < 256 ∧ how = 6)
    (hp : (how = 2 ∨ how = 3 ∨ how = 6) ∨ place = -1) (h1 : how ≠ 1) (hZ2 : ∀ e ∈ Z, e.2.1 < S.gates ∧ (e.2.2 = true → sKind S e.2.1 = 1))
    (T : kS) (t1 : T.cur = none) (t2 : T.std = S.std) (t4 : T.m = hp_sI (hp_sI S.m 8731 t how) 8733 t place) (t5 : T.rd = S.rd) (t6 : T.rooms = S.rooms) (t8 : T.mo = S.mo ++ X) (t10 : T.gates = S.gates) (t11 : T.sn = S.sn ++ Z) (t12 : T.me = S.me ++ Y) (hL : IL T n') : FI (sNext T) n' := by
  obtain ⟨B, TT, G, R, -⟩ := V
  have hst : ∀ q, stt T q = if q = t then how else stt S q := fun q => by unfold stt; rw [t4]; exact stt_set S t how place q
  have hI : ∀ k, k ≠ 8731 → k ≠ 8733 → hp_I T.m k = hp_I S.m k := fun k h1 h2 => by rw [t4]; exact set_I h1 h2 S.m
  have hB : hp_B T.m 8729 = hp_B S.m 8729 := by rw [t4]; rfl
  have B1 := SB.rest (how := how) (place := place) B (B.nin0 h0) ht X Y Z hX hY hZ
  have B2 : SB T := B1.of (fun q hq => by rw [t1] at hq; cases hq) (fun q _ => by unfold stt; rw [t4]) (by rw [t5]; exact List.Sublist.refl _) (by rw [t8]; exact List.Sublist.refl _) (by rw [t11]; exact List.Sublist.refl _) (by rw [t12]; exact List.Sublist.refl _)
  have T2 : IT T := TT.set (how := how) (place := place) hB hst (fun q => by
    rw [t4]
    by_cases hq : q = t <;> simp [hI_I, hq]) (fun q _ hm => by rw [t5]; exact hm) al hp (fun h => absurd h h1)
  have k1 := hI 8771 (by decide) (by decide)
  have k2 := hI 8773 (by decide) (by decide)
  have k3 := hI 8775 (by decide) (by decide)
  have G2 : IG T n' := by
    obtain ⟨a1, a2, a3, a4, a5, a6, a7⟩ := IG.cong (S' := T.s_sn S.sn) G hn t10 (fun e he => he) k1 k2 k3
    refine ⟨a1, a2, a3, a4, a5, fun e he hr => ?_, fun e he => ?_⟩
    · rw [t11] at he
      rcases List.mem_append.mp he with h | h
      · exact a6 e h hr
      · have := (hZ2 e h).2 hr
        unfold sKind at this ⊢
        rw [k1]
        exact this
    · rw [t11] at he
      rcases List.mem_append.mp he with h | h
      · exact a7 e h
      · rw [t10]; exact (hZ2 e h).1
  exact IV.next ⟨B2, T2, G2, R.cong hn t6 (hI 8749 (by decide) (by decide)), hL⟩ (t2.trans hs) t1
theorem FI.v0 (h : FI S n) (hc : S.cur = some t) : IV (sTh S 0) n ∧ S.std = 0 ∧ aliv S t ∧ stt S t = 0 ∧ t < 256 := by
  obtain ⟨-, a⟩ := h.iv hc
  exact ⟨((h.th (Nat.le_refl _) 0).iv (show (sTh S 0).cur = some t from hc)).1, a⟩
theorem FX.stay (F : FX S S') (V : IV S' n) (hc : S.cur = some t) (h0 : stt S' t = 0) (al : aliv S t) (hs : S.std = 0) : FI S' n := by
  refine V.stay (t := t) (F.2.2.2.2.2.1.trans hc) h0 ?_ (F.2.2.2.2.1.trans hs)
  unfold aliv
  rw [F.al]
  exact al
theorem F_send (h : FI S n) : FI (pSend S xc v).1 (n + 1) := by
  unfold pSend
  by_cases hA : xc ≠ -1 ∧ isCh S xc = false
  · rw [if_pos hA]; exact h.th (Nat.le_succ _) 1
  · rw [if_neg hA]
    rcases cur_or S with hc | ⟨t, hc⟩
    · rw [hc]; exact h.th (Nat.le_succ _) 2
    · obtain ⟨V, hs, al, h0, ht⟩ := h.v0 hc
      simp only [hc]
      by_cases h1 : 0 ≤ xc ∧ sClosed S xc.toNatClampNeg = true
      · rw [if_pos h1]; exact h.th (Nat.le_succ _) 3
      · rw [if_neg h1]
        by_cases h2 : maySend S xc = true
        · rw [if_pos h2]
          exact FX.stay (S := sTh S 0) (FX.tr FX.del FX.has) V.del.has hc (st0_has (st0_del V.1 h0)) al hs
        · rw [if_neg h2]
          obtain ⟨l1, l2⟩ := V.2.2.2.2.1
          by_cases h3 : 0 ≤ xc
          · rw [if_pos h3]
            have hlt : xc.toNatClampNeg < 512 := by
              rcases ch_or hA with h4 | h4
              · rw [h4] at h3; exact absurd h3 (by decide)
              · obtain ⟨q, hq, rfl, -⟩ := isCh_t h4
                rw [i32_nat (by omega)]; exact hq
            refine V.rest (n' := n + 1) (t := t) (how := 2) (place := xc) (X := [(t, xc.toNatClampNeg, true, v, -1)]) (Y := []) (Z := []) (Nat.le_succ _) h0 al hs ht (fun e he => ?_) (Or.inl rfl) (Or.inl rfl) (Or.inl (Or.inl rfl)) (by decide) (fun e he => by cases he) _ rfl rfl rfl rfl rfl rfl rfl (List.append_nil _).symm (List.append_nil _).symm ?_
            · obtain rfl := List.mem_singleton.mp he
              exact ⟨rfl, hlt, Or.inl rfl⟩
            · refine V.2.2.2.2.of (n' := n + 1) ?_ ?_ rfl rfl rfl
              · show S.mv.length + S.me.length ≤ _
                have : S.mv.length + S.me.length ≤ n := l1
                omega
              · show (S.mo ++ [_]).length + S.mt.length ≤ _
                rw [List.length_append]
                have : S.mo.length + S.mt.length ≤ n := l2
                simp
                omega
          · rw [if_neg h3]
            have hm1 : xc = -1 := by
              rcases ch_or hA with h4 | h4
              · exact h4
              · obtain ⟨q, hq, rfl, -⟩ := isCh_t h4
                exact absurd (by rw [i32_ge (by omega)]; trivial) h3
            exact V.rest (n' := n + 1) (t := t) (how := 7) (place := xc) (X := []) (Y := []) (Z := []) (Nat.le_succ _) h0 al hs ht (fun e he => by cases he) (Or.inl rfl) (Or.inl rfl) (Or.inr hm1) (by decide) (fun e he => by cases he) _ rfl rfl rfl rfl rfl (List.append_nil _).symm rfl (List.append_nil _).symm (List.append_nil _).symm (V.2.2.2.2.mono (Nat.le_succ _))
theorem F_recv (h : FI S n) : FI (pRecv S xc).1 (n + 1) := by
  unfold pRecv
  by_cases hA : xc ≠ -1 ∧ isCh S xc = false
  · rw [if_pos hA]; exact h.th (Nat.le_succ _) 1
  · rw [if_neg hA]
    rcases cur_or S with hc | ⟨t, hc⟩
    · rw [hc]; exact h.th (Nat.le_succ _) 2
    · obtain ⟨V, hs, al, h0, ht⟩ := h.v0 hc
      simp only [hc]
      by_cases h2 : mayRecv S xc = true
      · rw [if_pos h2]
        exact FX.stay (S := sTh S 0) FX.take (V.take.mono (Nat.le_succ _)) hc (st0_take V.1 h0) al hs
      · rw [if_neg h2]
        obtain ⟨l1, l2⟩ := V.2.2.2.2.1
        by_cases h3 : 0 ≤ xc
        · rw [if_pos h3]
          have hlt : xc.toNatClampNeg < 512 := by
            rcases ch_or hA with h4 | h4
            · rw [h4] at h3; exact absurd h3 (by decide)
            · obtain ⟨q, hq, rfl, -⟩ := isCh_t h4
              rw [i32_nat (by omega)]; exact hq
          refine V.rest (n' := n + 1) (t := t) (how := 3) (place := xc) (X := [(t, xc.toNatClampNeg, false, 0, -1)]) (Y := []) (Z := []) (Nat.le_succ _) h0 al hs ht (fun e he => ?_) (Or.inl rfl) (Or.inl rfl) (Or.inl (Or.inr (Or.inl rfl))) (by decide) (fun e he => by cases he) _ rfl rfl rfl rfl rfl rfl rfl (List.append_nil _).symm (List.append_nil _).symm ?_
          · obtain rfl := List.mem_singleton.mp he
            exact ⟨rfl, hlt, Or.inr (Or.inl rfl)⟩
          · refine V.2.2.2.2.of (n' := n + 1) ?_ ?_ rfl rfl rfl
            · show S.mv.length + S.me.length ≤ _
              have : S.mv.length + S.me.length ≤ n := l1
              omega
            · show (S.mo ++ [_]).length + S.mt.length ≤ _
              rw [List.length_append]
              have : S.mo.length + S.mt.length ≤ n := l2
              simp
              omega
        · rw [if_neg h3]
          have hm1 : xc = -1 := by
            rcases ch_or hA with h4 | h4
            · exact h4
            · obtain ⟨q, hq, rfl, -⟩ := isCh_t h4
              exact absurd (by rw [i32_ge (by omega)]; trivial) h3
          exact V.rest (n' := n + 1) (t := t) (how := 7) (place := xc) (X := []) (Y := []) (Z := []) (Nat.le_succ _) h0 al hs ht (fun e he => by cases he) (Or.inl rfl) (Or.inl rfl) (Or.inr hm1) (by decide) (fun e he => by cases he) _ rfl rfl rfl rfl rfl (List.append_nil _).symm rfl (List.append_nil _).symm (List.append_nil _).symm (V.2.2.2.2.mono (Nat.le_succ _))
end IV3
