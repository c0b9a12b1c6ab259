/-! what the calls keep: finish, sleep, channel, release -/
section IV5
variable {S S' S'' : kS} {t c g n n' : Nat} {v x : Int64} {f b : Bool} {k how place xc : Int32} {e : kMe} {L : List kMe}
theorem F_end (h : FI S n) : FI (sEnd S) (n + 1) := by
  obtain ⟨I, J⟩ := h
  obtain ⟨u1, u2, u3, u4, u5, u6, u7, u8, u9, u10, u11, u12, u13⟩ := sEnd_f S
  generalize sEnd S = U at *
  have hI : hp_I U.m = hp_I S.m := by rw [u4, sKill_kill, kill_I]
  have hB : ∀ q, q < 256 → hp_B U.m 8729 q = false := fun q hq => by rw [u4, sKill_kill, kill_B, if_pos hq]
  have hk : ∀ g, sKind U g = sKind S g := fun g => by unfold sKind; rw [hI]
  have hh : ∀ g, sHeld U g = sHeld S g := fun g => by unfold sHeld; rw [hI]
  have hl : ∀ g, sLock U g = sLock S g := fun g => by unfold sLock; rw [hI]
  have l1 := I.l.1
  have l2 := I.l.2
  have nal : ∀ q, q < 256 → hp_B U.m 8729 q = true → False := fun q hq h => by rw [hB q hq] at h; cases h
  have hcn : ∀ (t : Nat) {P : Prop}, U.cur = some t → P := fun t P h => by rw [u1] at h; cases h
  refine ⟨⟨⟨fun t h => hcn t h, ?_, ?_, ?_, ?_, ?_, ?_, ?_, ?_⟩, ⟨?_, ?_⟩, ?_, fun t h => hcn t h, ?_, ?_, ?_, ?_, ?_⟩, ⟨fun t h => hcn t h, fun _ => Or.inl u2, ?_, fun h => absurd u1 h, fun t h => hcn t h, fun q hq h => (nal q hq h).elim, ?_, ?_, ?_, ?_, ?_, ?_, fun q hq h => (nal q hq h).elim⟩⟩
  · rw [u5]; exact List.nodup_nil
  · rw [u5]; intro t ht; cases ht
  · rw [u8]; intro e he; cases he
  · rw [u11]; exact List.nodup_nil
  · rw [u11]; intro e he; cases he
  · rw [u12]
    exact List.Nodup.sublist (List.Sublist.filterMap _ List.filter_sublist) I.b.en
  · rw [u12]
    intro t y hy
    have := (List.mem_filter.mp hy).2
    cases this
  · rw [u12]
    intro c y hy
    exact I.b.ec c y (List.mem_filter.mp hy).1
  · rw [u7, u12]
    have := List.length_filter_le (fun e : kMe => e.1.isRight) S.me
    omega
  · rw [u8, u9]; simp; omega
  · unfold SA
    have := I.a
    unfold SA at this
    rw [u13, u12, this, List.countP_filter]
    congr 1
    funext e
    simp
  · rw [u9]; exact I.ml
  · rw [u9]; exact I.mc
  · rw [u10]; exact I.gl
  · rw [u13]; exact I.al
  · intro g hg h3
    rw [u10] at hg
    rw [hk] at h3
    obtain ⟨l, z1, z2, z3⟩ := I.lk g hg h3
    exact ⟨l, by rw [u10]; exact z1, by rw [hl]; exact z2, by rw [hk]; exact z3⟩
  · intro g hg
    rw [u10] at hg
    rw [hk]
    exact J.kd g hg
  · intro g hg
    rw [u10] at hg
    rw [hk, hh]
    obtain ⟨z1, z2, z3⟩ := J.hk g hg
    refine ⟨z1, fun h => ?_, z3⟩
    rcases z2 h with h2 | ⟨j, hj, h2⟩
    · exact Or.inl h2
    · exact Or.inr ⟨j, by omega, h2⟩
  · intro g hg
    rw [u10] at hg
    rw [hh]
    exact J.hz g hg
  · rw [u11]; intro e he; cases he
  · rw [u11]; intro e he; cases he
  · rw [u6]
    have := J.rb.1
    exact ⟨by omega, J.rb.2⟩
  · intro c hc
    unfold sRoom
    rw [hI]
    exact J.rc c hc
theorem F_finish (h : FI S n) : FI (pFinish S).1 (n + 1) := by
  unfold pFinish
  rcases cur_or S with hc | ⟨t, hc⟩
  · rw [hc]; exact h.th (Nat.le_succ _) 1
  · simp only [hc]
    cases t with
    | zero => exact F_end h
    | succ t =>
      simp only
      obtain ⟨V, hs, al, h0, ht⟩ := h.v0 hc
      obtain ⟨B, T, G, R, L⟩ := V
      obtain ⟨U, hU⟩ : ∃ U : kS, U = (kS.s_cur ((kS.s_m ((kS.s_th S (0))) (hp_sB S.m 8729 (t + 1) false))) (none)) := ⟨_, rfl⟩
      rw [← hU]
      have um : U.m = hp_sB S.m 8729 (t + 1) false := by subst hU; rfl
      have hI : hp_I U.m = hp_I S.m := by rw [um]; rfl
      have hB : ∀ q, hp_B U.m 8729 q = if q = t + 1 then false else hp_B S.m 8729 q := fun q => by
        rw [um]
        by_cases h : q = t + 1 <;> simp [hB_B, h]
      have hst : ∀ q, stt U q = stt S q := fun q => congrFun (congrFun hI 8731) q
      have ur : U.rd = S.rd := by subst hU; rfl
      have B2 : SB U := B.of (S := sTh S 0) (fun p hp => by subst hU; cases hp) (fun p _ => hst p) (by subst hU; exact List.Sublist.refl _) (by subst hU; exact List.Sublist.refl _) (by subst hU; exact List.Sublist.refl _) (by subst hU; exact List.Sublist.refl _)
      have T2 : IT U := by
        refine ⟨fun q hq hb => ?_, fun q hq hb => ?_, fun q hq hb h2 => ?_⟩
        · rw [hst]
          rw [hB] at hb
          by_cases hqt : q = t + 1
          · rw [hqt]; exact h0
          · rw [if_neg hqt] at hb; exact T.1 q hq hb
        · rw [hst, hI]
          rw [hB] at hb
          by_cases hqt : q = t + 1
          · rw [if_pos hqt] at hb; cases hb
          · rw [if_neg hqt] at hb; exact T.2.1 q hq hb
        · rw [hst] at h2
          rw [hB] at hb
          rw [ur]
          by_cases hqt : q = t + 1
          · rw [if_pos hqt] at hb; cases hb
          · rw [if_neg hqt] at hb; exact T.2.2 q hq hb h2
      have V2 : IV U (n + 1) := ⟨B2, T2, G.cong (Nat.le_succ _) (by subst hU; rfl) (fun e he => by subst hU; exact he) (congrFun hI _) (congrFun hI _) (congrFun hI _), R.cong (Nat.le_succ _) (by subst hU; rfl) (congrFun hI _), by subst hU; exact L.mono (Nat.le_succ _)⟩
      exact V2.next (by subst hU; exact hs) (by subst hU; rfl)
theorem F_sleep (h : FI S n) : FI (pSleep S v).1 (n + 1) := by
  unfold pSleep
  by_cases h1 : 1000000000 < v
  · rw [if_pos h1]; exact h.th (Nat.le_succ _) 1
  · rw [if_neg h1]
    rcases cur_or S with hc | ⟨t, hc⟩
    · rw [hc]; exact h.th (Nat.le_succ _) 2
    · simp only [hc]
      by_cases h2 : v ≤ 0
      · rw [if_pos h2]; exact F_way h
      · rw [if_neg h2]
        obtain ⟨V, hs, al, h0, ht⟩ := h.v0 hc
        obtain ⟨⟨l1, l2⟩, a3, a4, a5, a6⟩ := V.2.2.2.2
        have l1' : S.mv.length + S.me.length ≤ n := l1
        have l2' : S.mo.length + S.mt.length ≤ n := l2
        have a3' : S.al = S.me.countP (fun e => e.1.isRight) := a3
        refine V.rest (S := sTh S 0) (n' := n + 1) (t := t) (how := 5) (place := -1) (X := []) (Y := [(Sum.inl t, S.clk + v)]) (Z := []) (Nat.le_succ _) h0 al hs ht (fun e he => by cases he) (Or.inr ⟨_, rfl, rfl⟩) (Or.inl rfl) (Or.inr rfl) (by decide) (fun e he => by cases he) _ rfl rfl rfl rfl rfl (List.append_nil _).symm rfl (List.append_nil _).symm rfl ?_
        refine ⟨⟨?_, ?_⟩, ?_, a4, a5, a6⟩
        · show S.mv.length + (S.me ++ [(Sum.inl t, S.clk + v)]).length ≤ n + 1
          rw [List.length_append]
          simp
          omega
        · show S.mo.length + S.mt.length ≤ n + 1
          omega
        · show S.al = (S.me ++ [(Sum.inl t, S.clk + v)]).countP (fun e : kMe => e.1.isRight)
          rw [List.countP_append, ← a3']
          rfl
/-- the same but for channels and gates -/
theorem FI.of (h : FI S n) (c1 : S'.cur = S.cur) (c2 : S'.std = S.std) (c3 : S'.rd = S.rd) (c4 : S'.mo = S.mo) (c5 : S'.sn = S.sn) (c6 : S'.me = S.me) (c7 : S'.mt = S.mt) (c8 : S'.al = S.al) (c9 : S'.mv.length ≤ S.mv.length) (hn : n ≤ n') (hB : hp_B S'.m 8729 = hp_B S.m 8729) (h1 : hp_I S'.m 8731 = hp_I S.m 8731) (h2 : hp_I S'.m 8733 = hp_I S.m 8733) (G : IG S' n') (R : IR S' n') : FI S' n' := by
  obtain ⟨I, J⟩ := h
  obtain ⟨g1, g2, g3, g4, g5, g6, g7⟩ := G
  have l1 := I.l.1
  have l2 := I.l.2
  refine ⟨⟨I.b.of (fun q hq => I.b.cu q (c1 ▸ hq)) (fun q _ => by unfold stt; rw [h1]) (by rw [c3]; exact List.Sublist.refl _) (by rw [c4]; exact List.Sublist.refl _) (by rw [c5]; exact List.Sublist.refl _) (by rw [c6]; exact List.Sublist.refl _), ⟨by rw [c6]; omega, by rw [c4, c7]; omega⟩, ?_, fun q hq => ?_, by rw [c7]; exact I.ml, by rw [c7]; exact I.mc, g1, by rw [c8]; exact I.al, g2⟩, ⟨fun q hq => ?_, fun hq => ?_, g3, fun hq q h3 h4 => ?_, fun q hq => ?_, fun q h3 h4 => ?_, g4, g5, g6, g7, R.1, R.2, fun q h3 h4 h5 => ?_⟩⟩
  · unfold SA; rw [c8, c6]; exact I.a
  · unfold stt; rw [h1]; exact I.cs q (c1 ▸ hq)
  · rw [c2]; exact J.sd q (c1 ▸ hq)
  · rw [c2]; exact J.s2 (c1 ▸ hq)
  · unfold stt; rw [h1]; rw [hB] at h4; exact J.dd (c1 ▸ hq) q h3 h4
  · rw [hB]; exact J.lv q (c1 ▸ hq)
  · unfold stt; rw [h1, h2]; rw [hB] at h4; exact J.wh q h3 h4
  · unfold stt at h5; rw [h1] at h5; rw [hB] at h4; rw [c3]; exact J.rr q h3 h4 h5
theorem FI.ga (h : FI S n) : IG S n := ⟨h.1.gl, h.1.lk, h.2.kd, h.2.hk, h.2.hz, h.2.rk, h.2.sg⟩
theorem FI.ro (h : FI S n) : IR S n := ⟨h.2.rb, h.2.rc⟩
theorem F_channel (h : FI S n) (hn : n < 512) : FI (pChannel S xc).1 (n + 1) := by
  unfold pChannel
  by_cases h1 : xc < 0 ∨ 8192 < xc
  · rw [if_pos h1]; exact h.th (Nat.le_succ _) 1
  · rw [if_neg h1]
    cases hf : (List.range 512).find? (fun c => !hp_B S.m 8745 c) with
    | none => exact h.th (Nat.le_succ _) 2
    | some c =>
      simp only
      by_cases h2 : 8192 < S.rooms + xc
      · rw [if_pos h2]; exact h.th (Nat.le_succ _) 2
      · rw [if_neg h2]
        have hx0 : 0 ≤ xc.toInt := by
          have : ¬ xc < 0 := fun h => h1 (Or.inl h)
          rw [Int32.lt_iff_toInt_lt] at this
          have : ¬ xc.toInt < 0 := this
          omega
        have hx1 : xc.toInt ≤ 8192 := by
          have : ¬ 8192 < xc := fun h => h1 (Or.inr h)
          rw [Int32.lt_iff_toInt_lt] at this
          have : ¬ (8192 : Int) < xc.toInt := this
          omega
        obtain ⟨⟨r1, r2⟩, r3⟩ := h.ro
        have e2 : (S.rooms + xc : Int32).toInt = S.rooms.toInt + xc.toInt := by
          rw [Int32.toInt_add]
          exact Int.bmod_eq_of_le (by omega) (by omega)
        have h3 : S.rooms.toInt + xc.toInt ≤ 8192 := by
          rw [Int32.lt_iff_toInt_lt, e2] at h2
          have : ¬ (8192 : Int) < S.rooms.toInt + xc.toInt := h2
          omega
        obtain ⟨U, hU⟩ : ∃ U : kS, U = (kS.s_rooms ((kS.s_m ((kS.s_th S (0))) (hp_sI (hp_sB (hp_sB S.m 8745 c true) 8747 c false) 8749 c xc))) (S.rooms + xc)) := ⟨_, rfl⟩
        rw [← hU]
        have um : U.m = hp_sI (hp_sB (hp_sB S.m 8745 c true) 8747 c false) 8749 c xc := by subst hU; rfl
        have ur : U.rooms = S.rooms + xc := by subst hU; rfl
        have hI : ∀ k, k ≠ 8749 → hp_I U.m k = hp_I S.m k := fun k hk => by
          rw [um]; funext j; simp [hI_I, hI_B, hk]
        have hB : hp_B U.m 8729 = hp_B S.m 8729 := by
          rw [um]; funext j; simp [hB_I, hB_B]
        refine h.of (n' := n + 1) (by subst hU; rfl) (by subst hU; rfl) (by subst hU; rfl) (by subst hU; rfl) (by subst hU; rfl) (by subst hU; rfl) (by subst hU; rfl) (by subst hU; rfl) (by subst hU; exact Nat.le_refl _) (Nat.le_succ _) hB (hI _ (by decide)) (hI _ (by decide)) (h.ga.cong (Nat.le_succ _) (by subst hU; rfl) (fun e he => by subst hU; exact he) (hI _ (by decide)) (hI _ (by decide)) (hI _ (by decide))) ⟨⟨?_, ?_⟩, fun q hq => ?_⟩
        · rw [ur, e2]; omega
        · rw [ur, e2]; omega
        · unfold sRoom
          rw [um]
          by_cases hqc : q = c
          · simp [hI_I, hqc]; omega
          · have := r3 q hq
            unfold sRoom at this
            simp [hI_I, hI_B, hqc]
            exact this
theorem F_release (h : FI S n) (hn : n < 512) : FI (pRelease S xc).1 (n + 1) := by
  unfold pRelease
  split
  · rename_i h1
    obtain ⟨q, hq, hqe, -⟩ := isCh_t h1.1
    have hnat : xc.toNatClampNeg = q := by rw [hqe]; exact i32_nat (by omega)
    rw [hnat]
    obtain ⟨⟨r1, r2⟩, r3⟩ := h.ro
    obtain ⟨r4, r5⟩ := r3 q hq
    have e2 : (S.rooms - sRoom S q : Int32).toInt = S.rooms.toInt - (sRoom S q).toInt := by
      rw [Int32.toInt_sub]
      exact Int.bmod_eq_of_le (by omega) (by omega)
    obtain ⟨U, hU⟩ : ∃ U : kS, U = (kS.s_rooms ((kS.s_m ((kS.s_mv ((kS.s_th S (0))) (S.mv.filter (fun x => !vAt q x)))) (hp_sB S.m 8745 q false))) (S.rooms - sRoom S q)) := ⟨_, rfl⟩
    show FI _ (n + 1)
    rw [← hU]
    have um : U.m = hp_sB S.m 8745 q false := by subst hU; rfl
    have ur : U.rooms = S.rooms - sRoom S q := by subst hU; rfl
    have hI : hp_I U.m = hp_I S.m := by rw [um]; rfl
    have hB : hp_B U.m 8729 = hp_B S.m 8729 := by
      rw [um]; funext j; simp [hB_B]
    refine h.of (n' := n + 1) (by subst hU; rfl) (by subst hU; rfl) (by subst hU; rfl) (by subst hU; rfl) (by subst hU; rfl) (by subst hU; rfl) (by subst hU; rfl) (by subst hU; rfl) (by subst hU; exact List.length_filter_le _ _) (Nat.le_succ _) hB (congrFun hI _) (congrFun hI _) (h.ga.cong (Nat.le_succ _) (by subst hU; rfl) (fun e he => by subst hU; exact he) (congrFun hI _) (congrFun hI _) (congrFun hI _)) ⟨⟨?_, ?_⟩, fun q hq => ?_⟩
    · rw [ur, e2]; omega
    · rw [ur, e2]; omega
    · unfold sRoom
      rw [hI]
      exact r3 q hq
  · exact h.th (Nat.le_succ _) 0
end IV5
