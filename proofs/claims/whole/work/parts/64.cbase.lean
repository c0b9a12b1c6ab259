/-! the class's blocks, where the state changes beside them -/
section CB0
variable {w w' : kx_H} {S S' : kS} {t g n : Nat} {x how : Int32} {v : Int64} {f b : Bool}
theorem CS.sc (h : CS w S) (h1 : S'.cur = S.cur) (h2 : S'.std = S.std) (h3 : S'.clk = S.clk) (h4 : hp_B S'.m 8729 = hp_B S.m 8729) (h5 : hp_B S'.m 8745 = hp_B S.m 8745) (h6 : S'.rooms = S.rooms) (h7 : S'.gates = S.gates) (h8 : S'.al = S.al) (h9 : S'.mt = S.mt) : CS w S' := by
  unfold CS
  rw [h1, h2, h3, h4, h5, h6, h7, h8, h9]
  exact h
theorem CC.sc (h : CC w S) (h1 : hp_B S'.m 8745 = hp_B S.m 8745) (h2 : hp_B S'.m 8747 = hp_B S.m 8747) (h3 : hp_I S'.m 8749 = hp_I S.m 8749) (h4 : S'.mv = S.mv) (h5 : S'.me = S.me) : CC w S' := by
  unfold CC sCnt
  rw [h1, h2, h3, h4, h5]
  exact h
theorem CGt.sc (h : CGt w S) (h1 : hp_I S'.m 8771 = hp_I S.m 8771) (h2 : hp_I S'.m 8773 = hp_I S.m 8773) (h3 : hp_I S'.m 8775 = hp_I S.m 8775) (h4 : S'.gates = S.gates) : CGt w S' := by
  unfold CGt sKind sLock
  rw [h1, h2, h3, h4]
  exact h
theorem CQ.sc {st st' : Nat → Int32} {Q : List kQ} {fp tp : List Nat} (h : CQ w st Q fp tp n) (h1 : ∀ q ∈ Q, st' q.2.2.1 = st q.2.2.1) : CQ w st' Q fp tp n := by
  obtain ⟨a1, a2, a3⟩ := h
  exact ⟨a1, fun q hq => by rw [h1 q hq]; exact a2 q hq, a3⟩
theorem has_I {k : Nat} (hk : k ≠ 8739) : hp_I (sHas S t v f x b).m k = hp_I S.m k := by
  funext j
  simp [sHas, hI_I, hI_B, hI_L, hk, kS.th, kS.s_th, kS.cur, kS.s_cur, kS.std, kS.s_std, kS.clk, kS.s_clk, kS.m, kS.s_m, kS.rd, kS.s_rd, kS.rooms, kS.s_rooms, kS.mv, kS.s_mv, kS.mo, kS.s_mo, kS.mt, kS.s_mt, kS.gates, kS.s_gates, kS.sn, kS.s_sn, kS.me, kS.s_me, kS.al, kS.s_al]
theorem has_B {k : Nat} (h1 : k ≠ 8737) (h2 : k ≠ 8741) : hp_B (sHas S t v f x b).m k = hp_B S.m k := by
  funext j
  simp [sHas, hB_I, hB_B, hB_L, h1, h2, kS.th, kS.s_th, kS.cur, kS.s_cur, kS.std, kS.s_std, kS.clk, kS.s_clk, kS.m, kS.s_m, kS.rd, kS.s_rd, kS.rooms, kS.s_rooms, kS.mv, kS.s_mv, kS.mo, kS.s_mo, kS.mt, kS.s_mt, kS.gates, kS.s_gates, kS.sn, kS.s_sn, kS.me, kS.s_me, kS.al, kS.s_al]
theorem wk_I {k : Nat} (h1 : k ≠ 8731) (h2 : k ≠ 8733) : hp_I (sWake S t).m k = hp_I S.m k := by
  funext j
  simp [sWake, hI_I, h1, h2, kS.th, kS.s_th, kS.cur, kS.s_cur, kS.std, kS.s_std, kS.clk, kS.s_clk, kS.m, kS.s_m, kS.rd, kS.s_rd, kS.rooms, kS.s_rooms, kS.mv, kS.s_mv, kS.mo, kS.s_mo, kS.mt, kS.s_mt, kS.gates, kS.s_gates, kS.sn, kS.s_sn, kS.me, kS.s_me, kS.al, kS.s_al]
variable {Q : List kQ} {fp tp fv ft : List Nat} {V : List (Nat × Int64 × Nat)} {A : List (Nat × kMe)} {d : Nat}
/-- Task.tell -/
theorem C_tell (H : CX w S n Q fp tp V fv A ft) (ht : t < 256) : ∃ w', kx_ev wx_M (d + 1) 12 [kx_r 6 (some (524 + 2 * t)), kx_l v, kx_i (kx_b f), kx_i x, kx_i (kx_b b)] w = some (.inl none, w') ∧ CX w' (sHas S t v f x b) n Q fp tp V fv A ft ∧ FR [1216] [1212] [] [1214, 1218] w w' := by
  have F : FR [1216] [1212] [] [1214, 1218] w (hp_sB (hp_sI (hp_sB (hp_sL w 1212 (524 + 2 * t) v) 1214 (524 + 2 * t) f) 1216 (524 + 2 * t) x) 1218 (524 + 2 * t) b) := FR.sB (by decide) (FR.sI (by decide) (FR.sB (by decide) (FR.sL (by decide) FR.rf)))
  refine ⟨_, ?_, ⟨H.k.fr F (by decide) (by decide) (by decide) (by decide), ?_, (H.s.fr F (by decide) (by decide) (by decide) (by decide)).sc rfl rfl rfl (has_B (by decide) (by decide)) (has_B (by decide) (by decide)) rfl rfl rfl rfl, (H.c.fr F (by decide) (by decide) (by decide) (by decide)).sc (has_B (by decide) (by decide)) (has_B (by decide) (by decide)) (has_I (by decide)) rfl rfl, (H.g.fr F (by decide) (by decide) (by decide) (by decide)).sc (has_I (by decide)) (has_I (by decide)) (has_I (by decide)) rfl, (H.q.fr F (by decide) (by decide) (by decide) (by decide)).sc (fun q _ => congrFun stt_has _), H.o.fr F (by decide) (by decide) (by decide) (by decide), H.rd, H.mo, H.sn, H.v.fr F (by decide) (by decide) (by decide) (by decide), H.a.imp id (fun h => h.fr F (by decide) (by decide) (by decide) (by decide))⟩, F⟩
  · skip
    obtain ⟨ψ, hψ⟩ := kx_fu
    rw [mE_12 hψ]
    unfold mb_12_0
    simp only [ob_s, kx_sb_b]
  · refine ⟨fun q hq => ?_, fun q hq => ?_, fun q hq => ?_, fun q hq => ?_, fun q hq => ?_, fun q hq => ?_, fun q hq => ?_⟩
    · rw [has_B (by decide) (by decide), ← H.t.al q hq]; simp [hI_I, hI_L, hI_R, hI_B, hI_b, hL_I, hL_L, hL_R, hL_B, hL_b, hR_I, hR_L, hR_R, hR_B, hR_b, hB_I, hB_L, hB_R, hB_B, hB_b, hN_I, hN_L, hN_R, hN_B, hN_b, hT_I, hT_L, hT_R, hT_B, hT_b, hX_I, hX_L, hX_R, hX_B, hX_b, hC_I, hC_L, hC_R, hC_B, hC_b, hU_I, hU_L, hU_R, hU_B, hU_b]
    · rw [has_I (by decide), ← H.t.st q hq]; simp [hI_I, hI_L, hI_R, hI_B, hI_b, hL_I, hL_L, hL_R, hL_B, hL_b, hR_I, hR_L, hR_R, hR_B, hR_b, hB_I, hB_L, hB_R, hB_B, hB_b, hN_I, hN_L, hN_R, hN_B, hN_b, hT_I, hT_L, hT_R, hT_B, hT_b, hX_I, hX_L, hX_R, hX_B, hX_b, hC_I, hC_L, hC_R, hC_B, hC_b, hU_I, hU_L, hU_R, hU_B, hU_b]
    · rw [has_I (by decide), ← H.t.at q hq]; simp [hI_I, hI_L, hI_R, hI_B, hI_b, hL_I, hL_L, hL_R, hL_B, hL_b, hR_I, hR_L, hR_R, hR_B, hR_b, hB_I, hB_L, hB_R, hB_B, hB_b, hN_I, hN_L, hN_R, hN_B, hN_b, hT_I, hT_L, hT_R, hT_B, hT_b, hX_I, hX_L, hX_R, hX_B, hX_b, hC_I, hC_L, hC_R, hC_B, hC_b, hU_I, hU_L, hU_R, hU_B, hU_b]
    · have := H.t.re q hq
      by_cases hqt : q = t
      · subst hqt; simp [hI_I, hI_L, hI_R, hI_B, hI_b, hL_I, hL_L, hL_R, hL_B, hL_b, hR_I, hR_L, hR_R, hR_B, hR_b, hB_I, hB_L, hB_R, hB_B, hB_b, hN_I, hN_L, hN_R, hN_B, hN_b, hT_I, hT_L, hT_R, hT_B, hT_b, hX_I, hX_L, hX_R, hX_B, hX_b, hC_I, hC_L, hC_R, hC_B, hC_b, hU_I, hU_L, hU_R, hU_B, hU_b, sHas, kS.th, kS.s_th, kS.cur, kS.s_cur, kS.std, kS.s_std, kS.clk, kS.s_clk, kS.m, kS.s_m, kS.rd, kS.s_rd, kS.rooms, kS.s_rooms, kS.mv, kS.s_mv, kS.mo, kS.s_mo, kS.mt, kS.s_mt, kS.gates, kS.s_gates, kS.sn, kS.s_sn, kS.me, kS.s_me, kS.al, kS.s_al]
      · have h9 : ¬ 2 * q = 2 * t := by omega
        simp [hI_I, hI_L, hI_R, hI_B, hI_b, hL_I, hL_L, hL_R, hL_B, hL_b, hR_I, hR_L, hR_R, hR_B, hR_b, hB_I, hB_L, hB_R, hB_B, hB_b, hN_I, hN_L, hN_R, hN_B, hN_b, hT_I, hT_L, hT_R, hT_B, hT_b, hX_I, hX_L, hX_R, hX_B, hX_b, hC_I, hC_L, hC_R, hC_B, hC_b, hU_I, hU_L, hU_R, hU_B, hU_b, sHas, kS.th, kS.s_th, kS.cur, kS.s_cur, kS.std, kS.s_std, kS.clk, kS.s_clk, kS.m, kS.s_m, kS.rd, kS.s_rd, kS.rooms, kS.s_rooms, kS.mv, kS.s_mv, kS.mo, kS.s_mo, kS.mt, kS.s_mt, kS.gates, kS.s_gates, kS.sn, kS.s_sn, kS.me, kS.s_me, kS.al, kS.s_al, hqt, h9]; exact this
    · have := H.t.fl q hq
      by_cases hqt : q = t
      · subst hqt; simp [hI_I, hI_L, hI_R, hI_B, hI_b, hL_I, hL_L, hL_R, hL_B, hL_b, hR_I, hR_L, hR_R, hR_B, hR_b, hB_I, hB_L, hB_R, hB_B, hB_b, hN_I, hN_L, hN_R, hN_B, hN_b, hT_I, hT_L, hT_R, hT_B, hT_b, hX_I, hX_L, hX_R, hX_B, hX_b, hC_I, hC_L, hC_R, hC_B, hC_b, hU_I, hU_L, hU_R, hU_B, hU_b, sHas, kS.th, kS.s_th, kS.cur, kS.s_cur, kS.std, kS.s_std, kS.clk, kS.s_clk, kS.m, kS.s_m, kS.rd, kS.s_rd, kS.rooms, kS.s_rooms, kS.mv, kS.s_mv, kS.mo, kS.s_mo, kS.mt, kS.s_mt, kS.gates, kS.s_gates, kS.sn, kS.s_sn, kS.me, kS.s_me, kS.al, kS.s_al]
      · have h9 : ¬ 2 * q = 2 * t := by omega
        simp [hI_I, hI_L, hI_R, hI_B, hI_b, hL_I, hL_L, hL_R, hL_B, hL_b, hR_I, hR_L, hR_R, hR_B, hR_b, hB_I, hB_L, hB_R, hB_B, hB_b, hN_I, hN_L, hN_R, hN_B, hN_b, hT_I, hT_L, hT_R, hT_B, hT_b, hX_I, hX_L, hX_R, hX_B, hX_b, hC_I, hC_L, hC_R, hC_B, hC_b, hU_I, hU_L, hU_R, hU_B, hU_b, sHas, kS.th, kS.s_th, kS.cur, kS.s_cur, kS.std, kS.s_std, kS.clk, kS.s_clk, kS.m, kS.s_m, kS.rd, kS.s_rd, kS.rooms, kS.s_rooms, kS.mv, kS.s_mv, kS.mo, kS.s_mo, kS.mt, kS.s_mt, kS.gates, kS.s_gates, kS.sn, kS.s_sn, kS.me, kS.s_me, kS.al, kS.s_al, hqt, h9]; exact this
    · have := H.t.ca q hq
      by_cases hqt : q = t
      · subst hqt; simp [hI_I, hI_L, hI_R, hI_B, hI_b, hL_I, hL_L, hL_R, hL_B, hL_b, hR_I, hR_L, hR_R, hR_B, hR_b, hB_I, hB_L, hB_R, hB_B, hB_b, hN_I, hN_L, hN_R, hN_B, hN_b, hT_I, hT_L, hT_R, hT_B, hT_b, hX_I, hX_L, hX_R, hX_B, hX_b, hC_I, hC_L, hC_R, hC_B, hC_b, hU_I, hU_L, hU_R, hU_B, hU_b, sHas, kS.th, kS.s_th, kS.cur, kS.s_cur, kS.std, kS.s_std, kS.clk, kS.s_clk, kS.m, kS.s_m, kS.rd, kS.s_rd, kS.rooms, kS.s_rooms, kS.mv, kS.s_mv, kS.mo, kS.s_mo, kS.mt, kS.s_mt, kS.gates, kS.s_gates, kS.sn, kS.s_sn, kS.me, kS.s_me, kS.al, kS.s_al]
      · have h9 : ¬ 2 * q = 2 * t := by omega
        simp [hI_I, hI_L, hI_R, hI_B, hI_b, hL_I, hL_L, hL_R, hL_B, hL_b, hR_I, hR_L, hR_R, hR_B, hR_b, hB_I, hB_L, hB_R, hB_B, hB_b, hN_I, hN_L, hN_R, hN_B, hN_b, hT_I, hT_L, hT_R, hT_B, hT_b, hX_I, hX_L, hX_R, hX_B, hX_b, hC_I, hC_L, hC_R, hC_B, hC_b, hU_I, hU_L, hU_R, hU_B, hU_b, sHas, kS.th, kS.s_th, kS.cur, kS.s_cur, kS.std, kS.s_std, kS.clk, kS.s_clk, kS.m, kS.s_m, kS.rd, kS.s_rd, kS.rooms, kS.s_rooms, kS.mv, kS.s_mv, kS.mo, kS.s_mo, kS.mt, kS.s_mt, kS.gates, kS.s_gates, kS.sn, kS.s_sn, kS.me, kS.s_me, kS.al, kS.s_al, hqt, h9]; exact this
    · have := H.t.br q hq
      by_cases hqt : q = t
      · subst hqt; simp [hI_I, hI_L, hI_R, hI_B, hI_b, hL_I, hL_L, hL_R, hL_B, hL_b, hR_I, hR_L, hR_R, hR_B, hR_b, hB_I, hB_L, hB_R, hB_B, hB_b, hN_I, hN_L, hN_R, hN_B, hN_b, hT_I, hT_L, hT_R, hT_B, hT_b, hX_I, hX_L, hX_R, hX_B, hX_b, hC_I, hC_L, hC_R, hC_B, hC_b, hU_I, hU_L, hU_R, hU_B, hU_b, sHas, kS.th, kS.s_th, kS.cur, kS.s_cur, kS.std, kS.s_std, kS.clk, kS.s_clk, kS.m, kS.s_m, kS.rd, kS.s_rd, kS.rooms, kS.s_rooms, kS.mv, kS.s_mv, kS.mo, kS.s_mo, kS.mt, kS.s_mt, kS.gates, kS.s_gates, kS.sn, kS.s_sn, kS.me, kS.s_me, kS.al, kS.s_al]
      · have h9 : ¬ 2 * q = 2 * t := by omega
        simp [hI_I, hI_L, hI_R, hI_B, hI_b, hL_I, hL_L, hL_R, hL_B, hL_b, hR_I, hR_L, hR_R, hR_B, hR_b, hB_I, hB_L, hB_R, hB_B, hB_b, hN_I, hN_L, hN_R, hN_B, hN_b, hT_I, hT_L, hT_R, hT_B, hT_b, hX_I, hX_L, hX_R, hX_B, hX_b, hC_I, hC_L, hC_R, hC_B, hC_b, hU_I, hU_L, hU_R, hU_B, hU_b, sHas, kS.th, kS.s_th, kS.cur, kS.s_cur, kS.std, kS.s_std, kS.clk, kS.s_clk, kS.m, kS.s_m, kS.rd, kS.s_rd, kS.rooms, kS.s_rooms, kS.mv, kS.s_mv, kS.mo, kS.s_mo, kS.mt, kS.s_mt, kS.gates, kS.s_gates, kS.sn, kS.s_sn, kS.me, kS.s_me, kS.al, kS.s_al, hqt, h9]; exact this
end CB0
section QL
variable {Q : List kQ} {l : kLoc} {c g t p : Nat} {b : Bool}
theorem Qrl_l (h : ∀ q ∈ Q, lok q.1) (hl : lok l) : Qrl Q (lrw l) = (Q.filter (fun q => decide (q.1 = l))).map (·.2.1) := by
  unfold Qrl
  congr 1
  apply List.filter_congr
  intro q hq
  rw [Bool.eq_iff_iff]
  simp
  exact ⟨fun e => lrw_inj (h q hq) hl e, fun e => by rw [e]⟩
theorem Qrl_head (h : ∀ q ∈ Q, lok q.1) (hl : lok l) : (Qrl Q (lrw l)).head? = (Q.find? (fun q => decide (q.1 = l))).map (·.2.1) := by
  rw [Qrl_l h hl, List.head?_map, List.head?_filter]
theorem fm_no {α β : Type} {f : α → Option β} {a : α} {l : List α} (h : f a = none) : (a :: l).filterMap f = l.filterMap f := List.filterMap_cons_none h
theorem fd_no {α : Type} {f : α → Bool} {a : α} {l : List α} (h : f a = false) : (a :: l).find? f = l.find? f := by rw [List.find?_cons, h]
theorem fd_ye {α : Type} {f : α → Bool} {a : α} {l : List α} (h : f a = true) : (a :: l).find? f = some a := by rw [List.find?_cons, h]
theorem Qmo_find : (Q.filterMap qMo).find? (oAt c b) = (Q.find? (fun q => decide (q.1 = some (.inl (some c, b))))).bind qMo := by
  induction Q with
  | nil => rfl
  | cons q Q ih =>
    obtain ⟨ql, qp, qt, qv, qk⟩ := q
    rcases ql with _ | ⟨⟨_ | c', g'⟩ | ⟨g', r'⟩⟩
    · rw [fm_no rfl, fd_no (by simp)]; exact ih
    · rw [fm_no rfl, fd_no (by simp)]; exact ih
    · rw [List.filterMap_cons_some (f := qMo) (a := (some (.inl (some c', g')), qp, qt, qv, qk)) (b := (qt, c', g', qv, qk)) rfl]
      by_cases h : c' = c ∧ g' = b
      · obtain ⟨rfl, rfl⟩ := h
        rw [fd_ye (by simp [oAt]), fd_ye (by simp)]
        rfl
      · rw [fd_no (by simp only [oAt]; simp; exact fun e e2 => h ⟨e, e2⟩), fd_no (by simp; exact fun e e2 => h ⟨e, e2⟩)]
        exact ih
    · rw [fm_no rfl, fd_no (by simp)]; exact ih
theorem Qsn_find {how : Int32} (hh : how = 0 ∨ how = 1) : (Q.filterMap qSn).find? (gAt g how) = (Q.find? (fun q => decide (q.1 = some (.inr (g, how == 1))))).bind qSn := by
  have h2 : (how == 2) = false := by rcases hh with rfl | rfl <;> decide
  induction Q with
  | nil => rfl
  | cons q Q ih =>
    obtain ⟨ql, qp, qt, qv, qk⟩ := q
    rcases ql with _ | ⟨⟨_ | c', g'⟩ | ⟨g', r'⟩⟩
    · rw [fm_no rfl, fd_no (by simp)]; exact ih
    · rw [fm_no rfl, fd_no (by simp)]; exact ih
    · rw [fm_no rfl, fd_no (by simp)]; exact ih
    · rw [List.filterMap_cons_some (f := qSn) (a := (some (.inr (g', r')), qp, qt, qv, qk)) (b := (qt, g', r')) rfl]
      by_cases h : g' = g ∧ r' = (how == 1)
      · obtain ⟨rfl, rfl⟩ := h
        rw [fd_ye (by simp [gAt]), fd_ye (by simp)]
        rfl
      · rw [fd_no (by simp only [gAt, h2, Bool.false_or]; rw [← Bool.not_eq_true]; simp only [Bool.and_eq_true, beq_iff_eq]; exact h), fd_no (by rw [decide_eq_false_iff_not]; intro e; cases e; exact h ⟨rfl, rfl⟩)]
        exact ih
theorem Qrd_fl (h : ∀ q ∈ Q, q.1 = none → q.2.2.1 ≠ t) : (Q.filter (fun q => q.2.2.1 != t)).filterMap qRd = Q.filterMap qRd := by
  induction Q with
  | nil => rfl
  | cons q Q ih =>
    have ih' := ih (fun r hr => h r (List.mem_cons_of_mem _ hr))
    by_cases hq : q.2.2.1 = t
    · have hn : qRd q = none := by
        unfold qRd
        cases hq1 : q.1 with
        | none => exact absurd hq (h q List.mem_cons_self hq1)
        | some a => rfl
      simp [hq, hn, ih']
    · have : (q.2.2.1 != t) = true := by simp [hq]
      rw [List.filter_cons, if_pos this, List.filterMap_cons, List.filterMap_cons, ih']
theorem Qmo_fl : (Q.filter (fun q => q.2.2.1 != t)).filterMap qMo = (Q.filterMap qMo).filter (fun e => e.1 != t) := by
  induction Q with
  | nil => rfl
  | cons q Q ih =>
    have hm : ∀ e, qMo q = some e → e.1 = q.2.2.1 := by
      obtain ⟨ql, qp, qt, qv, qk⟩ := q
      intro e he
      rcases ql with _ | ⟨⟨_ | c', g'⟩ | ⟨g', r'⟩⟩ <;> cases he
      rfl
    cases h : qMo q with
    | none =>
      rw [fm_no h, ← ih]
      by_cases hq : q.2.2.1 = t
      · rw [List.filter_cons, if_neg (by simp [hq])]
      · rw [List.filter_cons, if_pos (by simp [hq]), fm_no h]
    | some e =>
      rw [List.filterMap_cons_some h]
      have he := hm e h
      by_cases hq : q.2.2.1 = t
      · rw [List.filter_cons, if_neg (by simp [hq]), List.filter_cons, if_neg (by rw [he]; simp [hq])]
        exact ih
      · rw [List.filter_cons, if_pos (by simp [hq]), List.filterMap_cons_some h, List.filter_cons, if_pos (by rw [he]; simp [hq]), ih]
theorem Qsn_fl : (Q.filter (fun q => q.2.2.1 != t)).filterMap qSn = (Q.filterMap qSn).filter (fun e => e.1 != t) := by
  induction Q with
  | nil => rfl
  | cons q Q ih =>
    have hm : ∀ e, qSn q = some e → e.1 = q.2.2.1 := by
      obtain ⟨ql, qp, qt, qv, qk⟩ := q
      intro e he
      rcases ql with _ | ⟨⟨_ | c', g'⟩ | ⟨g', r'⟩⟩ <;> cases he
      rfl
    cases h : qSn q with
    | none =>
      rw [fm_no h, ← ih]
      by_cases hq : q.2.2.1 = t
      · rw [List.filter_cons, if_neg (by simp [hq])]
      · rw [List.filter_cons, if_pos (by simp [hq]), fm_no h]
    | some e =>
      rw [List.filterMap_cons_some h]
      have he := hm e h
      by_cases hq : q.2.2.1 = t
      · rw [List.filter_cons, if_neg (by simp [hq]), List.filter_cons, if_neg (by rw [he]; simp [hq])]
        exact ih
      · rw [List.filter_cons, if_pos (by simp [hq]), List.filterMap_cons_some h, List.filter_cons, if_pos (by rw [he]; simp [hq]), ih]
theorem Qrl_out : (fun x => (Qrl Q x).filter (fun q => q != p)) = Qrl (Q.filter (fun q => q.2.1 != p)) := by
  funext x
  unfold Qrl
  rw [List.filter_map, List.filter_filter, List.filter_filter]
  congr 1
  apply List.filter_congr
  intro q hq
  simp [Bool.and_comm]
theorem Qrl_app {q : kQ} : up (Qrl Q) (lrw q.1) (Qrl Q (lrw q.1) ++ [q.2.1]) = Qrl (Q ++ [q]) := by
  funext x
  unfold up Qrl
  by_cases h : x = lrw q.1
  · subst h
    simp [List.filter_append]
  · rw [if_neg h, List.filter_append, List.map_append]
    have : (lrw q.1 == x) = false := by simpa using Ne.symm h
    simp [this]
end QL
