/-! one rings; goOn -/
section CRG
variable {w w' : kx_H} {S S' : kS} {t g n d c : Nat} {x : Int64} {Q : List kQ} {fp tp fv ft : List Nat} {V : List (Nat × Int64 × Nat)} {A : List (Nat × kMe)} {l : kLoc}
theorem CX.me {me' : List kMe} (H : CX w S n Q fp tp V fv A ft) (h : meq me' S.me) : CX w (S.s_me me') n Q fp tp V fv A ft := by
  refine ⟨H.k, H.t, H.s.sc rfl rfl rfl rfl rfl rfl rfl rfl rfl, ⟨H.c.th, H.c.cl, H.c.ro, H.c.he, fun j hj => ?_, H.c.nw⟩, H.g.sc rfl rfl rfl rfl, H.q, H.o, H.rd, H.mo, H.sn, H.v, H.a.imp id (fun a => ⟨a.chn, a.fl, a.fre, a.nd, a.len, a.so, fun x => (a.eq x).trans (h x).symm⟩)⟩
  show hp_I w 414 (1035 + 3 * j) = i32 (me'.countP (fun e => decide (e.1 = .inr j)))
  rw [h.perm.countP_eq]
  exact H.c.al j hj
theorem CQ.no {st : Nat → Int32} (h : CQ w st Q fp tp n) (ht : st t = 0 ∨ st t = 5) : ∀ q ∈ Q, q.2.2.1 ≠ t := by
  intro q hq e
  have := (h.loc q hq).2.2
  rw [e] at this
  obtain ⟨ql, qp, qt, qv, qk⟩ := q
  rcases ql with _ | ⟨⟨_ | c', g'⟩ | ⟨g', r'⟩⟩ <;> rcases ht with h0 | h0 <;> rw [h0] at this <;> revert this <;> simp only [sOK] <;> decide
theorem CQ.free {st : Nat → Int32} (h : CQ w st Q fp tp n) (ht : t < 256) (hn : ∀ q ∈ Q, q.2.2.1 ≠ t) : hp_R w 810 (523 + 2 * t) = none := by
  cases hr : hp_R w 810 (523 + 2 * t) with
  | none => rfl
  | some r =>
    exfalso
    have h1 := h.row.2.2.1 _ r hr
    obtain ⟨q, h2, h3⟩ := List.mem_map.mp h1
    have h4 := (List.mem_filter.mp h2).1
    exact hn q h4 (h.stP h4 ht h3).1
/-- TaskDesk.makeReady -/
theorem C_ready (H : CX w S n Q fp tp V fv A ft) (ht : t < 256) (hs : stt S t = 0 ∨ stt S t = 5) : ∃ w', kx_ev wx_M (d + 3) 26 [kx_r 0 (some 1), kx_r 6 (some (524 + 2 * t))] w = some (.inl none, w') ∧ CX w' (sWake S t) n (Q ++ [(none, 523 + 2 * t, t, 0, -1)]) fp tp V fv A ft ∧ FR [1206, 1208, 1004] [] [810, 812, 814, 1000, 1002] [] w w' := by
  have hn := H.q.no hs
  obtain ⟨w1, a1, H1, F1⟩ := C_wait (d := d) (l := none) (st := 1) (x := -1) (val := 0) H ht trivial rfl (H.q.free ht hn) hn (fun h => by cases h)
  rw [sAdd_rd] at H1
  refine ⟨w1, ?_, H1, F1⟩
  have a1' : kx_ev wx_M (d + 2) 27 [kx_r 6 (some (524 + 2 * t)), kx_r 5 (some 3), kx_i 1, kx_i (-1)] w = some (.inl none, w1) := a1
  obtain ⟨ψ, hψ⟩ := kx_fu
  rw [mE_26 hψ]
  unfold mb_26_0
  simp only [ob_s, H.k.d.2.1, a1', bv_n]
/-- Agenda.takeFirst, and the clock goes on -/
theorem C_tf {e : kMe} {y : Nat} {r : List kMe} (H : CX w S n Q fp tp V fv ((y, e) :: A) ft) (hst : S.std ≠ 1) (hm : S.me = e :: r) (hr : A.map (·.2) = r) : ∃ w2, kx_ev wx_M (d + 1) 31 [kx_r 1 (some 4)] w = some (.inl (some (.inr (.inr (7, some y)))), w2) ∧ hp_L w2 1400 y = e.2 ∧ hp_R w2 1402 y = aSl e.1 ∧ hp_R w2 1404 y = aTg e.1 ∧ FR [] [] [200, 202, 1406] [] w w2 ∧ CA w2 r A (y :: ft) := by
  have a := H.a.resolve_left hst
  have hchn := a.chn
  rw [List.map_cons] at hchn
  obtain ⟨c1, c2⟩ := hchn
  have hfl := a.fl (y, e) List.mem_cons_self
  have hnd := a.nd
  rw [List.map_cons] at hnd
  obtain ⟨m2, m3, m4⟩ := List.nodup_append.mp hnd
  obtain ⟨m5, m6⟩ := List.nodup_cons.mp m3
  have hyf : y ∉ ft := fun h => m4 y h y List.mem_cons_self rfl
  have F : FR [] [] [200, 202, 1406] [] w (hp_sR (hp_sR (hp_sR w 200 4 (hp_R w 1406 y)) 1406 y (hp_R w 202 4)) 202 4 (some y)) := FR.sR (by decide) (FR.sR (by decide) (FR.sR (by decide) FR.rf))
  have g1 : ∀ q, hp_R (hp_sR (hp_sR (hp_sR w 200 4 (hp_R w 1406 y)) 1406 y (hp_R w 202 4)) 202 4 (some y)) 1406 q = if q = y then hp_R w 202 4 else hp_R w 1406 q := by
    intro q; by_cases hq : q = y <;> simp [hI_I, hI_L, hI_R, hI_B, hI_b, hL_I, hL_L, hL_R, hL_B, hL_b, hR_I, hR_L, hR_R, hR_B, hR_b, hB_I, hB_L, hB_R, hB_B, hB_b, hN_I, hN_L, hN_R, hN_B, hN_b, hT_I, hT_L, hT_R, hT_B, hT_b, hX_I, hX_L, hX_R, hX_B, hX_b, hC_I, hC_L, hC_R, hC_B, hC_b, hU_I, hU_L, hU_R, hU_B, hU_b, hq]
  have hso := a.so
  obtain ⟨so1, so2⟩ := List.pairwise_cons.mp hso
  refine ⟨_, ?_, ?_, ?_, ?_, F, ⟨?_, fun q hq => ?_, ?_, ?_, ?_, so2, fun z => ?_⟩⟩
  · skip
    obtain ⟨ψ, hψ⟩ := kx_fu
    rw [mE_31 hψ]
    unfold mb_31_0
    simp only [ob_s, c1, reduceCtorEq, if_false, hR_R, Nat.reduceEqDiff, false_and, me_31_30, mb_31_30]
  · rw [F.L 1400 (by decide)]; exact hfl.1
  · rw [F.R 1402 (by decide)]; exact hfl.2.1
  · rw [F.R 1404 (by decide)]; exact hfl.2.2
  · have e0 : hp_R (hp_sR (hp_sR (hp_sR w 200 4 (hp_R w 1406 y)) 1406 y (hp_R w 202 4)) 202 4 (some y)) 200 4 = hp_R w 1406 y := by simp [hI_I, hI_L, hI_R, hI_B, hI_b, hL_I, hL_L, hL_R, hL_B, hL_b, hR_I, hR_L, hR_R, hR_B, hR_b, hB_I, hB_L, hB_R, hB_B, hB_b, hN_I, hN_L, hN_R, hN_B, hN_b, hT_I, hT_L, hT_R, hT_B, hT_b, hX_I, hX_L, hX_R, hX_B, hX_b, hC_I, hC_L, hC_R, hC_B, hC_b, hU_I, hU_L, hU_R, hU_B, hU_b]
    rw [e0]
    refine ch.upd c2 (fun q hq => ?_)
    rw [g1, if_neg (fun e : q = y => m5 (e ▸ hq))]
  · rw [F.L 1400 (by decide), F.R 1402 (by decide), F.R 1404 (by decide)]
    exact a.fl q (List.mem_cons_of_mem _ hq)
  · refine ⟨by simp [hI_I, hI_L, hI_R, hI_B, hI_b, hL_I, hL_L, hL_R, hL_B, hL_b, hR_I, hR_L, hR_R, hR_B, hR_b, hB_I, hB_L, hB_R, hB_B, hB_b, hN_I, hN_L, hN_R, hN_B, hN_b, hT_I, hT_L, hT_R, hT_B, hT_b, hX_I, hX_L, hX_R, hX_B, hX_b, hC_I, hC_L, hC_R, hC_B, hC_b, hU_I, hU_L, hU_R, hU_B, hU_b], ?_⟩
    rw [g1, if_pos rfl]
    exact a.fre.upd (fun q hq => by rw [g1, if_neg (fun e : q = y => hyf (e ▸ hq))])
  · rw [List.cons_append, List.nodup_cons, List.nodup_append]
    refine ⟨fun h => ?_, m2, m6, fun p hp q hq => m4 p hp q (List.mem_cons_of_mem _ hq)⟩
    rcases List.mem_append.mp h with h | h
    · exact hyf h
    · exact m5 h
  · have := a.len
    simp at this ⊢
    omega
  · rw [← hr, List.filter_map]
    rfl
theorem fr_id {ki kl kr kb ki' kl' kr' kb' : List Nat} (F : FR ki kl kr kb w w') (h1 : ∀ x ∈ ki, x ∈ ki') (h2 : ∀ x ∈ kl, x ∈ kl') (h3 : ∀ x ∈ kr, x ∈ kr') (h4 : ∀ x ∈ kb, x ∈ kb') : FR ki' kl' kr' kb' w w' := F.mono h1 h2 h3 h4
/-- the first of the agenda rings -/
theorem C_step {e : kMe} {r : List kMe} (H : CR w S n) (hst : S.std ≠ 1) (hso : mso S.me) (hm : S.me = e :: r) (hl : ∀ t, e.1 = .inl t → t < 256 ∧ stt S t = 5) (hc : ∀ c, e.1 = .inr c → c < 512) (hal : S.al = S.me.countP (fun q => q.1.isRight)) (hal2 : S.al < 1000000) (hv : S.mv.length < 512) (hme : S.me.length < 1000000) : ∃ y w2 w8, kx_ev wx_M (d + 6) 31 [kx_r 1 (some 4)] w = some (.inl (some (.inr (.inr (7, some y)))), w2) ∧ hp_L w2 1400 y = e.2 ∧ kx_ev wx_M (d + 6) 32 [kx_r 0 (some 1), kx_r 7 (some y)] (hp_sL w2 10 1 e.2) = some (.inl none, w8) ∧ CR w8 (cStep S e r) n ∧ FC w w8 := by
  obtain ⟨Q, fp, tp, V, fv, A, ft, H⟩ := H
  have a := H.a.resolve_left hst
  have hAme : A.map (·.2) = S.me := by
    refine mso_eq ?_ hso (fun z => ?_)
    · unfold mso
      rw [List.pairwise_map]
      exact a.so
    · rw [← a.eq z, List.filter_map]
      rfl
  obtain ⟨y, A', hA⟩ : ∃ y A', A = (y, e) :: A' := by
    cases hA : A with
    | nil => rw [hA, hm] at hAme; simp at hAme
    | cons q A' =>
      rw [hA, hm, List.map_cons] at hAme
      obtain ⟨h1, h2⟩ := List.cons.inj hAme
      exact ⟨q.1, A', by rw [← h1]⟩
  subst hA
  have hA'r : A'.map (·.2) = r := by
    rw [hm, List.map_cons] at hAme
    exact (List.cons.inj hAme).2
  obtain ⟨w2, b1, b2, b3, b4, F2, CA2⟩ := C_tf (d := d + 5) H hst hm hA'r
  have F7 : FR [] [10] [200, 202, 1406] [] w (hp_sL w2 10 1 e.2) := (F2.mono (fun _ h => h) (fun k h => by cases h) (fun _ h => h) (fun _ h => h)).tr (FR.sL (by decide) FR.rf)
  have F27 : FR [] [10] [] [] w2 (hp_sL w2 10 1 e.2) := FR.sL (by decide) FR.rf
  obtain ⟨e1, e2⟩ := e
  cases e1 with
  | inl t =>
    obtain ⟨ht, h5⟩ := hl t rfl
    have H7 : CX (hp_sL w2 10 1 e2) (kS.s_me ((kS.s_clk S (e2))) (r)) n Q fp tp V fv A' (y :: ft) := by
      refine ⟨H.k.fr F7 (by decide) (by decide) (by decide) (by decide), H.t.fr F7 (by decide) (by decide) (by decide) (by decide), ?_, ?_, (H.g.fr F7 (by decide) (by decide) (by decide) (by decide)).sc rfl rfl rfl rfl, H.q.fr F7 (by decide) (by decide) (by decide) (by decide), H.o.fr F7 (by decide) (by decide) (by decide) (by decide), H.rd, H.mo, H.sn, H.v.fr F7 (by decide) (by decide) (by decide) (by decide), Or.inr (CA2.fr F27 (by decide) (by decide) (by decide) (by decide))⟩
      · refine ⟨?_, ?_, by simp [hI_I, hI_L, hI_R, hI_B, hI_b, hL_I, hL_L, hL_R, hL_B, hL_b, hR_I, hR_L, hR_R, hR_B, hR_b, hB_I, hB_L, hB_R, hB_B, hB_b, hN_I, hN_L, hN_R, hN_B, hN_b, hT_I, hT_L, hT_R, hT_B, hT_b, hX_I, hX_L, hX_R, hX_B, hX_b, hC_I, hC_L, hC_R, hC_B, hC_b, hU_I, hU_L, hU_R, hU_B, hU_b], ?_, ?_, ?_, ?_, ?_, ?_⟩
        · rw [F7.R 6 (by decide)]; exact H.s.ru
        · rw [F7.B 8 (by decide)]; exact H.s.ov
        · rw [F7.I 2 (by decide)]; exact H.s.tc
        · rw [F7.I 20 (by decide)]; exact H.s.cc
        · rw [F7.I 22 (by decide)]; exact H.s.ro
        · rw [F7.I 34 (by decide)]; exact H.s.gc
        · rw [F7.I 14 (by decide)]; exact H.s.ac
        · rw [F7.I 28 (by decide)]; exact H.s.to
      · have h := H.c.fr F7 (by decide) (by decide) (by decide) (by decide)
        refine ⟨h.th, h.cl, h.ro, h.he, fun j hj => ?_, h.nw⟩
        have h6 := h.al j hj
        rw [hm, List.countP_cons_of_neg (by simp)] at h6
        exact h6
    obtain ⟨w8, a8, H8, F8⟩ := C_ready (d := d + 2) (t := t) H7 ht (Or.inr h5)
    have es : cStep S (Sum.inl t, e2) r = sWake (kS.s_me ((kS.s_clk S (e2))) (r)) t := sR1_l rfl
    rw [es]
    refine ⟨y, w2, w8, b1, b2, ?_, H8.cr, (FC.of F7 (by decide) (by decide) (by decide) (by decide)).tr (FC.of F8 (by decide) (by decide) (by decide) (by decide))⟩
    have c1 : hp_R (hp_sL w2 10 1 e2) 1402 y = some (524 + 2 * t) := b3
    have c2 : hp_R w8 1404 y = none := by
      rw [F8.R 1404 (by decide)]
      exact b4
    obtain ⟨ψ, hψ⟩ := kx_fu
    rw [mE_32 hψ]
    unfold mb_32_0
    simp only [ob_s, c1, reduceCtorEq, if_false, a8, bv_n, me_32_15, mb_32_15, c2, if_true, me_32_61, mb_32_61]
  | inr c =>
    have hcc := hc c rfl
    have hcn := H.c.al c hcc
    rw [hm, List.countP_cons_of_pos (by simp)] at hcn
    have hac := H.s.ac
    have hal1 : S.al = (r.countP (fun q => q.1.isRight)) + 1 := by rw [hal, hm, List.countP_cons_of_pos (by simp)]
    have F8 : FR [414, 14] [10] [200, 202, 1406] [] w (hp_sI (hp_sI (hp_sL w2 10 1 e2) 414 (1035 + 3 * c) (i32 (r.countP (fun q => decide (q.1 = .inr c))))) 14 1 (i32 (S.al - 1))) := FR.sI (by decide) (FR.sI (by decide) (F7.mono (fun k h => by cases h) (fun _ h => h) (fun _ h => h) (fun _ h => h)))
    have F28 : FR [414, 14] [10] [] [] w2 (hp_sI (hp_sI (hp_sL w2 10 1 e2) 414 (1035 + 3 * c) (i32 (r.countP (fun q => decide (q.1 = .inr c))))) 14 1 (i32 (S.al - 1))) := FR.sI (by decide) (FR.sI (by decide) (FR.sL (by decide) FR.rf))
    have H7 : CX (hp_sI (hp_sI (hp_sL w2 10 1 e2) 414 (1035 + 3 * c) (i32 (r.countP (fun q => decide (q.1 = .inr c))))) 14 1 (i32 (S.al - 1))) (kS.s_al ((kS.s_me ((kS.s_clk S (e2))) (r))) (S.al - 1)) n Q fp tp V fv A' (y :: ft) := by
      refine ⟨H.k.fr F8 (by decide) (by decide) (by decide) (by decide), H.t.fr F8 (by decide) (by decide) (by decide) (by decide), ?_, ?_, (H.g.fr F8 (by decide) (by decide) (by decide) (by decide)).sc rfl rfl rfl rfl, H.q.fr F8 (by decide) (by decide) (by decide) (by decide), H.o.fr F8 (by decide) (by decide) (by decide) (by decide), H.rd, H.mo, H.sn, H.v.fr F8 (by decide) (by decide) (by decide) (by decide), Or.inr (CA2.fr F28 (by decide) (by decide) (by decide) (by decide))⟩
      · refine ⟨?_, ?_, by simp [hI_I, hI_L, hI_R, hI_B, hI_b, hL_I, hL_L, hL_R, hL_B, hL_b, hR_I, hR_L, hR_R, hR_B, hR_b, hB_I, hB_L, hB_R, hB_B, hB_b, hN_I, hN_L, hN_R, hN_B, hN_b, hT_I, hT_L, hT_R, hT_B, hT_b, hX_I, hX_L, hX_R, hX_B, hX_b, hC_I, hC_L, hC_R, hC_B, hC_b, hU_I, hU_L, hU_R, hU_B, hU_b], ?_, ?_, ?_, ?_, by simp [hI_I, hI_L, hI_R, hI_B, hI_b, hL_I, hL_L, hL_R, hL_B, hL_b, hR_I, hR_L, hR_R, hR_B, hR_b, hB_I, hB_L, hB_R, hB_B, hB_b, hN_I, hN_L, hN_R, hN_B, hN_b, hT_I, hT_L, hT_R, hT_B, hT_b, hX_I, hX_L, hX_R, hX_B, hX_b, hC_I, hC_L, hC_R, hC_B, hC_b, hU_I, hU_L, hU_R, hU_B, hU_b], ?_⟩
        · rw [F8.R 6 (by decide)]; exact H.s.ru
        · rw [F8.B 8 (by decide)]; exact H.s.ov
        · rw [F8.I 2 (by decide)]; exact H.s.tc
        · rw [F8.I 20 (by decide)]; exact H.s.cc
        · rw [F8.I 22 (by decide)]; exact H.s.ro
        · rw [F8.I 34 (by decide)]; exact H.s.gc
        · rw [F8.I 28 (by decide)]; exact H.s.to
      · refine ⟨fun j hj => ?_, fun j hj => ?_, fun j hj => ?_, fun j hj => ?_, fun j hj => ?_, ?_⟩
        · rw [F8.B 406 (by decide)]; exact H.c.th j hj
        · rw [F8.B 408 (by decide)]; exact H.c.cl j hj
        · rw [F8.I 410 (by decide)]; exact H.c.ro j hj
        · rw [F8.I 412 (by decide)]; exact H.c.he j hj
        · show _ = i32 (r.countP (fun q => decide (q.1 = .inr j)))
          have h414 : hp_I (hp_sL w2 10 1 e2) 414 = hp_I w 414 := F7.I 414 (by decide)
          by_cases hjc : j = c
          · subst hjc; simp [hI_I, hI_L, hI_R, hI_B, hI_b, hL_I, hL_L, hL_R, hL_B, hL_b, hR_I, hR_L, hR_R, hR_B, hR_b, hB_I, hB_L, hB_R, hB_B, hB_b, hN_I, hN_L, hN_R, hN_B, hN_b, hT_I, hT_L, hT_R, hT_B, hT_b, hX_I, hX_L, hX_R, hX_B, hX_b, hC_I, hC_L, hC_R, hC_B, hC_b, hU_I, hU_L, hU_R, hU_B, hU_b]
          · have h9 : ¬ 3 * j = 3 * c := by omega
            have h6 := H.c.al j hj
            rw [hm, List.countP_cons_of_neg (by simp; exact fun e : c = j => hjc e.symm), ← h414] at h6
            simp [hI_I, hI_L, hI_R, hI_B, hI_b, hL_I, hL_L, hL_R, hL_B, hL_b, hR_I, hR_L, hR_R, hR_B, hR_b, hB_I, hB_L, hB_R, hB_B, hB_b, hN_I, hN_L, hN_R, hN_B, hN_b, hT_I, hT_L, hT_R, hT_B, hT_b, hX_I, hX_L, hX_R, hX_B, hX_b, hC_I, hC_L, hC_R, hC_B, hC_b, hU_I, hU_L, hU_R, hU_B, hU_b, h9]
            simpa [hI_I, hI_L, hI_R, hI_B, hI_b, hL_I, hL_L, hL_R, hL_B, hL_b, hR_I, hR_L, hR_R, hR_B, hR_b, hB_I, hB_L, hB_R, hB_B, hB_b, hN_I, hN_L, hN_R, hN_B, hN_b, hT_I, hT_L, hT_R, hT_B, hT_b, hX_I, hX_L, hX_R, hX_B, hX_b, hC_I, hC_L, hC_R, hC_B, hC_b, hU_I, hU_L, hU_R, hU_B, hU_b] using h6
        · rw [F8.B 408 (by decide), F8.I 410 (by decide), F8.I 412 (by decide)]; exact H.c.nw
    have es : cStep S (Sum.inr c, e2) r = sRings (kS.s_al ((kS.s_me ((kS.s_clk S (e2))) (r))) (S.al - 1)) c := sR1_r rfl
    rw [es]
    have hcr := H7.cr
    have at1 := C_takes (d := d + 4) hcr hcc
    have c0 : hp_R (hp_sL w2 10 1 e2) 1402 y = none := b3
    have c1 : hp_R (hp_sL w2 10 1 e2) 1404 y = some (1035 + 3 * c) := b4
    have c2 : hp_I (hp_sL w2 10 1 e2) 414 (1035 + 3 * c) = i32 (r.countP (fun q => decide (q.1 = .inr c)) + 1) := by
      rw [F7.I 414 (by decide)]; exact hcn
    have c3 : hp_I (hp_sL w2 10 1 e2) 14 1 = i32 (S.al - 1 + 1) := by
      rw [F7.I 14 (by decide), hac, show S.al - 1 + 1 = S.al by omega]
    unfold sRings
    have ek : tkAt (kS.s_al ((kS.s_me ((kS.s_clk S (e2))) (r))) (S.al - 1)) c = (!sClosed S c && ((sFst S c false).isSome || decide (i32 (sCnt S c) < sRoom S c))) := rfl
    have base : ∀ X, (kx_ev wx_M (d + 6) 32 [kx_r 0 (some 1), kx_r 7 (some y)] (hp_sL w2 10 1 e2) = X) ↔ ((if kx_b (tkAt (kS.s_al ((kS.s_me ((kS.s_clk S (e2))) (r))) (S.al - 1)) c) = 0 then some (.inl none, hp_sI (hp_sI (hp_sL w2 10 1 e2) 414 (1035 + 3 * c) (i32 (r.countP (fun q => decide (q.1 = .inr c))))) 14 1 (i32 (S.al - 1))) else kx_bv (kx_ev wx_M (d + 5) 34 [kx_r 0 (some 1), kx_r 2 (some (1035 + 3 * c)), kx_l e2] (hp_sI (hp_sI (hp_sL w2 10 1 e2) 414 (1035 + 3 * c) (i32 (r.countP (fun q => decide (q.1 = .inr c))))) 14 1 (i32 (S.al - 1)))) (fun w12 => some (.inl none, w12))) = X) := by
      intro X
      obtain ⟨ψ, hψ⟩ := kx_fu
      rw [mE_32 hψ]
      unfold mb_32_0
      have e14 : hp_I (hp_sI (hp_sL w2 10 1 e2) 414 (1035 + 3 * c) (i32 (r.countP (fun q => decide (q.1 = .inr c))))) 14 1 = i32 (S.al - 1 + 1) := by
        rw [← c3]; simp [hI_I, hI_L, hI_R, hI_B, hI_b, hL_I, hL_L, hL_R, hL_B, hL_b, hR_I, hR_L, hR_R, hR_B, hR_b, hB_I, hB_L, hB_R, hB_B, hB_b, hN_I, hN_L, hN_R, hN_B, hN_b, hT_I, hT_L, hT_R, hT_B, hT_b, hX_I, hX_L, hX_R, hX_B, hX_b, hC_I, hC_L, hC_R, hC_B, hC_b, hU_I, hU_L, hU_R, hU_B, hU_b]
      have e10 : hp_L (hp_sI (hp_sI (hp_sL w2 10 1 e2) 414 (1035 + 3 * c) (i32 (r.countP (fun q => decide (q.1 = .inr c))))) 14 1 (i32 (S.al - 1))) 10 1 = e2 := by simp [hI_I, hI_L, hI_R, hI_B, hI_b, hL_I, hL_L, hL_R, hL_B, hL_b, hR_I, hR_L, hR_R, hR_B, hR_b, hB_I, hB_L, hB_R, hB_B, hB_b, hN_I, hN_L, hN_R, hN_B, hN_b, hT_I, hT_L, hT_R, hT_B, hT_b, hX_I, hX_L, hX_R, hX_B, hX_b, hC_I, hC_L, hC_R, hC_B, hC_b, hU_I, hU_L, hU_R, hU_B, hU_b]
      simp only [ob_s, c0, if_true, me_32_15, mb_32_15, c1, reduceCtorEq, if_false, c2, i32_sub1, e14, at1, bi_n, e10, me_32_61, mb_32_61]
    by_cases h1 : sClosed S c = true
    · rw [if_pos (show sClosed (kS.s_al ((kS.s_me ((kS.s_clk S (e2))) (r))) (S.al - 1)) c = true from h1)]
      refine ⟨y, w2, _, b1, b2, ?_, H7.cr, FC.of F8 (by decide) (by decide) (by decide) (by decide)⟩
      rw [base, ek, h1]
      rfl
    · rw [if_neg (show ¬ sClosed (kS.s_al ((kS.s_me ((kS.s_clk S (e2))) (r))) (S.al - 1)) c = true from h1)]
      have h1' : sClosed S c = false := by simpa using h1
      by_cases h2 : (sFst S c false).isSome = true ∨ i32 (sCnt S c) < sRoom S c
      · rw [if_pos (show (sFst (kS.s_al ((kS.s_me ((kS.s_clk S (e2))) (r))) (S.al - 1)) c false).isSome = true ∨ i32 (sCnt (kS.s_al ((kS.s_me ((kS.s_clk S (e2))) (r))) (S.al - 1)) c) < sRoom (kS.s_al ((kS.s_me ((kS.s_clk S (e2))) (r))) (S.al - 1)) c from h2)]
        obtain ⟨w9, a9, H9, F9⟩ := C_pass (d := d + 1) (v := e2) hcr hcc hv
        refine ⟨y, w2, w9, b1, b2, ?_, H9, (FC.of F8 (by decide) (by decide) (by decide) (by decide)).tr F9⟩
        rw [base, ek, h1']
        have h3 : ((sFst S c false).isSome || decide (i32 (sCnt S c) < sRoom S c)) = true := by
          rcases h2 with h | h <;> simp [h]
        rw [h3, a9, bv_n]
        rfl
      · rw [if_neg (show ¬ ((sFst (kS.s_al ((kS.s_me ((kS.s_clk S (e2))) (r))) (S.al - 1)) c false).isSome = true ∨ i32 (sCnt (kS.s_al ((kS.s_me ((kS.s_clk S (e2))) (r))) (S.al - 1)) c) < sRoom (kS.s_al ((kS.s_me ((kS.s_clk S (e2))) (r))) (S.al - 1)) c) from h2)]
        refine ⟨y, w2, _, b1, b2, ?_, H7.cr, FC.of F8 (by decide) (by decide) (by decide) (by decide)⟩
        rw [base, ek, h1']
        have h3 : ((sFst S c false).isSome || decide (i32 (sCnt S c) < sRoom S c)) = false := by
          cases h4 : (sFst S c false).isSome with
          | true => exact absurd (Or.inl h4) h2
          | false =>
            have : ¬ i32 (sCnt S c) < sRoom S c := fun h => h2 (Or.inr h)
            simp [this]
        rw [h3]
        rfl
end CRG
