/-! goOn: who is next -/
theorem CR.meS {w : kx_H} {S : kS} {n : Nat} {me' : List kMe} (H : CR w S n) (h : meq me' S.me) : CR w (S.s_me me') n := by
  obtain ⟨Q, fp, tp, V, fv, A, ft, H⟩ := H
  exact (H.me h).cr
section GON
variable {w w' : kx_H} {S S' : kS} {t g n d c : Nat} {x : Int64} {Q : List kQ} {fp tp fv ft : List Nat} {V : List (Nat × Int64 × Nat)} {A : List (Nat × kMe)} {l : kLoc}
theorem ag_hd (H : CR w S n) (hst : S.std ≠ 1) (hso : mso S.me) : (S.me = [] → hp_R w 200 4 = none) ∧ ∀ e r, S.me = e :: r → ∃ y, hp_R w 200 4 = some y ∧ hp_L w 1400 y = e.2 := by
  obtain ⟨Q, fp, tp, V, fv, A, ft, H⟩ := H
  have a := H.a.resolve_left hst
  have hAme : A.map (·.2) = S.me := by
    refine mso_eq ?_ hso (fun z => ?_)
    · unfold mso
      rw [List.pairwise_map]
      exact a.so
    · rw [← a.eq z, List.filter_map]
      rfl
  have hh := a.chn.hd
  cases hA : A with
  | nil =>
    rw [hA] at hAme hh
    exact ⟨fun _ => hh, fun e r h => by rw [h] at hAme; simp at hAme⟩
  | cons q A' =>
    rw [hA] at hAme hh
    refine ⟨fun h => (by rw [h] at hAme; simp at hAme), fun e r h => ?_⟩
    rw [h, List.map_cons] at hAme
    obtain ⟨h1, h2⟩ := List.cons.inj hAme
    refine ⟨q.1, hh, ?_⟩
    rw [← h1]
    exact (a.fl q (by rw [hA]; exact List.mem_cons_self)).1
theorem rd_hd (H : CX w S n Q fp tp V fv A ft) : (S.rd = [] → hp_R w 1000 3 = none) ∧ ∀ t r, S.rd = t :: r → hp_R w 1000 3 = some (523 + 2 * t) ∧ t < 256 ∧ stt S t = 1 := by
  have h1 := (H.q.row.1 3).1
  have h1' : hp_R w 1000 3 = (Q.find? (fun q => decide (q.1 = none))).map (·.2.1) := by
    rw [h1]
    exact Qrl_head (l := none) H.lk trivial
  have hf : ∀ L : List kQ, (L.filterMap qRd).head? = (L.find? (fun q => decide (q.1 = none))).map (·.2.2.1) := by
    intro L
    induction L with
    | nil => rfl
    | cons q L ih =>
      obtain ⟨ql, qp, qt, qv, qk⟩ := q
      rcases ql with _ | a
      · rw [List.filterMap_cons_some (f := qRd) (a := (none, qp, qt, qv, qk)) (b := qt) rfl, fd_ye (by simp)]
        rfl
      · rw [fm_no rfl, fd_no (by simp)]
        exact ih
  have h2 : S.rd.head? = (Q.find? (fun q => decide (q.1 = none))).map (·.2.2.1) := by rw [H.rd, hf]
  cases hq : Q.find? (fun q => decide (q.1 = none)) with
  | none =>
    rw [hq] at h1' h2
    refine ⟨fun _ => h1', fun t r h => ?_⟩
    rw [h] at h2
    simp at h2
  | some q =>
    rw [hq] at h1' h2
    have hqm := List.mem_of_find?_eq_some hq
    have hq1 := List.find?_some hq
    simp only [decide_eq_true_eq] at hq1
    refine ⟨fun h => (by rw [h] at h2; simp at h2), fun t r h => ?_⟩
    rw [h] at h2
    simp at h2
    have hst := st_rd H (t := t) (by rw [h]; exact List.mem_cons_self)
    rcases H.q.pl q hqm with ⟨p1, -⟩ | ⟨-, y, p2⟩
    · refine ⟨?_, ?_, hst⟩
      · rw [h1', h2]
        show some q.2.1 = _
        rw [p1]
      · rw [h2]; exact (H.q.loc q hqm).2.1
    · rw [hq1] at p2
      cases p2
theorem rd_n (H : CR w S n) : (hp_R w 1000 3 = none) = (S.rd = []) := by
  obtain ⟨Q, fp, tp, V, fv, A, ft, H⟩ := H
  refine propext ⟨fun h => ?_, (rd_hd H).1⟩
  cases hr : S.rd with
  | nil => rfl
  | cons t r =>
    rw [((rd_hd H).2 t r hr).1] at h
    cases h
theorem SB.perm {me' : List kMe} (B : SB S) (h : List.Perm me' S.me) : SB (S.s_me me') :=
  ⟨B.cu, B.rn, B.rs, B.os, B.nn, B.ss, (h.filterMap _).nodup_iff.mpr B.en, fun t x hx => B.es t x (h.mem_iff.mp hx), fun c x hx => B.ec c x (h.mem_iff.mp hx)⟩
theorem cs_eq (S : kS) (e : kMe) (r : List kMe) : cStep S e r = (sRing1 e.2 (S.s_clk e.2) e).s_me r := sRing1_me (S := S.s_clk e.2)
/-- the loop of goOn -/
theorem C_go_l {C : kx_C} (hC : C = kx_ev wx_M (d + 6)) : ∀ k F w (S : kS) (L : Nat), CR w S n → S.std ≠ 1 → mso S.me → SB S → SA S → S.mv.length + S.me.length ≤ 512 → S.me.length ≤ k → k ≤ L → L ≤ 512 → 4 * k + 10 ≤ F →
    ∃ w' F', 5 ≤ F' ∧ kx_ex (wm_30 (d + 6) C) F 25 [(0, kx_r 0 (some 1)), (1, kx_i 1), (2, kx_i (i32 L))] [] w = kx_ex (wm_30 (d + 6) C) F' 108 [(0, kx_r 0 (some 1))] [] w' ∧ CR w' (cGo k S) n ∧ FC w w' := by
  have nil : ∀ k F w (S : kS) (L : Nat), CR w S n → S.std ≠ 1 → mso S.me → S.me = [] → L ≤ 512 → 10 ≤ F → ∃ w' F', 5 ≤ F' ∧ kx_ex (wm_30 (d + 6) C) F 25 [(0, kx_r 0 (some 1)), (1, kx_i 1), (2, kx_i (i32 L))] [] w = kx_ex (wm_30 (d + 6) C) F' 108 [(0, kx_r 0 (some 1))] [] w' ∧ CR w' (cGo k S) n ∧ FC w w' := by
    intro k F w S L H hst hso hm hL hF
    obtain ⟨F, rfl⟩ : ∃ f', F = f' + 1 + 1 + 1 + 1 + 1 := ⟨F - 5, by omega⟩
    have e : cGo k S = S := by
      cases k with
      | zero => rfl
      | succ k => unfold cGo; rw [hm]
    rw [e]
    have h0 := (ag_hd H hst hso).1 hm
    have a31 : kx_ev wx_M (d + 6) 31 [kx_r 1 (some 4)] w = some (.inl (some (.inr (.inr (7, none)))), w) := by
      obtain ⟨ψ, hψ⟩ := kx_fu
      rw [mE_31 hψ]
      unfold mb_31_0
      simp only [ob_s, h0, if_true, me_31_30, mb_31_30]
    by_cases hL0 : L = 0
    · subst hL0
      refine ⟨w, F + 4, by omega, ?_, H, FC.rf⟩
      rw [me_30_25]
      unfold mb_30_25
      simp only [i10, if_false]
      rw [if_pos (show i32 0 ≤ 0 by decide)]
    · refine ⟨w, F, by omega, ?_, H, FC.rf⟩
      rw [me_30_25]
      unfold mb_30_25
      simp only [i10, if_false]
      rw [if_neg (show ¬ i32 L ≤ 0 by rw [i32_p0 (by omega)]; omega)]
      rw [← hC] at a31
      simp only [ob_s, H.k.d.2.2.1, a31, br_n, if_true, me_30_58, mb_30_58, h0, me_30_100, mb_30_100, me_30_101, mb_30_101, me_30_25, mb_30_25]
  intro k
  induction k with
  | zero =>
    intro F w S L H hst hso B ha hv hk hkL hL hF
    exact nil 0 F w S L H hst hso (List.eq_nil_of_length_eq_zero (by omega)) hL (by omega)
  | succ k ih =>
    intro F w S L H hst hso B ha hv hk hkL hL hF
    cases hm : S.me with
    | nil => exact nil (k + 1) F w S L H hst hso hm hL (by omega)
    | cons e r =>
      obtain ⟨F, rfl⟩ : ∃ f', F = f' + 1 + 1 + 1 + 1 := ⟨F - 4, by omega⟩
      have hem : e ∈ S.me := by rw [hm]; exact List.mem_cons_self
      have hlen : S.me.length = r.length + 1 := by rw [hm]; rfl
      have hle : S.me.countP (fun q => q.1.isRight) ≤ S.me.length := List.countP_le_length
      have ha' : S.al = S.me.countP (fun q => q.1.isRight) := ha
      obtain ⟨y, w2, w8, s1, s2, s3, H8, F8⟩ := C_step (d := d) H hst hso hm (fun t h => B.es t e.2 (by rw [← h]; exact hem)) (fun c h => B.ec c e.2 (by rw [← h]; exact hem)) ha' (by omega) (by omega) (by omega)
      have hcl := s1_clk (x := e.2) (S.s_clk e.2) e
      have hS1 := cs_eq S e r
      have hme1 : (cStep S e r).me = r := by rw [hS1]
      have hstd1 : (cStep S e r).std ≠ 1 := by rw [hS1]; show (sRing1 e.2 (S.s_clk e.2) e).std ≠ 1; rw [hcl.2.1]; exact hst
      have hclk1 : (cStep S e r).clk = e.2 := by rw [hS1]; show (sRing1 e.2 (S.s_clk e.2) e).clk = e.2; rw [hcl.1]
      have hso1 : mso (cStep S e r).me := by rw [hme1]; rw [hm] at hso; exact (List.pairwise_cons.mp hso).2
      have B1 : SB (cStep S e r) := by
        rw [hS1]
        have B0 : SB ((S.s_clk e.2).s_me ([] ++ e :: r)) := by
          have := SB.clk (k := e.2) B
          rw [List.nil_append, ← hm]
          exact this
        exact B0.r1 rfl
      have A1 : SA (cStep S e r) := by
        unfold SA
        rw [hme1, hS1]
        show (sRing1 e.2 (S.s_clk e.2) e).al = _
        apply al_r1
        show S.al = _
        rw [ha', hm, List.countP_cons]
        simp
      have hln := sRing1_len (x := e.2) (S := S.s_clk e.2) (e := e)
      have hv1 : (cStep S e r).mv.length + (cStep S e r).me.length ≤ 512 := by
        rw [hme1, hS1]
        have := hln.1
        show (sRing1 e.2 (S.s_clk e.2) e).mv.length + r.length ≤ 512
        have h9 : (S.s_clk e.2).mv.length = S.mv.length := rfl
        omega
      have hag := ag_hd H8 hstd1 hso1
      have hrdn := rd_n H8
      have h10 : hp_L w8 10 1 = e.2 := by rw [H8.s.nw]; exact hclk1
      have ecg : cGo (k + 1) S = if r ≠ [] ∧ ((cStep S e r).rd = [] ∨ (r.head?.map (·.2)) = some e.2) then cGo k (cStep S e r) else cStep S e r := by
        conv => lhs; unfold cGo
        rw [hm]
      have st : kx_ex (wm_30 (d + 6) C) (F + 1 + 1 + 1 + 1) 25 [(0, kx_r 0 (some 1)), (1, kx_i 1), (2, kx_i (i32 L))] [] w = kx_ex (wm_30 (d + 6) C) (F + 1 + 1 + 1) 58 [(0, kx_r 0 (some 1)), (2, kx_i (i32 L))] [] w8 := by
        rw [me_30_25]
        unfold mb_30_25
        simp only [i10, if_false]
        rw [if_neg (show ¬ i32 L ≤ 0 by rw [i32_p0 (by omega)]; omega)]
        rw [← hC] at s1 s3
        simp only [ob_s, H.k.d.2.2.1, s1, br_n, reduceCtorEq, if_false, s2, s3, bv_n]
      obtain ⟨L, rfl⟩ : ∃ L', L = L' + 1 := ⟨L - 1, by omega⟩
      have stop : kx_ex (wm_30 (d + 6) C) (F + 1 + 1) 100 [(0, kx_r 0 (some 1)), (2, kx_i (i32 (L + 1)))] [] w8 = kx_ex (wm_30 (d + 6) C) F 25 [(0, kx_r 0 (some 1)), (1, kx_i 0), (2, kx_i (i32 L))] [] w8 := by
        rw [me_30_100]
        unfold mb_30_100
        rw [me_30_101]
        unfold mb_30_101
        rw [em1]
      have cont : kx_ex (wm_30 (d + 6) C) (F + 1 + 1) 96 [(0, kx_r 0 (some 1)), (2, kx_i (i32 (L + 1)))] [] w8 = kx_ex (wm_30 (d + 6) C) F 25 [(0, kx_r 0 (some 1)), (1, kx_i 1), (2, kx_i (i32 L))] [] w8 := by
        rw [me_30_96]
        unfold mb_30_96
        rw [me_30_101]
        unfold mb_30_101
        rw [em1]
      have ending : ∀ f, kx_ex (wm_30 (d + 6) C) (f + 1) 25 [(0, kx_r 0 (some 1)), (1, kx_i 0), (2, kx_i (i32 L))] [] w8 = kx_ex (wm_30 (d + 6) C) f 108 [(0, kx_r 0 (some 1))] [] w8 := by
        intro f
        rw [me_30_25]
        unfold mb_30_25
        rw [if_pos rfl]
      obtain ⟨F0, hF0⟩ : ∃ F0, F = F0 + 1 := ⟨F - 1, by omega⟩
      rw [st, me_30_58]
      unfold mb_30_58
      rw [ecg]
      cases r with
      | nil =>
        rw [if_neg (by simp)]
        refine ⟨w8, F0, by omega, ?_, H8, F8⟩
        simp only [ob_s, H8.k.d.2.2.1, hag.1 hme1, if_true, stop]
        rw [hF0, ending]
      | cons q r =>
        obtain ⟨y2, y3, y4⟩ := hag.2 q r hme1
        have hgo := ih F w8 (cStep S e (q :: r)) L H8 hstd1 hso1 B1 A1 hv1 (by rw [hme1]; omega) (by omega) (by omega) (by omega)
        by_cases hrd : (cStep S e (q :: r)).rd = []
        · rw [if_pos ⟨by simp, Or.inl hrd⟩]
          obtain ⟨w', F', f1, r1, r2, r3⟩ := hgo
          refine ⟨w', F', f1, ?_, r2, F8.tr r3⟩
          rw [← r1]
          simp only [ob_s, H8.k.d.2.2.1, y3, reduceCtorEq, if_false, H8.k.d.2.1, hrdn, hrd, if_true, cont]
        · by_cases hq : q.2 = e.2
          · rw [if_pos ⟨by simp, Or.inr (by simp [hq])⟩]
            obtain ⟨w', F', f1, r1, r2, r3⟩ := hgo
            refine ⟨w', F', f1, ?_, r2, F8.tr r3⟩
            rw [← r1]
            simp only [ob_s, H8.k.d.2.2.1, y3, reduceCtorEq, if_false, H8.k.d.2.1, hrdn, hrd, y4, h10, lg_eq, hq, if_true, cont]
          · rw [if_neg (by simp [hrd, hq])]
            refine ⟨w8, F0, by omega, ?_, H8, F8⟩
            simp only [ob_s, H8.k.d.2.2.1, y3, reduceCtorEq, if_false, H8.k.d.2.1, hrdn, hrd, y4, h10, lg_eq, hq, stop]
            rw [hF0, ending]
/-- Place.stepOut of a task's own place, where it has no other -/
theorem C_so (H : CX w S n Q fp tp V fv A ft) (ht : t < 256) (h1 : ∀ q ∈ Q, q.2.2.1 = t → qIs q = false) : ∃ w', kx_ev wx_M (d + 1) 37 [kx_r 4 (some (523 + 2 * t))] w = some (.inl none, w') ∧ CX w' (sNot S t) n (Q.filter (fun q => q.2.2.1 != t)) fp tp V fv A ft ∧ hp_R w' 810 (523 + 2 * t) = none ∧ FR [1004] [] [810, 812, 814, 1000, 1002] [] w w' := by
  have hq := H.q
  obtain ⟨w1, s1, K1, s3, s4, F1⟩ := L_stepOut (d := d) (p := 523 + 2 * t) hq.row
  rw [Qrl_out] at K1
  have eQ : Q.filter (fun q => q.2.1 != 523 + 2 * t) = Q.filter (fun q => q.2.2.1 != t) := by
    apply List.filter_congr
    intro q hqm
    rw [Bool.eq_iff_iff]
    simp
    exact ⟨fun h e => h (by have := qIs_f.mp (h1 q hqm e); rw [e] at this; exact this), fun h e => h (hq.stP hqm ht e).1⟩
  rw [eQ] at K1
  have ecas : ∀ j, qCas (Q.filter (fun q => q.2.2.1 != t)) j = qCas Q j := by
    intro j
    by_cases hjt : t = j
    · subst hjt
      rw [cas_eq]
      symm
      unfold qCas
      have : Q.filter (fun q => q.2.2.1 == t && qIs q) = [] := by
        rw [List.filter_eq_nil_iff]
        intro q hqm h
        simp at h
        rw [h1 q hqm h.1] at h
        cases h.2
      rw [this]
      rfl
    · exact cas_ne hjt
  have epl : qPl (Q.filter (fun q => q.2.2.1 != t)) = qPl Q := by
    unfold qPl
    congr 1
    rw [List.filter_filter]
    apply List.filter_congr
    intro q hqm
    rw [Bool.eq_iff_iff]
    simp
    intro h e
    rw [h1 q hqm e] at h
    cases h
  have mem : ∀ q, q ∈ Q.filter (fun q => q.2.2.1 != t) → q ∈ Q := fun q h => (List.mem_filter.mp h).1
  refine ⟨w1, s1, ⟨H.k.fr F1 (by decide) (by decide) (by decide) (by decide), H.t.fr F1 (by decide) (by decide) (by decide) (by decide), (H.s.fr F1 (by decide) (by decide) (by decide) (by decide)).sc rfl rfl rfl rfl rfl rfl rfl rfl rfl, (H.c.fr F1 (by decide) (by decide) (by decide) (by decide)).sc rfl rfl rfl rfl rfl, (H.g.fr F1 (by decide) (by decide) (by decide) (by decide)).sc rfl rfl rfl rfl, ?_, H.o.fr F1 (by decide) (by decide) (by decide) (by decide), ?_, ?_, ?_, H.v.fr F1 (by decide) (by decide) (by decide) (by decide), H.a.imp id (fun h => h.fr F1 (by decide) (by decide) (by decide) (by decide))⟩, s3, F1⟩
  · refine ⟨K1, fun q hm => hq.loc q (mem q hm), fun q hm => hq.pl q (mem q hm), fun q hm => ?_, fun j hj => ?_, fun j hj => ?_, fun j => ?_, ?_, ?_, ?_, hq.isp, hq.len⟩
    · rw [F1.R 800 (by decide), F1.I 808 (by decide), F1.L 806 (by decide)]
      exact hq.own q (mem q hm)
    · rw [F1.R 800 (by decide), F1.I 808 (by decide)]
      exact hq.std j hj
    · rw [F1.R 816 (by decide), F1.R 1210 (by decide), ecas]
      exact hq.cas j hj
    · rw [ecas]; exact hq.caL j
    · rw [F1.R 816 (by decide), F1.R 30 (by decide)]
      exact hq.fre
    · rw [epl]; exact hq.nd
    · exact (List.filter_sublist.map _).nodup hq.qn
  · show S.rd.filter _ = _
    rw [Qrd_fl2, H.rd]
  · show S.mo.filter _ = _
    rw [Qmo_fl, H.mo]
  · show S.sn.filter _ = _
    rw [Qsn_fl, H.sn]
end GON
