/-! the class's calls: choose -/
section CHK
variable {w w' : kx_H} {S S' : kS} {t g n d c : Nat} {x how : Int32} {v val : Int64} {f b : Bool} {Q : List kQ} {fp tp fv ft : List Nat} {V : List (Nat × Int64 × Nat)} {A : List (Nat × kMe)} {l : kLoc}
/-- TaskDesk.waitInCases -/
theorem C_wic (H : CX w S n Q fp tp V fv A ft) (hm : S.mt.length ≤ 16) (ht : t < 256) (hn : ∀ q ∈ Q, q.2.2.1 ≠ t) (hat : hp_I S.m 8733 t = -1) (hvc : ∀ e ∈ S.mt, vCh e) (hh : how = if cOff t S.mt = [] then 7 else 4) (T : kS) (t1 : T.cur = S.cur) (t2 : T.std = S.std) (t3 : T.clk = S.clk) (t4 : T.m = hp_sI (hp_sI S.m 8731 t how) 8733 t (-1)) (t5 : T.rd = S.rd) (t6 : T.rooms = S.rooms) (t7 : T.mv = S.mv) (t8 : T.mo = S.mo ++ cOff t S.mt) (t9 : T.mt = []) (t10 : T.gates = S.gates) (t11 : T.sn = S.sn) (t12 : T.me = S.me) (t13 : T.al = S.al) : ∃ w', kx_ev wx_M (d + 2) 61 [kx_r 0 (some 1), kx_r 6 (some (524 + 2 * t))] w = some (.inl none, w') ∧ CX w' T n (Q ++ qNew t 0 tp S.mt) fp [] V fv A ft ∧ FC w w' := by
  have htl := H.o.len
  have hstt : ∀ q, stt T q = if q = t then how else stt S q := fun q => by unfold stt; rw [t4]; exact stt_set S t how (-1) q
  have h47 : stt T t = 4 ∨ stt T t = 7 := by
    rw [hstt, if_pos rfl, hh]
    by_cases h : cOff t S.mt = []
    · rw [if_pos h]; exact Or.inr rfl
    · rw [if_neg h]; exact Or.inl rfl
  obtain ⟨ψ, hψ⟩ := kx_fl 100 (by omega)
  have F0 : FR [1206] [] [] [] w (hp_sI w 1206 (524 + 2 * t) 7) := FR.sI (by decide) FR.rf
  have hq0 : CQ (hp_sI w 1206 (524 + 2 * t) 7) (stt T) Q fp tp n := (H.q.fr F0 (by decide) (by decide) (by decide) (by decide)).sc (fun q hq => by rw [hstt, if_neg (hn q hq)])
  have hcas : qCas Q t = [] := by
    unfold qCas
    rw [List.filter_eq_nil_iff.mpr]
    · rfl
    · intro q hq
      simp [hn q hq]
  have hto : rTx (hp_sI w 1206 (524 + 2 * t) 7) 0 tp S.mt := by
    refine rTx.fr (fun i p e h1 h2 => ?_) F0 (by decide) (by decide) (by decide) (by decide) (by decide)
    rw [Nat.zero_add]
    exact H.o.e i p e h1 h2
  obtain ⟨w1, r1, r2, r3, r4⟩ := K_wic_l (d := d) (n := n) (fp := fp) (t := t) rfl (st := stt T) (N := S.mt.length) hm ht h47 tp S.mt 0 (ψ + 100) (hp_sI w 1206 (524 + 2 * t) 7) Q htl (H.k.fr F0 (by decide) (by decide) (by decide) (by decide)) hq0 hto H.s.to hvc (by rw [hcas]; exact Nat.le_refl 0) (by omega) (by omega)
  have FA : FR [1206, 1004, 28] [] [800, 816, 1210, 810, 812, 814, 1000, 1002] [] w (hp_sI w1 28 1 0) := FR.sI (by decide) ((F0.mono (fun k h => by revert k; decide) (fun _ h => h) (fun k h => by cases h) (fun _ h => h)).tr (r3.mono (fun k h => by revert k; decide) (fun _ h => h) (fun _ h => h) (fun _ h => h)))
  have F12 : FR [28] [] [] [] w1 (hp_sI w1 28 1 0) := FR.sI (by decide) FR.rf
  have g1206 : ∀ x, hp_I (hp_sI w1 28 1 0) 1206 x = if x = 524 + 2 * t then how else hp_I w 1206 x := by
    intro x
    rw [F12.I 1206 (by decide), r4, hh]
    have e1 : (S.mt.zipIdx 0).filterMap (cOf t) = cOff t S.mt := rfl
    rw [e1]
    by_cases hx : x = 524 + 2 * t
    · subst hx
      by_cases h : cOff t S.mt = []
      · simp [h, hI_I, hI_L, hI_R, hI_B, hI_b, hL_I, hL_L, hL_R, hL_B, hL_b, hR_I, hR_L, hR_R, hR_B, hR_b, hB_I, hB_L, hB_R, hB_B, hB_b, hN_I, hN_L, hN_R, hN_B, hN_b, hT_I, hT_L, hT_R, hT_B, hT_b, hX_I, hX_L, hX_R, hX_B, hX_b, hC_I, hC_L, hC_R, hC_B, hC_b, hU_I, hU_L, hU_R, hU_B, hU_b]
      · simp [h, hI_I, hI_L, hI_R, hI_B, hI_b, hL_I, hL_L, hL_R, hL_B, hL_b, hR_I, hR_L, hR_R, hR_B, hR_b, hB_I, hB_L, hB_R, hB_B, hB_b, hN_I, hN_L, hN_R, hN_B, hN_b, hT_I, hT_L, hT_R, hT_B, hT_b, hX_I, hX_L, hX_R, hX_B, hX_b, hC_I, hC_L, hC_R, hC_B, hC_b, hU_I, hU_L, hU_R, hU_B, hU_b]
    · simp [hx, hI_I, hI_L, hI_R, hI_B, hI_b, hL_I, hL_L, hL_R, hL_B, hL_b, hR_I, hR_L, hR_R, hR_B, hR_b, hB_I, hB_L, hB_R, hB_B, hB_b, hN_I, hN_L, hN_R, hN_B, hN_b, hT_I, hT_L, hT_R, hT_B, hT_b, hX_I, hX_L, hX_R, hX_B, hX_b, hC_I, hC_L, hC_R, hC_B, hC_b, hU_I, hU_L, hU_R, hU_B, hU_b]
  obtain ⟨n1, n2⟩ := qNew_no t tp S.mt 0
  have n3 := qNew_mo t tp S.mt 0 htl
  refine ⟨hp_sI w1 28 1 0, ?_, ⟨H.k.fr FA (by decide) (by decide) (by decide) (by decide), ?_, ?_, (H.c.fr FA (by decide) (by decide) (by decide) (by decide)).sc (by rw [t4]; rfl) (by rw [t4]; rfl) (by rw [t4]; exact set_I (by decide) (by decide) S.m) t7 t12, (H.g.fr FA (by decide) (by decide) (by decide) (by decide)).sc (by rw [t4]; exact set_I (by decide) (by decide) S.m) (by rw [t4]; exact set_I (by decide) (by decide) S.m) (by rw [t4]; exact set_I (by decide) (by decide) S.m) t10, r2.fr F12 (by decide) (by decide) (by decide) (by decide), ⟨by rw [t9]; rfl, fun i p e h1 h2 => by simp at h1⟩, ?_, ?_, ?_, by rw [t7]; exact H.v.fr FA (by decide) (by decide) (by decide) (by decide), by rw [t2, t12]; exact H.a.imp id (fun h => h.fr FA (by decide) (by decide) (by decide) (by decide))⟩, FC.of FA (by decide) (by decide) (by decide) (by decide)⟩
  · rw [mE_61 hψ]
    unfold mb_61_0
    simp only [ob_s]
    exact r1
  · refine ⟨fun q hq => ?_, fun q hq => ?_, fun q hq => ?_, fun q hq => ?_, fun q hq => ?_, fun q hq => ?_, fun q hq => ?_⟩
    · rw [FA.B 1204 (by decide), t4]; exact H.t.al q hq
    · rw [g1206]
      show _ = stt T q
      rw [hstt]
      by_cases hqt : q = t
      · subst hqt; rw [if_pos rfl, if_pos rfl]
      · rw [if_neg (by omega), if_neg hqt]; exact H.t.st q hq
    · rw [FA.I 1208 (by decide), t4, H.t.at q hq]
      by_cases hqt : q = t
      · subst hqt; simp [hI_I, hI_L, hI_R, hI_B, hI_b, hL_I, hL_L, hL_R, hL_B, hL_b, hR_I, hR_L, hR_R, hR_B, hR_b, hB_I, hB_L, hB_R, hB_B, hB_b, hN_I, hN_L, hN_R, hN_B, hN_b, hT_I, hT_L, hT_R, hT_B, hT_b, hX_I, hX_L, hX_R, hX_B, hX_b, hC_I, hC_L, hC_R, hC_B, hC_b, hU_I, hU_L, hU_R, hU_B, hU_b, hat]
      · simp [hI_I, hI_L, hI_R, hI_B, hI_b, hL_I, hL_L, hL_R, hL_B, hL_b, hR_I, hR_L, hR_R, hR_B, hR_b, hB_I, hB_L, hB_R, hB_B, hB_b, hN_I, hN_L, hN_R, hN_B, hN_b, hT_I, hT_L, hT_R, hT_B, hT_b, hX_I, hX_L, hX_R, hX_B, hX_b, hC_I, hC_L, hC_R, hC_B, hC_b, hU_I, hU_L, hU_R, hU_B, hU_b, hqt]
    · rw [FA.L 1212 (by decide), t4]; exact H.t.re q hq
    · rw [FA.B 1214 (by decide), t4]; exact H.t.fl q hq
    · rw [FA.I 1216 (by decide), t4, set_I (by decide) (by decide)]
      exact H.t.ca q hq
    · rw [FA.B 1218 (by decide), t4]; exact H.t.br q hq
  · refine ⟨?_, ?_, ?_, ?_, ?_, ?_, ?_, ?_, ?_⟩
    · rw [FA.R 6 (by decide), t1]; exact H.s.ru
    · rw [FA.B 8 (by decide), t2]; exact H.s.ov
    · rw [FA.L 10 (by decide), t3]; exact H.s.nw
    · rw [FA.I 2 (by decide), t4]; exact H.s.tc
    · rw [FA.I 20 (by decide), t4]; exact H.s.cc
    · rw [FA.I 22 (by decide), t6]; exact H.s.ro
    · rw [FA.I 34 (by decide), t10]; exact H.s.gc
    · rw [FA.I 14 (by decide), t13]; exact H.s.ac
    · rw [t9]; simp [hI_I, hI_L, hI_R, hI_B, hI_b, hL_I, hL_L, hL_R, hL_B, hL_b, hR_I, hR_L, hR_R, hR_B, hR_b, hB_I, hB_L, hB_R, hB_B, hB_b, hN_I, hN_L, hN_R, hN_B, hN_b, hT_I, hT_L, hT_R, hT_B, hT_b, hX_I, hX_L, hX_R, hX_B, hX_b, hC_I, hC_L, hC_R, hC_B, hC_b, hU_I, hU_L, hU_R, hU_B, hU_b]; rfl
  · rw [t5, H.rd, List.filterMap_append, n1, List.append_nil]
  · rw [t8, H.mo, List.filterMap_append, n3]
    rfl
  · rw [t11, H.sn, List.filterMap_append, n2, List.append_nil]
theorem cOff_mem {mt : List kMt} (V : ∀ e ∈ mt, vCh e) : ∀ e ∈ cOff t mt, e.1 = t ∧ e.2.1 < 512 := by
  intro e he
  obtain ⟨q, hq1, hq2⟩ := List.mem_filterMap.mp he
  obtain ⟨q1, q2⟩ := q
  have hqm : q1 ∈ mt := by
    have := List.mem_zipIdx hq1
    rw [this.2.2]
    exact List.getElem_mem _
  split at hq2
  · cases hq2
  · cases hq2
    refine ⟨rfl, ?_⟩
    rcases V q1 hqm with h5 | ⟨q3, h5, h6⟩
    · rename_i h7
      exact absurd (by rw [h5]; decide) h7
    · show q1.1.toNatClampNeg < 512
      rw [h6, i32_nat (by omega)]
      exact h5
theorem K_choose (H : CR w S n) (I : SI S n) (J : SJ S n) (hn : n < 512) (r : rmOK w) : ∃ w', kx_ev wx_M (d + 8) 56 [kx_r 0 (some 1), kx_i x, kx_i (kx_b b)] w = some (if (pChoose S x b).1.th = 0 then .inl (some (.inl (kx_b (pChoose S x b).2))) else .inr (e3 (pChoose S x b).1.th), w') ∧ CR w' (pChoose S x b).1 n ∧ FB w w' := by
  have hl1 := I.l.1
  have hl2 := I.l.2
  have hml := I.ml
  have V9 : ∀ e ∈ S.mt, vCh e := I.mc
  have mc := K_cur (d := d + 6) H r (by omega)
  have th0 := thd_ok (d := d + 7) (e := 1) (l := [(0, kx_r 0 (some 1)), (1, kx_i x), (2, kx_i (kx_b b))]) (w := w) (by omega) r.1 r.2
  obtain ⟨ψ, hψ⟩ := kx_fu
  rw [mE_56 hψ]
  unfold mb_56_0
  unfold pChoose
  by_cases h1 : x < 0
  · rw [if_pos h1, if_neg (show ¬ 0 ≤ x by rw [nle_lt]; exact h1), th0]
    exact ⟨_, rfl, (H.th 1).bump 1 6, FC.rf.bm⟩
  · rw [if_neg h1, if_pos (show 0 ≤ x by rw [← nlt_le]; exact h1)]
    rcases cur_or S with hc | ⟨t, hc⟩
    · rw [hc] at mc
      have mc' : kx_ev wx_M (d + 7) 24 [kx_r 0 (some 1)] w = some (.inr 0, hp_bump w 1 6) := mc
      rw [hc]
      refine ⟨_, ?_, (H.th 2).bump 1 6, FC.rf.bm⟩
      simp only [ob_s, mc', br_e]
      rfl
    · have ht := I.b.cu t hc
      have h0 := I.cs t hc
      have hst : S.std ≠ 1 := by rw [J.sd t hc]; decide
      rw [hc] at mc
      have mc' : kx_ev wx_M (d + 7) 24 [kx_r 0 (some 1)] w = some (.inl (some (.inr (.inr (6, some (524 + 2 * t))))), w) := mc
      obtain ⟨Q, fp, tp, V, fv, A, ft, HX⟩ := id H
      have htl := HX.o.len
      have R : rTo w S.mt := by
        intro k e he
        have hk := (List.getElem?_eq_some_iff.mp he).1
        obtain ⟨o1, o2, o3, o4, o5⟩ := HX.o.e k tp[k] e (List.getElem?_eq_getElem (by omega)) he
        exact ⟨_, o1, o2, o3⟩
      have oc := K_openCase (d := d + 4) H (by omega) hml R V9 h1
      simp only [hc, ob_s, br_n, mc', oc]
      cases he : (cRdy S)[x.toNatClampNeg % (cRdy S).length]? with
      | some e =>
        obtain ⟨e1q, e2q⟩ := e
        have hem := List.mem_of_getElem? he
        obtain ⟨hm1, hm2⟩ := List.mem_filter.mp hem
        have hk := List.mem_zipIdx hm1
        have hk2 : e2q < S.mt.length := by omega
        have hg : S.mt[e2q]? = some e1q := by
          rw [List.getElem?_eq_getElem hk2]
          congr 1
          exact hk.2.2.symm
        have hem2 := List.mem_of_getElem? hg
        have hrd : isRdy S e1q = true := hm2
        obtain ⟨q, hq, hqe⟩ : ∃ q, q < 512 ∧ e1q.1 = i32 q := by
          rcases V9 e1q hem2 with h5 | h5
          · exfalso
            unfold isRdy maySend mayRecv at hrd
            rw [h5] at hrd
            split at hrd
            · have := of_decide_eq_true hrd
              exact absurd this.1 (by decide)
            · have := of_decide_eq_true hrd
              exact absurd this.1 (by decide)
          · exact h5
        obtain ⟨o1, o2, o3, o4, o5⟩ := HX.o.e e2q tp[e2q] e1q (List.getElem?_eq_getElem (by omega)) hg
        have hpl := HX.q.isp tp[e2q] (List.mem_append_right _ (List.getElem_mem _))
        obtain ⟨w1, a1, H1, F1⟩ := K_doCase (d := d + 2) (t := t) HX hml (by omega) ht h0 r hq hqe o2 o3 o4 o5 hpl
        refine ⟨w1, ?_, H1, F1⟩
        have hb : ((some (e1q, e2q) : Option (kMt × Nat)).bind fun e => hp_R w 1043 e.2) = some tp[e2q] := o1
        have hth : ∀ (T : kS) (e : kMt × Nat), T.th = 0 → (sDone T t e).1.th = if (sDone T t e).2 = true then 0 else 3 := by
          intro T e hT
          unfold sDone
          split
          · rw [if_pos rfl]; exact (take_th _ _ _ _).trans hT
          · split
            · rfl
            · rw [if_pos rfl]
              show (sDel T _ _).th = 0
              unfold sDel
              split <;> exact hT
        rw [hth _ _ rfl]
        simp only [hb, reduceCtorEq, if_false, a1]
        cases hd2 : (sDone (kS.s_mt ((kS.s_th S (0))) ([])) t (e1q, e2q)).2 with
        | true => simp only [eq_self, reduceCtorEq, if_true, if_false, bv_n]; rfl
        | false => simp only [eq_self, reduceCtorEq, if_true, if_false, bv_e]; rfl
      | none =>
        have hb : ((none : Option (kMt × Nat)).bind fun e => hp_R w 1043 e.2) = none := rfl
        simp only [hb, if_true]
        cases b with
        | true =>
          simp only [kx_b_t, i10, if_true, if_false]
          obtain ⟨w1, fp1, a1, H1, F1⟩ := C_forget (d := d + 5) HX hml (kS.s_mt ((kS.s_th S (0))) ([])) rfl rfl rfl rfl rfl rfl rfl rfl rfl rfl rfl rfl rfl
          obtain ⟨w2, a2, H2, F2⟩ := C_tell (d := d + 6) (t := t) (v := 0) (f := false) (x := -1) (b := false) H1 ht
          rw [kx_b_f] at a2
          refine ⟨w2, ?_, H2.cr, ((FC.of F1 (by decide) (by decide) (by decide) (by decide)).tr (FC.of F2 (by decide) (by decide) (by decide) (by decide))).fb⟩
          simp only [a1, bv_n, a2]
          rfl
        | false =>
          simp only [kx_b_f, eq_self, reduceCtorEq, if_true, if_false]
          have hni := I.b.nin0 h0
          have hX := cOff_mem (t := t) V9
          have hat : hp_I S.m 8733 t = -1 := by
            rcases J.wh t ht (J.lv t hc) with h | h
            · rw [h0] at h
              rcases h with h | h | h <;> exact absurd h (by decide)
            · exact h
          obtain ⟨how, hhow⟩ : ∃ how, how = if cOff t S.mt = [] then (7 : Int32) else 4 := ⟨_, rfl⟩
          obtain ⟨w1, a1, H1, F1⟩ := C_wic (d := d + 5) (how := how) HX hml ht (HX.q.no (Or.inl h0)) hat V9 hhow (kS.s_m ((kS.s_mo ((kS.s_mt ((kS.s_th S (0))) ([]))) (S.mo ++ cOff t S.mt))) (hp_sI (hp_sI S.m 8731 t how) 8733 t (-1))) rfl rfl rfl rfl rfl rfl rfl rfl rfl rfl rfl rfl rfl
          have BR := SB.rest (how := how) (place := -1) I.b hni ht (cOff t S.mt) [] [] (fun e he => ⟨(hX e he).1, (hX e he).2, by
            rw [hhow]
            by_cases h : cOff t S.mt = []
            · rw [h] at he; simp at he
            · rw [if_neg h]; exact Or.inr (Or.inr rfl)⟩) (Or.inl rfl) (Or.inl rfl)
          simp only [List.append_nil] at BR
          have BR2 : SB (((kS.s_m ((kS.s_mo ((kS.s_mt ((kS.s_th S (0))) ([]))) (S.mo ++ cOff t S.mt))) (hp_sI (hp_sI S.m 8731 t how) 8733 t (-1)))).s_cur none) := BR.of BR.cu (fun _ _ => rfl) (List.Sublist.refl _) (List.Sublist.refl _) (List.Sublist.refl _) (List.Sublist.refl _)
          obtain ⟨w2, a2, H2, F2⟩ := C_goOn (d := d) H1.cr hst BR2 I.a (by show S.mv.length + S.me.length ≤ 512; omega)
          rw [← hhow]
          refine ⟨w2, ?_, H2, (F1.tr F2).fb⟩
          have hth : (sRest (kS.s_mo ((kS.s_mt ((kS.s_th S (0))) ([]))) (S.mo ++ cOff t S.mt)) t how (-1), false).1.th = 0 := next_th _
          rw [if_pos hth]
          simp only [a1, bv_n, a2]
          rfl
end CHK
