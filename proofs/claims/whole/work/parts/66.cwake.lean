/-! a task waits in a row; who is woken -/
section CW
variable {w w' : kx_H} {S S' : kS} {t g n d c : Nat} {x how st : Int32} {v val : Int64} {f b : Bool} {Q : List kQ} {fp tp fv ft : List Nat} {V : List (Nat × Int64 × Nat)} {A : List (Nat × kMe)} {l : kLoc}
def sAdd (S : kS) (t : Nat) (l : kLoc) (st x : Int32) (val : Int64) : kS := (kS.s_sn ((kS.s_mo ((kS.s_rd ((kS.s_m S (hp_sI (hp_sI S.m 8731 t st) 8733 t x))) (S.rd ++ (qRd (l, 523 + 2 * t, t, val, -1)).toList))) (S.mo ++ (qMo (l, 523 + 2 * t, t, val, -1)).toList))) (S.sn ++ (qSn (l, 523 + 2 * t, t, val, -1)).toList))
theorem fm_app {α β : Type} {f : α → Option β} {l : List α} {a : α} : (l ++ [a]).filterMap f = l.filterMap f ++ (f a).toList := by
  rw [List.filterMap_append]
  cases h : f a <;> simp [h]
theorem set_I {k : Nat} (h1 : k ≠ 8731) (h2 : k ≠ 8733) (m : kx_H) : hp_I (hp_sI (hp_sI m 8731 t st) 8733 t x) k = hp_I m k := by
  funext j
  simp [hI_I, h1, h2]
/-- Task.waitIn -/
theorem C_wait (H : CX w S n Q fp tp V fv A ft) (ht : t < 256) (hl : lok l) (hs : sOK l st) (h8 : hp_R w 810 (523 + 2 * t) = none) (hn : ∀ q ∈ Q, q.2.2.1 ≠ t) (hv : lgv l = true → hp_L w 806 (523 + 2 * t) = val) : ∃ w', kx_ev wx_M (d + 2) 27 [kx_r 6 (some (524 + 2 * t)), kx_r 5 (some (lrw l)), kx_i st, kx_i x] w = some (.inl none, w') ∧ CX w' (sAdd S t l st x val) n (Q ++ [(l, 523 + 2 * t, t, val, -1)]) fp tp V fv A ft ∧ FR [1206, 1208, 1004] [] [810, 812, 814, 1000, 1002] [] w w' := by
  have hq := H.q
  have F1 : FR [1206, 1208, 1004] [] [810, 812, 814, 1000, 1002] [] w (hp_sI (hp_sI w 1206 (524 + 2 * t) st) 1208 (524 + 2 * t) x) := FR.sI (by decide) (FR.sI (by decide) FR.rf)
  have K1 : kRow (hp_sI (hp_sI w 1206 (524 + 2 * t) st) 1208 (524 + 2 * t) x) (Qrl Q) := by
    refine hq.row.cong rfl rfl rfl rfl rfl ?_
    funext j
    simp [hI_I, hI_L, hI_R, hI_B, hI_b, hL_I, hL_L, hL_R, hL_B, hL_b, hR_I, hR_L, hR_R, hR_B, hR_b, hB_I, hB_L, hB_R, hB_B, hB_b, hN_I, hN_L, hN_R, hN_B, hN_b, hT_I, hT_L, hT_R, hT_B, hT_b, hX_I, hX_L, hX_R, hX_B, hX_b, hC_I, hC_L, hC_R, hC_B, hC_b, hU_I, hU_L, hU_R, hU_B, hU_b]
  obtain ⟨w2, s1, K2, F2⟩ := L_append (d := d) (r := lrw l) (p := 523 + 2 * t) K1 h8
  have K3 : kRow w2 (Qrl (Q ++ [(l, 523 + 2 * t, t, val, -1)])) := by
    rw [← Qrl_app]
    exact K2
  have FF : FR [1206, 1208, 1004] [] [810, 812, 814, 1000, 1002] [] w w2 := F1.tr (F2.mono (fun k h => by revert k; decide) (fun _ h => h) (fun _ h => h) (fun _ h => h))
  have c1206 : ∀ j, hp_I w2 1206 j = if j = 524 + 2 * t then st else hp_I w 1206 j := by
    intro j
    rw [F2.I 1206 (by decide)]
    by_cases hj : j = 524 + 2 * t <;> simp [hI_I, hI_L, hI_R, hI_B, hI_b, hL_I, hL_L, hL_R, hL_B, hL_b, hR_I, hR_L, hR_R, hR_B, hR_b, hB_I, hB_L, hB_R, hB_B, hB_b, hN_I, hN_L, hN_R, hN_B, hN_b, hT_I, hT_L, hT_R, hT_B, hT_b, hX_I, hX_L, hX_R, hX_B, hX_b, hC_I, hC_L, hC_R, hC_B, hC_b, hU_I, hU_L, hU_R, hU_B, hU_b, hj]
  have c1208 : ∀ j, hp_I w2 1208 j = if j = 524 + 2 * t then x else hp_I w 1208 j := by
    intro j
    rw [F2.I 1208 (by decide)]
    by_cases hj : j = 524 + 2 * t <;> simp [hI_I, hI_L, hI_R, hI_B, hI_b, hL_I, hL_L, hL_R, hL_B, hL_b, hR_I, hR_L, hR_R, hR_B, hR_b, hB_I, hB_L, hB_R, hB_B, hB_b, hN_I, hN_L, hN_R, hN_B, hN_b, hT_I, hT_L, hT_R, hT_B, hT_b, hX_I, hX_L, hX_R, hX_B, hX_b, hC_I, hC_L, hC_R, hC_B, hC_b, hU_I, hU_L, hU_R, hU_B, hU_b, hj]
  have hqis : qIs (l, 523 + 2 * t, t, val, (-1 : Int32)) = false := qIs_f.mpr rfl
  have ecas : ∀ j, qCas (Q ++ [(l, 523 + 2 * t, t, val, -1)]) j = qCas Q j := by
    intro j
    unfold qCas
    rw [List.filter_append]
    simp [hqis]
  have epl : qPl (Q ++ [(l, 523 + 2 * t, t, val, -1)]) = qPl Q := by
    unfold qPl
    rw [List.filter_append]
    simp [hqis]
  refine ⟨w2, ?_, ⟨H.k.fr FF (by decide) (by decide) (by decide) (by decide), ?_, (H.s.fr FF (by decide) (by decide) (by decide) (by decide)).sc rfl rfl rfl rfl rfl rfl rfl rfl rfl, (H.c.fr FF (by decide) (by decide) (by decide) (by decide)).sc rfl rfl (set_I (by decide) (by decide) S.m) rfl rfl, (H.g.fr FF (by decide) (by decide) (by decide) (by decide)).sc (set_I (by decide) (by decide) S.m) (set_I (by decide) (by decide) S.m) (set_I (by decide) (by decide) S.m) rfl, ?_, H.o.fr FF (by decide) (by decide) (by decide) (by decide), ?_, ?_, ?_, H.v.fr FF (by decide) (by decide) (by decide) (by decide), H.a.imp id (fun h => h.fr FF (by decide) (by decide) (by decide) (by decide))⟩, FF⟩
  · skip
    obtain ⟨ψ, hψ⟩ := kx_fu
    rw [mE_27 hψ]
    unfold mb_27_0
    have e : hp_R (hp_sI (hp_sI w 1206 (524 + 2 * t) st) 1208 (524 + 2 * t) x) 1202 (524 + 2 * t) = some (523 + 2 * t) := (H.k.t t ht).2.2
    simp only [ob_s, e, s1, bv_n]
  · refine ⟨fun q hq => ?_, fun q hq => ?_, fun q hq => ?_, fun q hq => ?_, fun q hq => ?_, fun q hq => ?_, fun q hq => ?_⟩
    · rw [FF.B 1204 (by decide)]; exact H.t.al q hq
    · rw [c1206]
      have h5 := H.t.st q hq
      show _ = hp_I (hp_sI (hp_sI S.m 8731 t st) 8733 t x) 8731 q
      by_cases hqt : q = t
      · subst hqt; simp [hI_I, hI_L, hI_R, hI_B, hI_b, hL_I, hL_L, hL_R, hL_B, hL_b, hR_I, hR_L, hR_R, hR_B, hR_b, hB_I, hB_L, hB_R, hB_B, hB_b, hN_I, hN_L, hN_R, hN_B, hN_b, hT_I, hT_L, hT_R, hT_B, hT_b, hX_I, hX_L, hX_R, hX_B, hX_b, hC_I, hC_L, hC_R, hC_B, hC_b, hU_I, hU_L, hU_R, hU_B, hU_b]
      · have h9 : ¬ 2 * q = 2 * t := by omega
        simp [hI_I, hI_L, hI_R, hI_B, hI_b, hL_I, hL_L, hL_R, hL_B, hL_b, hR_I, hR_L, hR_R, hR_B, hR_b, hB_I, hB_L, hB_R, hB_B, hB_b, hN_I, hN_L, hN_R, hN_B, hN_b, hT_I, hT_L, hT_R, hT_B, hT_b, hX_I, hX_L, hX_R, hX_B, hX_b, hC_I, hC_L, hC_R, hC_B, hC_b, hU_I, hU_L, hU_R, hU_B, hU_b, hqt, h9]; exact h5
    · rw [c1208]
      have h5 := H.t.at q hq
      show _ = hp_I (hp_sI (hp_sI S.m 8731 t st) 8733 t x) 8733 q
      by_cases hqt : q = t
      · subst hqt; simp [hI_I, hI_L, hI_R, hI_B, hI_b, hL_I, hL_L, hL_R, hL_B, hL_b, hR_I, hR_L, hR_R, hR_B, hR_b, hB_I, hB_L, hB_R, hB_B, hB_b, hN_I, hN_L, hN_R, hN_B, hN_b, hT_I, hT_L, hT_R, hT_B, hT_b, hX_I, hX_L, hX_R, hX_B, hX_b, hC_I, hC_L, hC_R, hC_B, hC_b, hU_I, hU_L, hU_R, hU_B, hU_b]
      · have h9 : ¬ 2 * q = 2 * t := by omega
        simp [hI_I, hI_L, hI_R, hI_B, hI_b, hL_I, hL_L, hL_R, hL_B, hL_b, hR_I, hR_L, hR_R, hR_B, hR_b, hB_I, hB_L, hB_R, hB_B, hB_b, hN_I, hN_L, hN_R, hN_B, hN_b, hT_I, hT_L, hT_R, hT_B, hT_b, hX_I, hX_L, hX_R, hX_B, hX_b, hC_I, hC_L, hC_R, hC_B, hC_b, hU_I, hU_L, hU_R, hU_B, hU_b, hqt, h9]; exact h5
    · rw [FF.L 1212 (by decide)]; exact H.t.re q hq
    · rw [FF.B 1214 (by decide)]; exact H.t.fl q hq
    · rw [FF.I 1216 (by decide)]
      show _ = hp_I (hp_sI (hp_sI S.m 8731 t st) 8733 t x) 8739 q
      rw [set_I (by decide) (by decide)]
      exact H.t.ca q hq
    · rw [FF.B 1218 (by decide)]; exact H.t.br q hq
  · have hst : ∀ q, stt (sAdd S t l st x val) q = if q = t then st else stt S q := fun q => stt_set S t st x q
    refine ⟨K3, fun q hm => ?_, fun q hm => ?_, fun q hm => ?_, fun j hj => ?_, fun j hj => ?_, fun j => ?_, ?_, ?_, ?_, hq.isp, hq.len⟩
    · rw [hst]
      rcases List.mem_append.mp hm with hm | hm
      · rw [if_neg (hn q hm)]; exact hq.loc q hm
      · simp at hm
        subst hm
        rw [if_pos rfl]
        exact ⟨hl, ht, hs⟩
    · rcases List.mem_append.mp hm with hm | hm
      · exact hq.pl q hm
      · simp at hm
        subst hm
        exact Or.inl ⟨rfl, rfl⟩
    · rw [FF.R 800 (by decide), FF.I 808 (by decide), FF.L 806 (by decide)]
      rcases List.mem_append.mp hm with hm | hm
      · exact hq.own q hm
      · simp at hm
        subst hm
        exact ⟨(hq.std t ht).1, (hq.std t ht).2, hv⟩
    · rw [FF.R 800 (by decide), FF.I 808 (by decide)]
      exact hq.std j hj
    · rw [FF.R 816 (by decide), FF.R 1210 (by decide), ecas]
      exact hq.cas j hj
    · rw [ecas]; exact hq.caL j
    · rw [FF.R 816 (by decide), FF.R 30 (by decide)]
      exact hq.fre
    · rw [epl]; exact hq.nd
    · rw [List.map_append, List.nodup_append]
      refine ⟨hq.qn, by simp, fun a ha y hy e => ?_⟩
      simp at hy
      subst hy
      subst e
      obtain ⟨q, h1, h2⟩ := List.mem_map.mp ha
      exact hn q h1 (hq.stP h1 ht h2).1
  · show S.rd ++ _ = _
    rw [fm_app, H.rd]
  · show S.mo ++ _ = _
    rw [fm_app, H.mo]
  · show S.sn ++ _ = _
    rw [fm_app, H.sn]
def CR (w : kx_H) (S : kS) (n : Nat) : Prop := ∃ Q fp tp V fv A ft, CX w S n Q fp tp V fv A ft
theorem CX.cr (H : CX w S n Q fp tp V fv A ft) : CR w S n := ⟨Q, fp, tp, V, fv, A, ft, H⟩
theorem sAdd_rd (S : kS) (t : Nat) (v : Int64) : sAdd S t none 1 (-1) v = sWake S t := by
  unfold sAdd sWake
  have e1 : qRd ((none : kLoc), 523 + 2 * t, t, v, (-1 : Int32)) = some t := rfl
  have e2 : qMo ((none : kLoc), 523 + 2 * t, t, v, (-1 : Int32)) = none := rfl
  have e3 : qSn ((none : kLoc), 523 + 2 * t, t, v, (-1 : Int32)) = none := rfl
  rw [e1, e2, e3]
  simp only [Option.toList_some, Option.toList_none, List.append_nil]
theorem not_mem_fl {p : kQ → Bool} (q : kQ) (hq : q ∈ Q.filter (fun q => q.2.2.1 != t)) : q.2.2.1 ≠ t := by
  have := (List.mem_filter.mp hq).2
  simpa using this
/-- TaskDesk.wake: who has the place p -/
theorem C_wake {p : Nat} (H : CX w S n Q fp tp V fv A ft) (ht : t < 256) (hp : hp_R w 800 p = some (524 + 2 * t)) : ∃ w', kx_ev wx_M (d + 3) 35 [kx_r 0 (some 1), kx_r 4 (some p), kx_l v, kx_i (kx_b f), kx_i (kx_b b)] w = some (.inl none, w') ∧ CX w' (sWake (sNot (sHas S t v f (hp_I w 808 p) b) t) t) n (Q.filter (fun q => q.2.2.1 != t) ++ [(none, 523 + 2 * t, t, 0, -1)]) ((qCas Q t).reverse ++ fp) tp V fv A ft ∧ FC w w' := by
  obtain ⟨w1, a1, H1, F1⟩ := C_tell (d := d + 1) (t := t) (v := v) (f := f) (x := hp_I w 808 p) (b := b) H ht
  obtain ⟨w2, a2, H2, h8, F2⟩ := C_out (d := d) H1 ht
  obtain ⟨w3, a3, H3, F3⟩ := C_wait (d := d) (l := none) (st := 1) (x := -1) (val := 0) H2 ht trivial rfl h8 (fun q hq => not_mem_fl (p := qIs) q hq) (fun h => by cases h)
  rw [sAdd_rd] at H3
  refine ⟨w3, ?_, H3, (FC.of F1 (by decide) (by decide) (by decide) (by decide)).tr ((FC.of F2 (by decide) (by decide) (by decide) (by decide)).tr (FC.of F3 (by decide) (by decide) (by decide) (by decide)))⟩
  obtain ⟨ψ, hψ⟩ := kx_fu
  rw [mE_35 hψ]
  unfold mb_35_0
  have e4 : hp_R w2 4 1 = some 3 := H2.k.d.2.1
  have a3' : kx_ev wx_M (d + 2) 27 [kx_r 6 (some (524 + 2 * t)), kx_r 5 (some 3), kx_i 1, kx_i (-1)] w2 = some (.inl none, w3) := a3
  simp only [ob_s, hp, reduceCtorEq, if_false, a1, bv_n, a2, e4, a3', me_35_42, mb_35_42]
theorem mo_of (H : CX w S n Q fp tp V fv A ft) {e : kMo} (he : e ∈ S.mo) : ∃ q ∈ Q, q.1 = some (.inl (some e.2.1, e.2.2.1)) ∧ q.2.2.1 = e.1 ∧ q.2.2.2.1 = e.2.2.2.1 ∧ q.2.2.2.2 = e.2.2.2.2 := by
  rw [H.mo] at he
  obtain ⟨q, h1, h2⟩ := List.mem_filterMap.mp he
  obtain ⟨ql, qp, qt, qv, qk⟩ := q
  rcases ql with _ | ⟨⟨_ | c', g'⟩ | ⟨g', r'⟩⟩ <;> cases h2
  exact ⟨_, h1, rfl, rfl, rfl, rfl⟩
theorem sn_of (H : CX w S n Q fp tp V fv A ft) {e : kMs} (he : e ∈ S.sn) : ∃ q ∈ Q, q.1 = some (.inr (e.2.1, e.2.2)) ∧ q.2.2.1 = e.1 := by
  rw [H.sn] at he
  obtain ⟨q, h1, h2⟩ := List.mem_filterMap.mp he
  obtain ⟨ql, qp, qt, qv, qk⟩ := q
  rcases ql with _ | ⟨⟨_ | c', g'⟩ | ⟨g', r'⟩⟩ <;> cases h2
  exact ⟨_, h1, rfl, rfl⟩
theorem rd_of (H : CX w S n Q fp tp V fv A ft) {t : Nat} (he : t ∈ S.rd) : ∃ q ∈ Q, q.1 = none ∧ q.2.2.1 = t := by
  rw [H.rd] at he
  obtain ⟨q, h1, h2⟩ := List.mem_filterMap.mp he
  obtain ⟨ql, qp, qt, qv, qk⟩ := q
  rcases ql with _ | a <;> cases h2
  exact ⟨_, h1, rfl, rfl⟩
theorem st_rd (H : CX w S n Q fp tp V fv A ft) {t : Nat} (he : t ∈ S.rd) : stt S t = 1 := by
  obtain ⟨q, h1, h2, h3⟩ := rd_of H he
  have := (H.q.loc q h1).2.2
  rw [h2, h3] at this
  exact this
theorem st_mo (H : CX w S n Q fp tp V fv A ft) {e : kMo} (he : e ∈ S.mo) : stt S e.1 = 2 ∨ stt S e.1 = 3 ∨ stt S e.1 = 4 ∨ stt S e.1 = 7 := by
  obtain ⟨q, h1, h2, h3, -⟩ := mo_of H he
  have := (H.q.loc q h1).2.2
  rw [h2, h3] at this
  exact this
theorem st_sn (H : CX w S n Q fp tp V fv A ft) {e : kMs} (he : e ∈ S.sn) : stt S e.1 = 6 := by
  obtain ⟨q, h1, h2, h3⟩ := sn_of H he
  have := (H.q.loc q h1).2.2
  rw [h2, h3] at this
  exact this
theorem fl_no {l : List Nat} (h : t ∉ l) : l.filter (fun q => q != t) = l := by
  rw [List.filter_eq_self]
  intro a ha
  simp
  exact fun e => h (e ▸ ha)
theorem sNot_mo (H : CX w S n Q fp tp V fv A ft) {e : kMo} (he : e ∈ S.mo) : sNot (sHas S e.1 v f x b) e.1 = sWdr (sHas S e.1 v f x b) e.1 := by
  have h0 := st_mo H he
  have h1 : S.rd.filter (fun q => q != e.1) = S.rd := fl_no (fun h => by
    have := st_rd H h
    rw [this] at h0
    revert h0; decide)
  have h2 : S.sn.filter (fun q => q.1 != e.1) = S.sn := by
    rw [List.filter_eq_self]
    intro a ha
    simp
    intro z
    have := st_sn H ha
    rw [z] at this
    rw [this] at h0
    revert h0; decide
  show (((sHas S e.1 v f x b).s_rd (S.rd.filter (fun q => q != e.1))).s_mo _).s_sn (S.sn.filter (fun q => q.1 != e.1)) = _
  rw [h1, h2]
  rfl
theorem sNot_sn (H : CX w S n Q fp tp V fv A ft) {e : kMs} (he : e ∈ S.sn) : sNot (sHas S e.1 v f x b) e.1 = sHas (sOut S e.1) e.1 v f x b := by
  have h0 := st_sn H he
  have h1 : S.rd.filter (fun q => q != e.1) = S.rd := fl_no (fun h => by
    have := st_rd H h
    rw [this] at h0
    revert h0; decide)
  have h2 : S.mo.filter (fun q => q.1 != e.1) = S.mo := by
    rw [List.filter_eq_self]
    intro a ha
    simp
    intro z
    have := st_mo H ha
    rw [z, h0] at this
    revert this; decide
  show (((sHas S e.1 v f x b).s_rd (S.rd.filter (fun q => q != e.1))).s_mo (S.mo.filter (fun q => q.1 != e.1))).s_sn _ = _
  rw [h1, h2]
  rfl
theorem CX.lk (H : CX w S n Q fp tp V fv A ft) : ∀ q ∈ Q, lok q.1 := fun q hq => (H.q.loc q hq).1
/-- the first at a channel -/
theorem hd_mo (H : CX w S n Q fp tp V fv A ft) (hc : c < 512) : (sFst S c b = none → hp_R w 1000 (lrw (some (.inl (some c, b)))) = none) ∧ ∀ e, sFst S c b = some e → ∃ p, hp_R w 1000 (lrw (some (.inl (some c, b)))) = some p ∧ hp_R w 800 p = some (524 + 2 * e.1) ∧ hp_I w 808 p = e.2.2.2.2 ∧ (b = true → hp_L w 806 p = e.2.2.2.1) ∧ e.1 < 256 ∧ e ∈ S.mo := by
  have h1 := (H.q.row.1 (lrw (some (.inl (some c, b))))).1
  rw [Qrl_head H.lk (show lok (some (.inl (some c, b))) from hc)] at h1
  have h2 : sFst S c b = (Q.find? (fun q => decide (q.1 = some (.inl (some c, b))))).bind qMo := by
    unfold sFst
    rw [H.mo]
    exact Qmo_find
  cases hf : Q.find? (fun q => decide (q.1 = some (.inl (some c, b)))) with
  | none =>
    rw [hf] at h1 h2
    exact ⟨fun _ => h1, fun e he => by rw [h2] at he; cases he⟩
  | some q =>
    rw [hf] at h1 h2
    have hq := List.mem_of_find?_eq_some hf
    have hq1 := List.find?_some hf
    simp at hq1
    have hq2 : qMo q = some (q.2.2.1, c, b, q.2.2.2.1, q.2.2.2.2) := by
      unfold qMo
      rw [hq1]
    have h3 : sFst S c b = some (q.2.2.1, c, b, q.2.2.2.1, q.2.2.2.2) := by rw [h2]; exact hq2
    refine ⟨fun h => (by rw [h3] at h; cases h), fun e he => ?_⟩
    have hem := (sFst_mem he).1
    rw [h3] at he
    cases he
    obtain ⟨o1, o2, o3⟩ := H.q.own q hq
    exact ⟨q.2.1, h1, o1, o2, fun hb => o3 (by rw [hq1, hb]; rfl), (H.q.loc q hq).2.1, hem⟩
theorem C_met {e : kMo} {r : Bool} (H : CR w S n) (hc : c < 512) (he : sFst S c r = some e) : ∃ p, hp_R w 1000 (lrw (some (.inl (some c, r)))) = some p ∧ (r = true → hp_L w 806 p = e.2.2.2.1) ∧ hp_I w 808 p = e.2.2.2.2 ∧ ∀ (v : Int64) (f b : Bool), ∃ w', kx_ev wx_M (d + 3) 35 [kx_r 0 (some 1), kx_r 4 (some p), kx_l v, kx_i (kx_b f), kx_i (kx_b b)] w = some (.inl none, w') ∧ CR w' (sMet S e v f b) n ∧ FC w w' := by
  obtain ⟨Q, fp, tp, V, fv, A, ft, H⟩ := H
  obtain ⟨p, h1, h2, h3, h4, h5, h6⟩ := (hd_mo H hc).2 e he
  refine ⟨p, h1, h4, h3, fun v f b => ?_⟩
  obtain ⟨w', a1, H1, F1⟩ := C_wake (d := d) (v := v) (f := f) (b := b) H h5 h2
  rw [h3, sNot_mo H h6] at H1
  exact ⟨w', a1, H1.cr, F1⟩
theorem C_none {r : Bool} (H : CR w S n) (hc : c < 512) (he : sFst S c r = none) : hp_R w 1000 (lrw (some (.inl (some c, r)))) = none := by
  obtain ⟨Q, fp, tp, V, fv, A, ft, H⟩ := H
  exact (hd_mo H hc).1 he
theorem hd_sn (H : CX w S n Q fp tp V fv A ft) (hg : g < 256) (hh : how = 0 ∨ how = 1) : (sStg S g how = none → hp_R w 1000 (lrw (some (.inr (g, how == 1)))) = none) ∧ ∀ e, sStg S g how = some e → ∃ p, hp_R w 1000 (lrw (some (.inr (g, how == 1)))) = some p ∧ hp_R w 800 p = some (524 + 2 * e.1) ∧ hp_I w 808 p = -1 ∧ p = 523 + 2 * e.1 ∧ e.1 < 256 ∧ e ∈ S.sn := by
  have h1 := (H.q.row.1 (lrw (some (.inr (g, how == 1))))).1
  rw [Qrl_head H.lk (show lok (some (.inr (g, how == 1))) from hg)] at h1
  have h2 : sStg S g how = (Q.find? (fun q => decide (q.1 = some (.inr (g, how == 1))))).bind qSn := by
    unfold sStg
    rw [H.sn]
    exact Qsn_find hh
  cases hf : Q.find? (fun q => decide (q.1 = some (.inr (g, how == 1)))) with
  | none =>
    rw [hf] at h1 h2
    exact ⟨fun _ => h1, fun e he => by rw [h2] at he; cases he⟩
  | some q =>
    rw [hf] at h1 h2
    have hq := List.mem_of_find?_eq_some hf
    have hq1 := List.find?_some hf
    simp only [decide_eq_true_eq] at hq1
    have hq2 : qSn q = some (q.2.2.1, g, how == 1) := by
      unfold qSn
      rw [hq1]
    have h3 : sStg S g how = some (q.2.2.1, g, how == 1) := by rw [h2]; exact hq2
    refine ⟨fun h => (by rw [h3] at h; cases h), fun e he => ?_⟩
    have hem := (sStg_mem he).1
    rw [h3] at he
    cases he
    obtain ⟨o1, o2, o3⟩ := H.q.own q hq
    rcases H.q.pl q hq with ⟨p1, p2⟩ | ⟨-, y, p2⟩
    · exact ⟨q.2.1, h1, o1, by rw [o2, p2], p1, (H.q.loc q hq).2.1, hem⟩
    · rw [hq1] at p2
      cases p2
theorem C_lets {e : kMs} (H : CR w S n) (hg : g < 256) (hh : how = 0 ∨ how = 1) (he : sStg S g how = some e) : ∃ p, hp_R w 1000 (lrw (some (.inr (g, how == 1)))) = some p ∧ hp_R w 800 p = some (524 + 2 * e.1) ∧ ∀ (f : Bool), ∃ w', kx_ev wx_M (d + 3) 35 [kx_r 0 (some 1), kx_r 4 (some p), kx_l 0, kx_i (kx_b f), kx_i (kx_b false)] w = some (.inl none, w') ∧ CR w' (sLets S e f) n ∧ FC w w' := by
  obtain ⟨Q, fp, tp, V, fv, A, ft, H⟩ := H
  obtain ⟨p, h1, h2, h3, h4, h5, h6⟩ := (hd_sn H hg hh).2 e he
  refine ⟨p, h1, h2, fun f => ?_⟩
  obtain ⟨w', a1, H1, F1⟩ := C_wake (d := d) (v := 0) (f := f) (b := false) H h5 h2
  rw [h3, sNot_sn H h6] at H1
  exact ⟨w', a1, H1.cr, F1⟩
theorem C_noneG (H : CR w S n) (hg : g < 256) (hh : how = 0 ∨ how = 1) (he : sStg S g how = none) : hp_R w 1000 (lrw (some (.inr (g, how == 1)))) = none := by
  obtain ⟨Q, fp, tp, V, fv, A, ft, H⟩ := H
  exact (hd_sn H hg hh).1 he
/-- how many wait there -/
theorem len_mo {r : Bool} (H : CR w S n) (hc : c < 512) : hp_I w 1004 (lrw (some (.inl (some c, r)))) = i32 (S.mo.countP (oAt c r)) := by
  obtain ⟨Q, fp, tp, V, fv, A, ft, H⟩ := H
  rw [(H.q.row.1 (lrw (some (.inl (some c, r))))).2.2.1, Qrl_l H.lk (show lok (some (.inl (some c, r))) from hc), H.mo, List.length_map]
  congr 1
  clear H
  induction Q with
  | nil => rfl
  | cons q Q ih =>
    obtain ⟨ql, qp, qt, qv, qk⟩ := q
    rcases ql with _ | ⟨⟨_ | c', g'⟩ | ⟨g', r'⟩⟩
    · rw [fm_no rfl, List.filter_cons_of_neg (by simp)]; exact ih
    · rw [fm_no rfl, List.filter_cons_of_neg (by simp)]; exact ih
    · rw [List.filterMap_cons_some (f := qMo) (a := (some (.inl (some c', g')), qp, qt, qv, qk)) (b := (qt, c', g', qv, qk)) rfl]
      by_cases h : c' = c ∧ g' = r
      · obtain ⟨rfl, rfl⟩ := h
        rw [List.filter_cons_of_pos (by simp), List.countP_cons_of_pos (by simp [oAt]), List.length_cons, ih]
      · rw [List.filter_cons_of_neg (by simp; exact fun e e2 => h ⟨e, e2⟩), List.countP_cons_of_neg (by simp only [oAt]; simp; exact fun e e2 => h ⟨e, e2⟩), ih]
    · rw [fm_no rfl, List.filter_cons_of_neg (by simp)]; exact ih
theorem len_sn (H : CR w S n) (hg : g < 256) (hh : how = 0 ∨ how = 1) : hp_I w 1004 (lrw (some (.inr (g, how == 1)))) = i32 (S.sn.countP (gAt g how)) := by
  obtain ⟨Q, fp, tp, V, fv, A, ft, H⟩ := H
  have h2 : (how == 2) = false := by rcases hh with rfl | rfl <;> decide
  rw [(H.q.row.1 (lrw (some (.inr (g, how == 1))))).2.2.1, Qrl_l H.lk (show lok (some (.inr (g, how == 1))) from hg), H.sn, List.length_map]
  congr 1
  clear H
  induction Q with
  | nil => rfl
  | cons q Q ih =>
    obtain ⟨ql, qp, qt, qv, qk⟩ := q
    rcases ql with _ | ⟨⟨_ | c', g'⟩ | ⟨g', r'⟩⟩
    · rw [fm_no rfl, List.filter_cons_of_neg (by simp)]; exact ih
    · rw [fm_no rfl, List.filter_cons_of_neg (by simp)]; exact ih
    · rw [fm_no rfl, List.filter_cons_of_neg (by simp)]; exact ih
    · rw [List.filterMap_cons_some (f := qSn) (a := (some (.inr (g', r')), qp, qt, qv, qk)) (b := (qt, g', r')) rfl]
      by_cases h : g' = g ∧ r' = (how == 1)
      · obtain ⟨rfl, rfl⟩ := h
        rw [List.filter_cons_of_pos (by simp), List.countP_cons_of_pos (by simp [gAt]), List.length_cons, ih]
      · rw [List.filter_cons_of_neg (by simp only [decide_eq_true_eq]; intro e; cases e; exact h ⟨rfl, rfl⟩), List.countP_cons_of_neg (by simp only [gAt, h2, Bool.false_or, Bool.and_eq_true, beq_iff_eq]; exact h), ih]
end CW
