/-! the class's calls: offer; which case is open; the cases are forgotten -/
section OFF
variable {w w' : kx_H} {S S' : kS} {t g n d c : Nat} {x : Int32} {v val : Int64} {f b : Bool} {Q : List kQ} {fp tp fv ft : List Nat} {V : List (Nat × Int64 × Nat)} {A : List (Nat × kMe)} {l : kLoc}
theorem CQ.qp {st : Nat → Int32} (h : CQ w st Q fp tp n) {p : Nat} (hp : p ∈ fp ++ tp) : ∀ q ∈ Q, q.2.1 ≠ p := by
  intro q hq e
  have hpl := h.isp p hp
  cases hi : qIs q with
  | false =>
    have h1 := qIs_f.mp hi
    have h2 := (h.loc q hq).2.1
    unfold isPL at hpl
    omega
  | true =>
    have h1 : p ∈ qPl Q := List.mem_map.mpr ⟨q, List.mem_filter.mpr ⟨hq, hi⟩, e⟩
    exact (List.nodup_append.mp h.nd).2.2 p hp p h1 rfl
theorem CQ.freeP {st : Nat → Int32} (h : CQ w st Q fp tp n) {p : Nat} (hp : p ∈ fp ++ tp) : hp_R w 810 p = none := by
  cases hr : hp_R w 810 p with
  | none => rfl
  | some r =>
    exfalso
    have h1 := h.row.2.2.1 _ r hr
    obtain ⟨q, h2, h3⟩ := List.mem_map.mp h1
    exact h.qp hp q (List.mem_filter.mp h2).1 h3
theorem C_off {p : Nat} {r : List Nat} {xc : Int32} (H : CX w S n Q (p :: r) tp V fv A ft) (hm : S.mt.length < 16) (F : FR [808, 28] [806] [30, 802, 1043] [804] w w')
    (b1 : hp_R w' 30 1 = hp_R w 816 p) (b2 : ∀ q, hp_R w' 802 q = if q = p then some (chc xc) else hp_R w 802 q) (b3 : ∀ q, hp_B w' 804 q = if q = p then b else hp_B w 804 q) (b4 : ∀ q, hp_L w' 806 q = if q = p then v else hp_L w 806 q) (b5 : ∀ q, hp_I w' 808 q = if q = p then i32 S.mt.length else hp_I w 808 q) (b6 : ∀ q, hp_R w' 1043 q = if q = S.mt.length then some p else hp_R w 1043 q) (b7 : hp_I w' 28 1 = i32 (S.mt.length + 1))
    (T : kS) (t1 : T.cur = S.cur) (t2 : T.std = S.std) (t3 : T.clk = S.clk) (t4 : T.m = S.m) (t5 : T.rd = S.rd) (t6 : T.rooms = S.rooms) (t7 : T.mv = S.mv) (t8 : T.mo = S.mo) (t9 : T.mt = S.mt ++ [(xc, b, v)]) (t10 : T.gates = S.gates) (t11 : T.sn = S.sn) (t12 : T.me = S.me) (t13 : T.al = S.al) : CX w' T (n + 1) Q r (tp ++ [p]) V fv A ft := by
  have hq := H.q
  have hstt : stt T = stt S := by funext j; unfold stt; rw [t4]
  have hpm : p ∈ (p :: r) ++ tp := by simp
  have hqp := hq.qp hpm
  have hfre := hq.fre
  obtain ⟨f1, f2⟩ := hfre
  have hpl := hq.isp p hpm
  refine ⟨H.k.fr F (by decide) (by decide) (by decide) (by decide), by rw [t4]; exact H.t.fr F (by decide) (by decide) (by decide) (by decide), ?_, (H.c.fr F (by decide) (by decide) (by decide) (by decide)).sc (by rw [t4]) (by rw [t4]) (by rw [t4]) t7 t12, (H.g.fr F (by decide) (by decide) (by decide) (by decide)).sc (by rw [t4]) (by rw [t4]) (by rw [t4]) t10, ?_, ?_, t5.trans H.rd, t8.trans H.mo, t11.trans H.sn, by rw [t7]; exact H.v.fr F (by decide) (by decide) (by decide) (by decide), by rw [t2, t12]; exact H.a.imp id (fun h => h.fr F (by decide) (by decide) (by decide) (by decide))⟩
  · refine ⟨?_, ?_, ?_, ?_, ?_, ?_, ?_, ?_, ?_⟩
    · rw [F.R 6 (by decide), t1]; exact H.s.ru
    · rw [F.B 8 (by decide), t2]; exact H.s.ov
    · rw [F.L 10 (by decide), t3]; exact H.s.nw
    · rw [F.I 2 (by decide), t4]; exact H.s.tc
    · rw [F.I 20 (by decide), t4]; exact H.s.cc
    · rw [F.I 22 (by decide), t6]; exact H.s.ro
    · rw [F.I 34 (by decide), t10]; exact H.s.gc
    · rw [F.I 14 (by decide), t13]; exact H.s.ac
    · rw [b7, t9, List.length_append]; rfl
  · rw [hstt]
    refine ⟨?_, hq.loc, hq.pl, fun q hm2 => ?_, fun j hj => ?_, fun j hj => ?_, hq.caL, ?_, ?_, hq.qn, ?_, ?_⟩
    · exact hq.row.cong (F.R _ (by decide)) (F.R _ (by decide)) (F.R _ (by decide)) (F.R _ (by decide)) (F.R _ (by decide)) (F.I _ (by decide))
    · rw [F.R 800 (by decide), b5, b4, if_neg (hqp q hm2), if_neg (hqp q hm2)]
      exact hq.own q hm2
    · have hne : 523 + 2 * j ≠ p := fun e => by unfold isPL at hpl; omega
      rw [F.R 800 (by decide), b5, if_neg hne]
      exact hq.std j hj
    · rw [F.R 816 (by decide), F.R 1210 (by decide)]
      exact hq.cas j hj
    · rw [F.R 816 (by decide), b1]
      exact f2
    · have hp2 : List.Perm (r ++ (tp ++ [p]) ++ qPl Q) ((p :: r) ++ tp ++ qPl Q) := by
        apply List.Perm.append_right
        rw [← List.append_assoc]
        exact List.perm_append_singleton p (r ++ tp)
      exact hp2.nodup_iff.mpr hq.nd
    · intro q hm2
      apply hq.isp q
      rw [← List.append_assoc] at hm2
      rcases List.mem_append.mp hm2 with h | h
      · exact List.mem_cons_of_mem _ h
      · simp at h
        subst h
        exact hpm
    · have := hq.len
      simp at this
      omega
  · have htl := H.o.len
    refine ⟨by rw [t9, List.length_append, List.length_append, htl]; rfl, fun i q e h1 h2 => ?_⟩
    rw [t9] at h2
    rcases gp_app h1 with ⟨g1, g2⟩ | ⟨g1, g2⟩
    · have hne : q ≠ p := fun e2 => by
        have : q ∈ tp := List.mem_of_getElem? g2
        rw [e2] at this
        have nd := hq.nd
        rw [List.append_assoc, List.cons_append, List.nodup_cons] at nd
        exact nd.1 (List.mem_append_right _ (List.mem_append_left _ this))
      rcases gp_app h2 with ⟨k1, k2⟩ | ⟨k1, k2⟩
      · obtain ⟨o1, o2, o3, o4, o5⟩ := H.o.e i q e g2 k2
        rw [b6, b2, b3, b4, b5, if_neg (show ¬ i = S.mt.length by omega), if_neg hne, if_neg hne, if_neg hne, if_neg hne]
        exact ⟨o1, o2, o3, o4, o5⟩
      · omega
    · rcases gp_app h2 with ⟨k1, k2⟩ | ⟨k1, k2⟩
      · omega
      · subst g2
        subst k2
        rw [b6, b2, b3, b4, b5, if_pos k1, if_pos rfl, if_pos rfl, if_pos rfl, if_pos rfl, k1]
        exact ⟨rfl, rfl, rfl, rfl, rfl⟩
theorem K_offer (H : CR w S n) (I : SI S n) (J : SJ S n) (hn : n < 512) (r : rmOK w) : ∃ w', kx_ev wx_M (d + 8) 55 [kx_r 0 (some 1), kx_i x, kx_i (kx_b b), kx_l v] w = some (if (pOffer S x b v).1.th = 0 then .inl (some (.inl (pOffer S x b v).2)) else .inr (e3 (pOffer S x b v).1.th), w') ∧ CR w' (pOffer S x b v).1 (n + 1) ∧ FB w w' := by
  have hml := I.ml
  have mb := K_mbCh (d := d + 5) (x := x) H r (by omega)
  have mc := K_cur (d := d + 6) H r (by omega)
  have th0 := thd_ok (d := d + 7) (e := 0) (l := []) (w := w) (by omega) r.1 r.2
  obtain ⟨ψ, hψ⟩ := kx_fu
  rw [mE_55 hψ]
  unfold mb_55_0
  unfold pOffer
  by_cases hA : x ≠ -1 ∧ isCh S x = false
  · rw [if_pos hA] at mb ⊢
    refine ⟨_, ?_, ((H.th 1).bump 1 6).mono (by omega), FC.rf.bm⟩
    simp only [ob_s, mb, br_e]
    rfl
  · rw [if_neg hA] at mb ⊢
    rcases cur_or S with hc | ⟨t, hc⟩
    · rw [hc] at mc
      have mc' : kx_ev wx_M (d + 7) 24 [kx_r 0 (some 1)] w = some (.inr 0, hp_bump w 1 6) := mc
      rw [if_pos (show S.cur = none ∨ S.mt.length = 16 from Or.inl hc)]
      refine ⟨_, ?_, ((H.th 2).bump 1 6).mono (by omega), FC.rf.bm⟩
      simp only [ob_s, mb, br_n, mc', br_e]
      rfl
    · rw [hc] at mc
      have mc' : kx_ev wx_M (d + 7) 24 [kx_r 0 (some 1)] w = some (.inl (some (.inr (.inr (6, some (524 + 2 * t))))), w) := mc
      have hto := H.s.to
      have h16 : ((16 : Int32) ≤ i32 S.mt.length) = (16 ≤ S.mt.length) := by
        rw [show (16 : Int32) = i32 16 from rfl, i32_le (by omega) (by omega)]
      simp only [ob_s, mb, br_n, mc', hto, h16, me_55_32, mb_55_32, th0]
      by_cases h4 : S.mt.length = 16
      · rw [if_pos (show S.cur = none ∨ S.mt.length = 16 from Or.inr h4), if_pos (by omega)]
        exact ⟨_, rfl, ((H.th 2).bump 1 6).mono (by omega), FC.rf.bm⟩
      · rw [if_neg (show ¬ (S.cur = none ∨ S.mt.length = 16) by rw [hc]; simp [h4]), if_neg (by omega)]
        obtain ⟨Q, fp, tp, V, fv, A, ft, HX⟩ := id H
        obtain ⟨p, fr, hfp⟩ : ∃ p fr, fp = p :: fr := by
          have := HX.q.len
          cases h : fp with
          | nil => rw [h] at this; simp at this; omega
          | cons p fr => exact ⟨p, fr, rfl⟩
        subst hfp
        have h30 : hp_R w 30 1 = some p := HX.q.fre.1
        have F : FR [808, 28] [806] [30, 802, 1043] [804] w (hp_sI (hp_sR (hp_sI (hp_sL (hp_sB (hp_sR (hp_sR w 30 1 (hp_R w 816 p)) 802 p (some (chc x))) 804 p b) 806 p v) 808 p (i32 S.mt.length)) 1043 S.mt.length (some p)) 28 1 (i32 (S.mt.length + 1))) := FR.sI (by decide) (FR.sR (by decide) (FR.sI (by decide) (FR.sL (by decide) (FR.sB (by decide) (FR.sR (by decide) (FR.sR (by decide) FR.rf))))))
        refine ⟨_, ?_, CX.cr (C_off (b := b) (v := v) (xc := x) HX (by omega) F ?_ ?_ ?_ ?_ ?_ ?_ ?_ _ rfl rfl rfl rfl rfl rfl rfl rfl rfl rfl rfl rfl rfl), (FC.of F (by decide) (by decide) (by decide) (by decide)).fb⟩
        · have k26 := H.k.d.2.2.2.2.2.1
          have hkk : (16 ≤ S.mt.length) = False := by simp; omega
          have n16 : hp_N w 521 = 16 := H.k.n.2.2.1
          simp only [h30, reduceCtorEq, if_false, kx_sb_b, ob_s, hI_I, hI_L, hI_R, hI_B, hI_b, hL_I, hL_L, hL_R, hL_B, hL_b, hR_I, hR_L, hR_R, hR_B, hR_b, hB_I, hB_L, hB_R, hB_B, hB_b, hN_I, hN_L, hN_R, hN_B, hN_b, hT_I, hT_L, hT_R, hT_B, hT_b, hX_I, hX_L, hX_R, hX_B, hX_b, hC_I, hC_L, hC_R, hC_B, hC_b, hU_I, hU_L, hU_R, hU_B, hU_b, Nat.reduceEqDiff, Nat.reduceMul, Nat.reduceAdd, false_and, hto, k26, n16, i32_nat (n := S.mt.length) (by omega), i32_neg (n := S.mt.length) (by omega), hkk, or_self, i32_add1, and_self, if_true]
        · simp [hI_I, hI_L, hI_R, hI_B, hI_b, hL_I, hL_L, hL_R, hL_B, hL_b, hR_I, hR_L, hR_R, hR_B, hR_b, hB_I, hB_L, hB_R, hB_B, hB_b, hN_I, hN_L, hN_R, hN_B, hN_b, hT_I, hT_L, hT_R, hT_B, hT_b, hX_I, hX_L, hX_R, hX_B, hX_b, hC_I, hC_L, hC_R, hC_B, hC_b, hU_I, hU_L, hU_R, hU_B, hU_b]
        · intro q; by_cases hq : q = p <;> simp [hI_I, hI_L, hI_R, hI_B, hI_b, hL_I, hL_L, hL_R, hL_B, hL_b, hR_I, hR_L, hR_R, hR_B, hR_b, hB_I, hB_L, hB_R, hB_B, hB_b, hN_I, hN_L, hN_R, hN_B, hN_b, hT_I, hT_L, hT_R, hT_B, hT_b, hX_I, hX_L, hX_R, hX_B, hX_b, hC_I, hC_L, hC_R, hC_B, hC_b, hU_I, hU_L, hU_R, hU_B, hU_b, hq]
        · intro q; by_cases hq : q = p <;> simp [hI_I, hI_L, hI_R, hI_B, hI_b, hL_I, hL_L, hL_R, hL_B, hL_b, hR_I, hR_L, hR_R, hR_B, hR_b, hB_I, hB_L, hB_R, hB_B, hB_b, hN_I, hN_L, hN_R, hN_B, hN_b, hT_I, hT_L, hT_R, hT_B, hT_b, hX_I, hX_L, hX_R, hX_B, hX_b, hC_I, hC_L, hC_R, hC_B, hC_b, hU_I, hU_L, hU_R, hU_B, hU_b, hq]
        · intro q; by_cases hq : q = p <;> simp [hI_I, hI_L, hI_R, hI_B, hI_b, hL_I, hL_L, hL_R, hL_B, hL_b, hR_I, hR_L, hR_R, hR_B, hR_b, hB_I, hB_L, hB_R, hB_B, hB_b, hN_I, hN_L, hN_R, hN_B, hN_b, hT_I, hT_L, hT_R, hT_B, hT_b, hX_I, hX_L, hX_R, hX_B, hX_b, hC_I, hC_L, hC_R, hC_B, hC_b, hU_I, hU_L, hU_R, hU_B, hU_b, hq]
        · intro q; by_cases hq : q = p <;> simp [hI_I, hI_L, hI_R, hI_B, hI_b, hL_I, hL_L, hL_R, hL_B, hL_b, hR_I, hR_L, hR_R, hR_B, hR_b, hB_I, hB_L, hB_R, hB_B, hB_b, hN_I, hN_L, hN_R, hN_B, hN_b, hT_I, hT_L, hT_R, hT_B, hT_b, hX_I, hX_L, hX_R, hX_B, hX_b, hC_I, hC_L, hC_R, hC_B, hC_b, hU_I, hU_L, hU_R, hU_B, hU_b, hq]
        · intro q; by_cases hq : q = S.mt.length <;> simp [hI_I, hI_L, hI_R, hI_B, hI_b, hL_I, hL_L, hL_R, hL_B, hL_b, hR_I, hR_L, hR_R, hR_B, hR_b, hB_I, hB_L, hB_R, hB_B, hB_b, hN_I, hN_L, hN_R, hN_B, hN_b, hT_I, hT_L, hT_R, hT_B, hT_b, hX_I, hX_L, hX_R, hX_B, hX_b, hC_I, hC_L, hC_R, hC_B, hC_b, hU_I, hU_L, hU_R, hU_B, hU_b, hq]
        · simp [hI_I, hI_L, hI_R, hI_B, hI_b, hL_I, hL_L, hL_R, hL_B, hL_b, hR_I, hR_L, hR_R, hR_B, hR_b, hB_I, hB_L, hB_R, hB_B, hB_b, hN_I, hN_L, hN_R, hN_B, hN_b, hT_I, hT_L, hT_R, hT_B, hT_b, hX_I, hX_L, hX_R, hX_B, hX_b, hC_I, hC_L, hC_R, hC_B, hC_b, hU_I, hU_L, hU_R, hU_B, hU_b]
/-- TaskDesk.isOpen -/
theorem K_isOpen {p : Nat} {e : kMt} (H : CR w S n) (hv : S.mv.length ≤ 8192) (V9 : vCh e) (o2 : hp_R w 802 p = some (chc e.1)) (o3 : hp_B w 804 p = e.2.1) : kx_ev wx_M (d + 2) 58 [kx_r 0 (some 1), kx_r 4 (some p)] w = some (.inl (some (.inl (kx_b (isRdy S e)))), w) := by
  unfold isRdy
  obtain ⟨ψ, hψ⟩ := kx_fu
  rw [mE_58 hψ]
  unfold mb_58_0
  simp only [reduceCtorEq, if_false, ob_s, o2, o3, kx_b_0, me_58_33, mb_58_33, me_58_46, mb_58_46]
  rcases V9 with h | ⟨c, hc, h⟩
  · have e5 : chc e.1 = 518 := by rw [h]; decide
    have g0 := C_gives0 (d := d) H
    have t0 := C_takes0 (d := d) H
    have n1 := H.c.nw.1
    have m1 : maySend S e.1 = false := by rw [h]; unfold maySend; exact decide_eq_false (fun h => absurd h.1 (by decide))
    have m2 : mayRecv S e.1 = false := by rw [h]; unfold mayRecv; exact decide_eq_false (fun h => absurd h.1 (by decide))
    rw [e5, m1, m2]
    simp only [g0, t0, bi_n, n1, if_true]
    cases e.2.1 <;> simp [kx_b]
  · have e5 : chc e.1 = 1035 + 3 * c := by
      rw [h]
      unfold chc
      rw [if_neg (show ¬ i32 c < 0 by rw [i32_neg (by omega)]; simp), i32_nat (by omega)]
    have g0 := C_gives (d := d) H hc hv
    have t0 := C_takes (d := d) H hc
    have cl : hp_B w 408 (1035 + 3 * c) = sClosed S c := H.c.cl c hc
    have m1 : maySend S e.1 = (sClosed S c || tkAt S c) := by
      rw [h, Bool.eq_iff_iff, maySend_i hc]
      unfold tkAt
      cases sClosed S c <;> simp
    have m2 : mayRecv S e.1 = gvAt S c := by
      rw [h, Bool.eq_iff_iff, mayRecv_i hc]
      unfold gvAt
      simp
      constructor
      · rintro (h | h | h)
        · exact Or.inl (Or.inl h)
        · exact Or.inr h
        · exact Or.inl (Or.inr h)
      · rintro ((h | h) | h)
        · exact Or.inl h
        · exact Or.inr (Or.inr h)
        · exact Or.inr (Or.inl h)
    rw [e5, m1, m2]
    simp only [g0, t0, bi_n, cl]
    cases e.2.1 with
    | false => cases gvAt S c <;> simp [kx_b]
    | true => cases sClosed S c <;> cases tkAt S c <;> simp [kx_b]
/-- the cases are kept again -/
theorem K_forget_l {C : kx_C} (hC : C = kx_ev wx_M (d + 1)) {st : Nat → Int32} {N : Nat} (hN : N ≤ 16) (htl : tp.length = N) : ∀ k j F w (fp : List Nat), CK w → CQ w st Q fp (tp.drop j) n → (∀ i p, tp[i]? = some p → hp_R w 1043 i = some p) → hp_I w 28 1 = i32 N → j + k = N → 2 * k + 1 ≤ F →
    ∃ w' fp', kx_ex (wm_60 (d + 1) C) F 2 [(0, kx_r 0 (some 1)), (1, kx_i (i32 j))] [] w = some (.inl none, hp_sI w' 28 1 0) ∧ CQ w' st Q fp' [] n ∧ FR [] [] [816, 30] [] w w' := by
  intro k
  induction k with
  | zero =>
    intro j F w fp K hq ht h28 hj hF
    obtain ⟨F, rfl⟩ : ∃ f', F = f' + 1 := ⟨F - 1, by omega⟩
    rw [List.drop_of_length_le (by omega)] at hq
    refine ⟨w, fp, ?_, hq, FR.rf⟩
    rw [me_60_2]
    unfold mb_60_2
    simp only [ob_s, h28]
    rw [if_pos (by rw [i32_le (by omega) (by omega)]; omega)]
  | succ k ih =>
    intro j F w fp K hq ht h28 hj hF
    obtain ⟨F, rfl⟩ : ∃ f', F = f' + 1 + 1 := ⟨F - 2, by omega⟩
    have hjl : j < tp.length := by omega
    obtain ⟨p, hp⟩ : ∃ p, tp[j]? = some p := ⟨tp[j], List.getElem?_eq_getElem hjl⟩
    have hd : tp.drop j = p :: tp.drop (j + 1) := by
      obtain ⟨h1, h2⟩ := List.getElem?_eq_some_iff.mp hp
      rw [List.drop_eq_getElem_cons h1, h2]
    have h1043 := ht j p hp
    have F1 : FR [] [] [816, 30] [] w (hp_sR (hp_sR w 816 p (hp_R w 30 1)) 30 1 (some p)) := FR.sR (by decide) (FR.sR (by decide) FR.rf)
    have c816 : ∀ q, hp_R (hp_sR (hp_sR w 816 p (hp_R w 30 1)) 30 1 (some p)) 816 q = if q = p then hp_R w 30 1 else hp_R w 816 q := by
      intro q
      by_cases hq : q = p <;> simp [hI_I, hI_L, hI_R, hI_B, hI_b, hL_I, hL_L, hL_R, hL_B, hL_b, hR_I, hR_L, hR_R, hR_B, hR_b, hB_I, hB_L, hB_R, hB_B, hB_b, hN_I, hN_L, hN_R, hN_B, hN_b, hT_I, hT_L, hT_R, hT_B, hT_b, hX_I, hX_L, hX_R, hX_B, hX_b, hC_I, hC_L, hC_R, hC_B, hC_b, hU_I, hU_L, hU_R, hU_B, hU_b, hq]
    have c30 : hp_R (hp_sR (hp_sR w 816 p (hp_R w 30 1)) 30 1 (some p)) 30 1 = some p := by simp [hI_I, hI_L, hI_R, hI_B, hI_b, hL_I, hL_L, hL_R, hL_B, hL_b, hR_I, hR_L, hR_R, hR_B, hR_b, hB_I, hB_L, hB_R, hB_B, hB_b, hN_I, hN_L, hN_R, hN_B, hN_b, hT_I, hT_L, hT_R, hT_B, hT_b, hX_I, hX_L, hX_R, hX_B, hX_b, hC_I, hC_L, hC_R, hC_B, hC_b, hU_I, hU_L, hU_R, hU_B, hU_b]
    rw [hd] at hq
    have hpm : p ∈ fp ++ p :: tp.drop (j + 1) := List.mem_append_right _ List.mem_cons_self
    have hqp := hq.qp hpm
    have nd := hq.nd
    have hpf : p ∉ fp := fun h => by
      rw [List.append_assoc, List.nodup_append] at nd
      exact nd.2.2 p h p (List.mem_append_left _ List.mem_cons_self) rfl
    have hq1 : CQ (hp_sR (hp_sR w 816 p (hp_R w 30 1)) 30 1 (some p)) st Q (p :: fp) (tp.drop (j + 1)) n := by
      refine ⟨?_, hq.loc, hq.pl, fun q hm => ?_, fun i hi => ?_, fun i hi => ?_, hq.caL, ⟨c30, ?_⟩, ?_, hq.qn, ?_, ?_⟩
      · exact hq.row.cong (F1.R _ (by decide)) (F1.R _ (by decide)) (F1.R _ (by decide)) (F1.R _ (by decide)) (F1.R _ (by decide)) (F1.I _ (by decide))
      · rw [F1.R 800 (by decide), F1.I 808 (by decide), F1.L 806 (by decide)]
        exact hq.own q hm
      · rw [F1.R 800 (by decide), F1.I 808 (by decide)]
        exact hq.std i hi
      · rw [F1.R 1210 (by decide)]
        refine (hq.cas i hi).upd (fun q hm => ?_)
        rw [c816, if_neg]
        obtain ⟨q2, g1, g2, g3, g4⟩ := hq.cas_m hm
        rw [← g2]
        exact hqp q2 g1
      · rw [c816, if_pos rfl]
        exact hq.fre.upd (fun q hm => by rw [c816, if_neg (fun e : q = p => hpf (e ▸ hm))])
      · have hp2 : List.Perm ((p :: fp) ++ tp.drop (j + 1) ++ qPl Q) (fp ++ p :: tp.drop (j + 1) ++ qPl Q) := by
          apply List.Perm.append_right
          rw [List.cons_append]
          exact List.perm_middle.symm
        exact hp2.nodup_iff.mpr nd
      · intro q hm
        apply hq.isp q
        rw [List.cons_append] at hm
        rcases List.mem_cons.mp hm with rfl | hm
        · exact hpm
        · rcases List.mem_append.mp hm with h | h
          · exact List.mem_append_left _ h
          · exact List.mem_append_right _ (List.mem_cons_of_mem _ h)
      · have := hq.len
        simp
        omega
    obtain ⟨w', fp', r1, r2, r3⟩ := ih (j + 1) F (hp_sR (hp_sR w 816 p (hp_R w 30 1)) 30 1 (some p)) (p :: fp) (K.fr F1 (by decide) (by decide) (by decide) (by decide)) hq1 (fun i q hi => by rw [F1.R 1043 (by decide)]; exact ht i q hi) (by rw [F1.I 28 (by decide)]; exact h28) (by omega) (by omega)
    refine ⟨w', fp', ?_, r2, F1.tr r3⟩
    rw [← r1, me_60_2]
    unfold mb_60_2
    have a10 : kx_ev wx_M (d + 1) 10 [kx_r 0 (some 1), kx_r 4 (some p)] w = some (.inl none, hp_sR (hp_sR w 816 p (hp_R w 30 1)) 30 1 (some p)) := by
      obtain ⟨ψ, hψ⟩ := kx_fu
      rw [mE_10 hψ]
      unfold mb_10_0
      simp only [ob_s]
    have hkk : (16 ≤ j) = False := by simp; omega
    rw [← hC] at a10
    simp only [ob_s, h28, K.d.2.2.2.2.2.1, K.n.2.2.1, i32_nat (n := j) (by omega), i32_neg (n := j) (by omega), hkk, or_self, if_false, h1043, reduceCtorEq, a10, bv_n, me_60_29, mb_60_29, i32_add1]
    rw [if_neg (by rw [i32_le (by omega) (by omega)]; omega)]
theorem C_forget (H : CX w S n Q fp tp V fv A ft) (hm : S.mt.length ≤ 16) (T : kS) (t1 : T.cur = S.cur) (t2 : T.std = S.std) (t3 : T.clk = S.clk) (t4 : T.m = S.m) (t5 : T.rd = S.rd) (t6 : T.rooms = S.rooms) (t7 : T.mv = S.mv) (t8 : T.mo = S.mo) (t9 : T.mt = []) (t10 : T.gates = S.gates) (t11 : T.sn = S.sn) (t12 : T.me = S.me) (t13 : T.al = S.al) : ∃ w' fp', kx_ev wx_M (d + 2) 60 [kx_r 0 (some 1)] w = some (.inl none, w') ∧ CX w' T n Q fp' [] V fv A ft ∧ FR [28] [] [816, 30] [] w w' := by
  have htl := H.o.len
  obtain ⟨ψ, hψ⟩ := kx_fl 100 (by omega)
  obtain ⟨w1, fp', r1, q1, F1⟩ := K_forget_l (d := d) (n := n) (Q := Q) (tp := tp) rfl (st := stt S) (N := S.mt.length) hm htl S.mt.length 0 (ψ + 100) w fp H.k (by rw [List.drop_zero]; exact H.q) (fun i p hp => by
    have hil := (List.getElem?_eq_some_iff.mp hp).1
    exact (H.o.e i p S.mt[i] hp (List.getElem?_eq_getElem (by omega))).1) H.s.to (by omega) (by omega)
  have F2 : FR [28] [] [816, 30] [] w (hp_sI w1 28 1 0) := FR.sI (by decide) (F1.mono (fun k h => by cases h) (fun _ h => h) (fun _ h => h) (fun _ h => h))
  have F12 : FR [28] [] [] [] w1 (hp_sI w1 28 1 0) := FR.sI (by decide) FR.rf
  have hstt : stt T = stt S := by funext j; unfold stt; rw [t4]
  refine ⟨hp_sI w1 28 1 0, fp', ?_, ⟨H.k.fr F2 (by decide) (by decide) (by decide) (by decide), by rw [t4]; exact H.t.fr F2 (by decide) (by decide) (by decide) (by decide), ?_, (H.c.fr F2 (by decide) (by decide) (by decide) (by decide)).sc (by rw [t4]) (by rw [t4]) (by rw [t4]) t7 t12, (H.g.fr F2 (by decide) (by decide) (by decide) (by decide)).sc (by rw [t4]) (by rw [t4]) (by rw [t4]) t10, by rw [hstt]; exact q1.fr F12 (by decide) (by decide) (by decide) (by decide), ⟨by rw [t9]; rfl, fun i p e h1 h2 => by simp at h1⟩, t5.trans H.rd, t8.trans H.mo, t11.trans H.sn, by rw [t7]; exact H.v.fr F2 (by decide) (by decide) (by decide) (by decide), by rw [t2, t12]; exact H.a.imp id (fun h => h.fr F2 (by decide) (by decide) (by decide) (by decide))⟩, F2⟩
  · rw [mE_60 hψ]
    unfold mb_60_0
    exact r1
  · refine ⟨?_, ?_, ?_, ?_, ?_, ?_, ?_, ?_, ?_⟩
    · rw [F2.R 6 (by decide), t1]; exact H.s.ru
    · rw [F2.B 8 (by decide), t2]; exact H.s.ov
    · rw [F2.L 10 (by decide), t3]; exact H.s.nw
    · rw [F2.I 2 (by decide), t4]; exact H.s.tc
    · rw [F2.I 20 (by decide), t4]; exact H.s.cc
    · rw [F2.I 22 (by decide), t6]; exact H.s.ro
    · rw [F2.I 34 (by decide), t10]; exact H.s.gc
    · rw [F2.I 14 (by decide), t13]; exact H.s.ac
    · rw [t9]; simp [hI_I, hI_L, hI_R, hI_B, hI_b, hL_I, hL_L, hL_R, hL_B, hL_b, hR_I, hR_L, hR_R, hR_B, hR_b, hB_I, hB_L, hB_R, hB_B, hB_b, hN_I, hN_L, hN_R, hN_B, hN_b, hT_I, hT_L, hT_R, hT_B, hT_b, hX_I, hX_L, hX_R, hX_B, hX_b, hC_I, hC_L, hC_R, hC_B, hC_b, hU_I, hU_L, hU_R, hU_B, hU_b]; rfl
end OFF
