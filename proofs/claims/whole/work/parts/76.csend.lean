/-! the class's calls: send, receive -/
def SJ (S : kS) (n : Nat) : Prop := (∀ t, S.cur = some t → S.std = 0) ∧ (S.cur = none → S.std = 1 ∨ S.std = 2) ∧ (∀ g, g < S.gates → sKind S g = 0 ∨ sKind S g = 1 ∨ sKind S g = 2 ∨ sKind S g = 3 ∨ sKind S g = 4) ∧ (S.cur ≠ none → ∀ t, t < 256 → hp_B S.m 8729 t = false → stt S t = 0) ∧ (∀ t, S.cur = some t → hp_B S.m 8729 t = true) ∧ (∀ t, t < 256 → hp_B S.m 8729 t = true → (stt S t = 2 ∨ stt S t = 3 ∨ stt S t = 6) ∨ hp_I S.m 8733 t = -1) ∧ (∀ g, g < S.gates → (sKind S g = 0 → sHeld S g = 0 ∨ sHeld S g = 1) ∧ (sKind S g = 1 → sHeld S g = -1 ∨ ∃ j, j ≤ n + 256 ∧ sHeld S g = i32 j) ∧ (sKind S g = 2 → 0 ≤ sHeld S g)) ∧ (∀ g, S.gates ≤ g → g < 256 → sHeld S g = 0) ∧ (∀ e ∈ S.sn, e.2.2 = true → sKind S e.2.1 = 1) ∧ (∀ e ∈ S.sn, e.2.1 < S.gates) ∧ (-8192 * (n : Int) ≤ S.rooms.toInt ∧ S.rooms.toInt ≤ 8192) ∧ (∀ c, c < 512 → 0 ≤ (sRoom S c).toInt ∧ (sRoom S c).toInt ≤ 8192) ∧ (∀ t, t < 256 → hp_B S.m 8729 t = true → stt S t = 1 → t ∈ S.rd)
theorem SJ.sd {S : kS} {n : Nat} (h : SJ S n) : ∀ t, S.cur = some t → S.std = 0 := h.1
theorem SJ.s2 {S : kS} {n : Nat} (h : SJ S n) : S.cur = none → S.std = 1 ∨ S.std = 2 := h.2.1
theorem SJ.kd {S : kS} {n : Nat} (h : SJ S n) : ∀ g, g < S.gates → sKind S g = 0 ∨ sKind S g = 1 ∨ sKind S g = 2 ∨ sKind S g = 3 ∨ sKind S g = 4 := h.2.2.1
theorem SJ.dd {S : kS} {n : Nat} (h : SJ S n) : S.cur ≠ none → ∀ t, t < 256 → hp_B S.m 8729 t = false → stt S t = 0 := h.2.2.2.1
theorem SJ.lv {S : kS} {n : Nat} (h : SJ S n) : ∀ t, S.cur = some t → hp_B S.m 8729 t = true := h.2.2.2.2.1
theorem SJ.wh {S : kS} {n : Nat} (h : SJ S n) : ∀ t, t < 256 → hp_B S.m 8729 t = true → (stt S t = 2 ∨ stt S t = 3 ∨ stt S t = 6) ∨ hp_I S.m 8733 t = -1 := h.2.2.2.2.2.1
theorem SJ.hk {S : kS} {n : Nat} (h : SJ S n) : ∀ g, g < S.gates → (sKind S g = 0 → sHeld S g = 0 ∨ sHeld S g = 1) ∧ (sKind S g = 1 → sHeld S g = -1 ∨ ∃ j, j ≤ n + 256 ∧ sHeld S g = i32 j) ∧ (sKind S g = 2 → 0 ≤ sHeld S g) := h.2.2.2.2.2.2.1
theorem SJ.hz {S : kS} {n : Nat} (h : SJ S n) : ∀ g, S.gates ≤ g → g < 256 → sHeld S g = 0 := h.2.2.2.2.2.2.2.1
theorem SJ.rk {S : kS} {n : Nat} (h : SJ S n) : ∀ e ∈ S.sn, e.2.2 = true → sKind S e.2.1 = 1 := h.2.2.2.2.2.2.2.2.1
theorem SJ.sg {S : kS} {n : Nat} (h : SJ S n) : ∀ e ∈ S.sn, e.2.1 < S.gates := h.2.2.2.2.2.2.2.2.2.1
theorem SJ.rb {S : kS} {n : Nat} (h : SJ S n) : -8192 * (n : Int) ≤ S.rooms.toInt ∧ S.rooms.toInt ≤ 8192 := h.2.2.2.2.2.2.2.2.2.2.1
theorem SJ.rc {S : kS} {n : Nat} (h : SJ S n) : ∀ c, c < 512 → 0 ≤ (sRoom S c).toInt ∧ (sRoom S c).toInt ≤ 8192 := h.2.2.2.2.2.2.2.2.2.2.2.1
theorem SJ.rr {S : kS} {n : Nat} (h : SJ S n) : ∀ t, t < 256 → hp_B S.m 8729 t = true → stt S t = 1 → t ∈ S.rd := h.2.2.2.2.2.2.2.2.2.2.2.2
section SND
variable {w w' : kx_H} {S S' : kS} {t g n d c : Nat} {x : Int32} {v val : Int64} {Q : List kQ} {fp tp fv ft : List Nat} {V : List (Nat × Int64 × Nat)} {A : List (Nat × kMe)} {l : kLoc}
theorem loop_th (k : Nat) : ∀ S : kS, (sLoop k S).th = S.th := by
  have hr : ∀ (S : kS) c, (sRings S c).th = S.th := by
    intro S c
    unfold sRings
    split
    · rfl
    · split
      · unfold sDel
        cases sFst S c false <;> rfl
      · rfl
  have h1 : ∀ (x : Int64) (S : kS) (e : kMe), (sRing1 x S e).th = S.th := by
    intro x S e
    unfold sRing1
    split
    · obtain ⟨e1, e2⟩ := e
      cases e1 with
      | inl t => rfl
      | inr c => exact hr (kS.s_al S (S.al - 1)) c
    · rfl
  have hf : ∀ (L : List kMe) (x : Int64) (U : kS), (L.foldl (sRing1 x) U).th = U.th := by
    intro L x
    induction L with
    | nil => intro U; rfl
    | cons q L ihL => intro U; rw [List.foldl_cons, ihL]; exact h1 x U q
  induction k with
  | zero => intro S; rfl
  | succ k ih =>
    intro S
    unfold sLoop
    split
    · exact (ih (sRing S)).trans (hf _ _ _)
    · rfl
theorem next_th (S : kS) : (sNext S).th = S.th := by
  unfold sNext sPick
  have := loop_th S.me.length S
  cases h : (sLoop S.me.length S).rd with
  | nil => exact this
  | cons t r => exact this
theorem K_rest {st : Int32} (H : CR w S n) (hst : S.std ≠ 1) (ht : t < 256) (h0 : stt S t = 0) (hl : lok l) (hs : sOK l st) (hv : lgv l = true → hp_L w 806 (523 + 2 * t) = val) (B : SB ((sAdd S t l st x val).s_cur none)) (ha : SA S) (hv2 : S.mv.length + S.me.length ≤ 512) : ∃ w1 w', kx_ev wx_M (d + 7) 27 [kx_r 6 (some (524 + 2 * t)), kx_r 5 (some (lrw l)), kx_i st, kx_i x] w = some (.inl none, w1) ∧ kx_ev wx_M (d + 7) 30 [kx_r 0 (some 1)] w1 = some (.inl none, w') ∧ CR w' (sNext ((sAdd S t l st x val).s_cur none)) n ∧ FC w w' := by
  obtain ⟨Q, fp, tp, V, fv, A, ft, H⟩ := H
  have hn := H.q.no (Or.inl h0)
  obtain ⟨w1, a1, H1, F1⟩ := C_wait (d := d + 5) (x := x) H ht hl hs (H.q.free ht hn) hn hv
  obtain ⟨w2, a2, H2, F2⟩ := C_goOn (d := d) H1.cr hst B ha hv2
  exact ⟨w1, w2, a1, a2, H2, (FC.of F1 (by decide) (by decide) (by decide) (by decide)).tr F2⟩
theorem K_send (H : CR w S n) (I : SI S n) (J : SJ S n) (hn : n < 512) (r : rmOK w) : ∃ w', kx_ev wx_M (d + 8) 48 [kx_r 0 (some 1), kx_i x, kx_l v] w = some (if (pSend S x v).1.th = 0 then .inl (some (.inl (kx_b (pSend S x v).2))) else .inr (e3 (pSend S x v).1.th), w') ∧ CR w' (pSend S x v).1 n ∧ FB w w' := by
  have hl1 := I.l.1
  have hl2 := I.l.2
  have mb := K_mbCh (d := d + 5) (x := x) H r (by omega)
  have mc := K_cur (d := d + 6) H r (by omega)
  have ne1 : ∀ (X : kS) (e : Int32), (sTh X e).th = e := fun _ _ => rfl
  obtain ⟨ψ, hψ⟩ := kx_fu
  rw [mE_48 hψ]
  unfold mb_48_0
  unfold pSend
  by_cases hA : x ≠ -1 ∧ isCh S x = false
  · rw [if_pos hA] at mb ⊢
    refine ⟨_, ?_, (H.th 1).bump 1 6, FC.rf.bm⟩
    simp only [ob_s, mb, br_e]
    rfl
  · rw [if_neg hA] at mb ⊢
    have hv := ch_or hA
    rcases cur_or S with hc | ⟨t, hc⟩
    · rw [hc] at mc
      have mc' : kx_ev wx_M (d + 7) 24 [kx_r 0 (some 1)] w = some (.inr 0, hp_bump w 1 6) := mc
      refine ⟨_, ?_, ?_, FC.rf.bm⟩
      rotate_left
      · rw [hc]; exact (H.th 2).bump 1 6
      · rw [hc]
        simp only [ob_s, mb, br_n, mc', br_e]
        rfl
    · have ht := I.b.cu t hc
      have h0 := I.cs t hc
      have hst : S.std ≠ 1 := by rw [J.sd t hc]; decide
      rw [hc] at mc
      have mc' : kx_ev wx_M (d + 7) 24 [kx_r 0 (some 1)] w = some (.inl (some (.inr (.inr (6, some (524 + 2 * t))))), w) := mc
      simp only [hc, ob_s, mb, br_n, mc']
      have Bsl := fun (how : Int32) (L : List kMo) => SB.rest (how := how) (place := x) I.b (I.b.nin0 h0) ht L [] []
      rcases hv with rfl | h2
      · -- nowhere
        have e518 : chc (-1) = 518 := by decide
        have e808 : hp_B w 408 518 = false := H.c.nw.1
        have at0 := C_takes0 (d := d + 6) H
        have hms : maySend S (-1) = false := by unfold maySend; exact decide_eq_false (fun h => absurd h.1 (by decide))
        rw [if_neg (show ¬ ((0 : Int32) ≤ -1 ∧ sClosed S (Int32.toNatClampNeg (-1)) = true) from fun h => absurd h.1 (by decide)), hms, if_neg (show ¬ false = true by simp), if_neg (show ¬ (0 : Int32) ≤ -1 by decide)]
        obtain ⟨Q, fp, tp, V, fv, A, ft, HX⟩ := H
        obtain ⟨H1, F1⟩ := C_val (v := v) HX ht (HX.q.no (Or.inl h0))
        have B1 := Bsl 7 [] (by simp) (Or.inl rfl) (Or.inl rfl)
        simp only [List.append_nil] at B1
        obtain ⟨w1, w2, a1, a2, H2, F2⟩ := K_rest (d := d) (l := some (.inl (none, true))) (st := 7) (x := -1) (val := v) (S := sTh S 0) (H1.cr.th 0) hst ht h0 trivial (Or.inr (Or.inr (Or.inr rfl))) (fun _ => by simp [hI_I, hI_L, hI_R, hI_B, hI_b, hL_I, hL_L, hL_R, hL_B, hL_b, hR_I, hR_L, hR_R, hR_B, hR_b, hB_I, hB_L, hB_R, hB_B, hB_b, hN_I, hN_L, hN_R, hN_B, hN_b, hT_I, hT_L, hT_R, hT_B, hT_b, hX_I, hX_L, hX_R, hX_B, hX_b, hC_I, hC_L, hC_R, hC_B, hC_b, hU_I, hU_L, hU_R, hU_B, hU_b]) (by rw [sAdd_nw]; exact B1.of B1.cu (fun _ _ => rfl) (List.Sublist.refl _) (List.Sublist.refl _) (List.Sublist.refl _) (List.Sublist.refl _)) I.a (by show S.mv.length + S.me.length ≤ 512; omega)
        rw [sAdd_nw] at H2
        refine ⟨w2, ?_, H2, ((FC.of F1 (by decide) (by decide) (by decide) (by decide)).tr F2).fb⟩
        have hth : (sRest (sTh S 0) t 7 (-1), false).1.th = 0 := next_th _
        rw [if_pos hth]
        have k18 : hp_R (hp_sL w 806 (523 + 2 * t) v) 18 1 = some 518 := HX.k.d.2.2.2.2.1
        have k402 : hp_R (hp_sL w 806 (523 + 2 * t) v) 402 518 = some 519 := HX.k.nw.2.1
        have k400 : hp_I (hp_sL w 806 (523 + 2 * t) v) 400 518 = -1 := HX.k.nw.1
        have a1' : kx_ev wx_M (d + 7) 27 [kx_r 6 (some (524 + 2 * t)), kx_r 5 (some 519), kx_i 7, kx_i (-1)] (hp_sL w 806 (523 + 2 * t) v) = some (.inl none, w1) := a1
        simp only [e518, e808, kx_b_f, if_true, at0, bi_n, ob_s, (HX.k.t t ht).2.2, k18, k402, me_48_89, mb_48_89, k400, a1', bv_n, a2]
        rfl
      · obtain ⟨c, hcc, rfl, hb⟩ := isCh_t h2
        have hnat := i32_nat (n := c) (by omega)
        have hge := i32_ge (n := c) (by omega)
        have ecc : chc (i32 c) = 1035 + 3 * c := by
          unfold chc
          rw [if_neg (show ¬ i32 c < 0 by rw [i32_neg (by omega)]; simp), hnat]
        have cl := H.c.cl c hcc
        have cl' : hp_B w 408 (1035 + 3 * c) = sClosed S c := cl
        have atk := C_takes (d := d + 6) H hcc
        simp only [hnat, hge, true_and, ecc, cl', kx_b_0, atk, bi_n]
        cases hcl : sClosed S c with
        | true =>
          simp only [eq_self, reduceCtorEq, if_true, if_false]
          refine ⟨_, ?_, (H.th 3).bump 1 6, FC.rf.bm⟩
          rw [thd_ok (by omega) r.1 r.2]
          rfl
        | false =>
          simp only [eq_self, reduceCtorEq, if_true, if_false]
          have hmt : maySend S (i32 c) = tkAt S c := by
            rw [Bool.eq_iff_iff, maySend_i hcc]
            unfold tkAt
            rw [hcl]
            simp
          rw [hmt]
          cases htk : tkAt S c with
          | true =>
            simp only [eq_self, reduceCtorEq, if_true, if_false]
            obtain ⟨w1, a1, H1, F1⟩ := C_pass (d := d + 3) (v := v) (H.th 0) hcc (by show S.mv.length < 512; omega)
            obtain ⟨Q1, fp1, tp1, V1, fv1, A1, ft1, HX1⟩ := H1
            obtain ⟨w2, a2, H2, F2⟩ := C_tell (d := d + 6) (t := t) (v := 0) (f := true) (x := -1) (b := false) HX1 ht
            rw [kx_b_t, kx_b_f] at a2
            refine ⟨w2, ?_, H2.cr, (F1.tr (FC.of F2 (by decide) (by decide) (by decide) (by decide))).fb⟩
            have hth : (sHas (sDel (sTh S 0) c v) t 0 true (-1) false).th = 0 := by
              show (sDel (sTh S 0) c v).th = 0
              unfold sDel
              cases sFst (sTh S 0) c false <;> rfl
            rw [if_pos hth]
            simp only [kx_b_t, i10, if_false, a1, bv_n, a2]
            rfl
          | false =>
            simp only [eq_self, reduceCtorEq, if_true, if_false]
            obtain ⟨Q, fp, tp, V, fv, A, ft, HX⟩ := H
            obtain ⟨H1, F1⟩ := C_val (v := v) HX ht (HX.q.no (Or.inl h0))
            have B1 := Bsl 2 [(t, c, true, v, -1)] (by simp [hcc]) (Or.inl rfl) (Or.inl rfl)
            simp only [List.append_nil] at B1
            obtain ⟨w1, w2, a1, a2, H2, F2⟩ := K_rest (d := d) (l := some (.inl (some c, true))) (st := 2) (x := i32 c) (val := v) (S := sTh S 0) (H1.cr.th 0) hst ht h0 hcc (Or.inl rfl) (fun _ => by simp [hI_I, hI_L, hI_R, hI_B, hI_b, hL_I, hL_L, hL_R, hL_B, hL_b, hR_I, hR_L, hR_R, hR_B, hR_b, hB_I, hB_L, hB_R, hB_B, hB_b, hN_I, hN_L, hN_R, hN_B, hN_b, hT_I, hT_L, hT_R, hT_B, hT_b, hX_I, hX_L, hX_R, hX_B, hX_b, hC_I, hC_L, hC_R, hC_B, hC_b, hU_I, hU_L, hU_R, hU_B, hU_b]) (by rw [sAdd_ch]; exact B1.of B1.cu (fun _ _ => rfl) (List.Sublist.refl _) (List.Sublist.refl _) (List.Sublist.refl _) (List.Sublist.refl _)) I.a (by show S.mv.length + S.me.length ≤ 512; omega)
            rw [sAdd_ch] at H2
            refine ⟨w2, ?_, H2, ((FC.of F1 (by decide) (by decide) (by decide) (by decide)).tr F2).fb⟩
            have hth : (sRest (kS.s_mo ((kS.s_th S (0))) (S.mo ++ [(t, c, true, v, -1)])) t 2 (i32 c)).th = 0 := next_th _
            rw [if_pos hth]
            have k18 : hp_R (hp_sL w 806 (523 + 2 * t) v) 18 1 = some 518 := HX.k.d.2.2.2.2.1
            have hne : (some (1035 + 3 * c) = some 518) = False := by simp; omega
            have k402 : hp_R (hp_sL w 806 (523 + 2 * t) v) 402 (1035 + 3 * c) = some (1036 + 3 * c) := (HX.k.c c hcc).2.2.1
            have k400 : hp_I (hp_sL w 806 (523 + 2 * t) v) 400 (1035 + 3 * c) = i32 c := (HX.k.c c hcc).2.1
            have a1' : kx_ev wx_M (d + 7) 27 [kx_r 6 (some (524 + 2 * t)), kx_r 5 (some (1036 + 3 * c)), kx_i 2, kx_i (i32 c)] (hp_sL w 806 (523 + 2 * t) v) = some (.inl none, w1) := a1
            simp only [kx_b_f, if_true, ob_s, (HX.k.t t ht).2.2, k18, hne, if_false, k402, me_48_89, mb_48_89, k400, a1', bv_n, a2]
            rfl
end SND
