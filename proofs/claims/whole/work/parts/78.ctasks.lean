/-! the class's calls: tasks and time -/
section TSK
variable {w w' : kx_H} {S S' : kS} {t g n d c : Nat} {x : Int32} {v val : Int64} {f b : Bool} {Q : List kQ} {fp tp fv ft : List Nat} {V : List (Nat × Int64 × Nat)} {A : List (Nat × kMe)} {l : kLoc}
theorem CA_len (a : CA w S.me A ft) : A.length = S.me.length := by
  have hmq : meq (A.map (·.2)) S.me := fun z => by rw [← a.eq z, List.filter_map]; rfl
  have := hmq.perm.length_eq
  rw [List.length_map] at this
  exact this
theorem K_way (H : CR w S n) (I : SI S n) (J : SJ S n) (hn : n < 512) (r : rmOK w) : ∃ w', kx_ev wx_M (d + 8) 29 [kx_r 0 (some 1)] w = some (if (pWay S).1.th = 0 then .inl (some (.inl (pWay S).2)) else .inr 0, w') ∧ CR w' (pWay S).1 n ∧ FB w w' := by
  have hl1 := I.l.1
  have mc := K_cur (d := d + 6) H r (by omega)
  obtain ⟨ψ, hψ⟩ := kx_fu
  rw [mE_29 hψ]
  unfold mb_29_0
  unfold pWay
  rcases cur_or S with hc | ⟨t, hc⟩
  · rw [hc] at mc
    have mc' : kx_ev wx_M (d + 7) 24 [kx_r 0 (some 1)] w = some (.inr 0, hp_bump w 1 6) := mc
    rw [hc]
    refine ⟨_, ?_, (H.th 1).bump 1 6, FC.rf.bm⟩
    simp only [ob_s, mc', br_e]
    rfl
  · have ht := I.b.cu t hc
    have h0 := I.cs t hc
    have hst : S.std ≠ 1 := by rw [J.sd t hc]; decide
    rw [hc] at mc
    have mc' : kx_ev wx_M (d + 7) 24 [kx_r 0 (some 1)] w = some (.inl (some (.inr (.inr (6, some (524 + 2 * t))))), w) := mc
    rw [hc]
    obtain ⟨Q, fp, tp, V, fv, A, ft, HX⟩ := H.th 0
    obtain ⟨w1, a1, H1, F1⟩ := C_ready (d := d + 4) HX ht (Or.inl h0)
    have B1 : SB (sWake (sTh S 0) t) := SB.wake (SB.th I.b) ht (I.b.nin0 h0)
    have B2 : SB ((sWake (sTh S 0) t).s_cur none) := B1.of (fun _ h => nomatch h) (fun _ _ => rfl) (List.Sublist.refl _) (List.Sublist.refl _) (List.Sublist.refl _) (List.Sublist.refl _)
    obtain ⟨w2, a2, H2, F2⟩ := C_goOn (d := d) H1.cr hst B2 I.a (by show S.mv.length + S.me.length ≤ 512; omega)
    have hrd : (sWake (sTh S 0) t).rd ≠ [] := by
      show S.rd ++ [t] ≠ []
      simp
    have H2 : CR w2 (sNext ((sWake (sTh S 0) t).s_cur none)) n := H2
    rw [next_cur hrd] at H2
    have a3 := K_current (d := d + 6) H2 (SB.next B1).cu
    refine ⟨w2, ?_, H2, ((FC.of F1 (by decide) (by decide) (by decide) (by decide)).tr F2).fb⟩
    have hth : (sNext (sWake (sTh S 0) t)).th = 0 := next_th _
    rw [if_pos hth]
    simp only [ob_s, mc', br_n, a1, bv_n, a2, a3, bi_n]
theorem K_sleep (H : CR w S n) (I : SI S n) (J : SJ S n) (hn : n < 512) (r : rmOK w) : ∃ w', kx_ev wx_M (d + 8) 42 [kx_r 0 (some 1), kx_l v] w = some (if (pSleep S v).1.th = 0 then .inl (some (.inl (pSleep S v).2)) else .inr (e3 (pSleep S v).1.th), w') ∧ CR w' (pSleep S v).1 n ∧ FB w w' := by
  have hl1 := I.l.1
  have mc := K_cur (d := d + 6) H r (by omega)
  obtain ⟨ψ, hψ⟩ := kx_fu
  rw [mE_42 hψ]
  unfold mb_42_0
  unfold pSleep
  simp only [lg_le, lg_pos]
  by_cases h1 : 1000000000 < v
  · rw [if_pos h1, if_neg (not_not_intro h1)]
    refine ⟨_, ?_, (H.th 1).bump 1 6, FC.rf.bm⟩
    rw [thd_ok (by omega) r.1 r.2]
    rfl
  · rw [if_neg h1, if_pos h1]
    rcases cur_or S with hc | ⟨t, hc⟩
    · rw [hc] at mc
      have mc' : kx_ev wx_M (d + 7) 24 [kx_r 0 (some 1)] w = some (.inr 0, hp_bump w 1 6) := mc
      rw [hc]
      refine ⟨_, ?_, (H.th 2).bump 1 6, FC.rf.bm⟩
      simp only [ob_s, mc', br_e]
      rfl
    · have ht := I.b.cu t hc
      have h0 := I.cs t hc
      have hst : S.std ≠ 1 := by rw [J.sd t hc]; decide
      rw [hc] at mc
      have mc' : kx_ev wx_M (d + 7) 24 [kx_r 0 (some 1)] w = some (.inl (some (.inr (.inr (6, some (524 + 2 * t))))), w) := mc
      by_cases h2 : 0 < v
      · have h3 : ¬ v ≤ 0 := by
          rw [Int64.lt_iff_toInt_lt] at h2
          rw [Int64.le_iff_toInt_le]
          omega
        simp only [hc, if_neg h3]
        obtain ⟨Q, fp, tp, V, fv, A, ft, HX⟩ := H.th 0
        have hno := HX.q.no (Or.inl h0)
        -- the state is written first
        have F1 : FR [1206] [] [] [] w (hp_sI w 1206 (524 + 2 * t) 5) := FR.sI (by decide) FR.rf
        have hwh : hp_I S.m 8733 t = -1 := by
          rcases J.wh t ht (J.lv t hc) with h | h
          · have h9 : stt S t = 0 := h0
            rw [h9] at h
            exact absurd h (by decide)
          · exact h
        have eI : ∀ k, k ≠ 8731 → hp_I (hp_sI (hp_sI S.m 8731 t 5) 8733 t (-1)) k = hp_I S.m k := fun k hk => by
          funext j
          by_cases h9 : k = 8733
          · subst h9
            by_cases hj : j = t
            · subst hj; simp [hI_I]; exact hwh.symm
            · simp [hI_I, hj]
          · simp [hI_I, hk, h9]
        have H1 : CX (hp_sI w 1206 (524 + 2 * t) 5) (kS.s_m ((kS.s_th S (0))) (hp_sI (hp_sI S.m 8731 t 5) 8733 t (-1))) n Q fp tp V fv A ft := by
          refine ⟨HX.k.fr F1 (by decide) (by decide) (by decide) (by decide), ?_, (HX.s.fr F1 (by decide) (by decide) (by decide) (by decide)).sc rfl rfl rfl rfl rfl rfl rfl rfl rfl, (HX.c.fr F1 (by decide) (by decide) (by decide) (by decide)).sc rfl rfl (eI _ (by decide)) rfl rfl, (HX.g.fr F1 (by decide) (by decide) (by decide) (by decide)).sc (eI _ (by decide)) (eI _ (by decide)) (eI _ (by decide)) rfl, (HX.q.fr F1 (by decide) (by decide) (by decide) (by decide)).sc (fun q hq => ?_), HX.o.fr F1 (by decide) (by decide) (by decide) (by decide), HX.rd, HX.mo, HX.sn, HX.v.fr F1 (by decide) (by decide) (by decide) (by decide), HX.a.imp id (fun h => h.fr F1 (by decide) (by decide) (by decide) (by decide))⟩
          · refine ⟨HX.t.al, fun q hq => ?_, fun q hq => ?_, HX.t.re, HX.t.fl, fun q hq => ?_, HX.t.br⟩
            · have h5 := HX.t.st q hq
              show _ = hp_I (hp_sI (hp_sI S.m 8731 t 5) 8733 t (-1)) 8731 q
              by_cases hqt : q = t
              · subst hqt; simp [hI_I, hI_L, hI_R, hI_B, hI_b, hL_I, hL_L, hL_R, hL_B, hL_b, hR_I, hR_L, hR_R, hR_B, hR_b, hB_I, hB_L, hB_R, hB_B, hB_b, hN_I, hN_L, hN_R, hN_B, hN_b, hT_I, hT_L, hT_R, hT_B, hT_b, hX_I, hX_L, hX_R, hX_B, hX_b, hC_I, hC_L, hC_R, hC_B, hC_b, hU_I, hU_L, hU_R, hU_B, hU_b]
              · have h9 : ¬ 2 * q = 2 * t := by omega
                simp [hI_I, hI_L, hI_R, hI_B, hI_b, hL_I, hL_L, hL_R, hL_B, hL_b, hR_I, hR_L, hR_R, hR_B, hR_b, hB_I, hB_L, hB_R, hB_B, hB_b, hN_I, hN_L, hN_R, hN_B, hN_b, hT_I, hT_L, hT_R, hT_B, hT_b, hX_I, hX_L, hX_R, hX_B, hX_b, hC_I, hC_L, hC_R, hC_B, hC_b, hU_I, hU_L, hU_R, hU_B, hU_b, hqt, h9]; exact h5
            · rw [F1.I 1208 (by decide)]
              show _ = hp_I (hp_sI (hp_sI S.m 8731 t 5) 8733 t (-1)) 8733 q
              rw [eI _ (by decide)]
              exact HX.t.at q hq
            · rw [F1.I 1216 (by decide)]
              show _ = hp_I (hp_sI (hp_sI S.m 8731 t 5) 8733 t (-1)) 8739 q
              rw [eI _ (by decide)]
              exact HX.t.ca q hq
          · show hp_I (hp_sI (hp_sI S.m 8731 t 5) 8733 t (-1)) 8731 q.2.2.1 = _
            simp [hI_I, hno q hq]
            rfl
        have a := H1.a.resolve_left hst
        have hAl := CA_len (S := S) a
        obtain ⟨w2, A2, ft2, b2, CA2, F2⟩ := C_note (d := d + 5) (x := S.clk + v) (e := .inl t) a (by omega)
        have H2 : CX w2 (kS.s_me ((kS.s_m ((kS.s_th S (0))) (hp_sI (hp_sI S.m 8731 t 5) 8733 t (-1)))) (S.me ++ [(.inl t, S.clk + v)])) n Q fp tp V fv A2 ft2 := by
          refine ⟨H1.k.fr F2 (by decide) (by decide) (by decide) (by decide), H1.t.fr F2 (by decide) (by decide) (by decide) (by decide), (H1.s.fr F2 (by decide) (by decide) (by decide) (by decide)).sc rfl rfl rfl rfl rfl rfl rfl rfl rfl, ?_, (H1.g.fr F2 (by decide) (by decide) (by decide) (by decide)).sc rfl rfl rfl rfl, H1.q.fr F2 (by decide) (by decide) (by decide) (by decide), H1.o.fr F2 (by decide) (by decide) (by decide) (by decide), HX.rd, HX.mo, HX.sn, H1.v.fr F2 (by decide) (by decide) (by decide) (by decide), Or.inr CA2⟩
          have h := H1.c.fr F2 (by decide) (by decide) (by decide) (by decide)
          refine ⟨h.th, h.cl, h.ro, h.he, fun j hj => ?_, h.nw⟩
          show _ = i32 ((S.me ++ [((.inl t : Nat ⊕ Nat), S.clk + v)] : List kMe).countP (fun e => decide (e.1 = .inr j)))
          rw [List.countP_append, h.al j hj]
          simp
        have BR := SB.rest (how := 5) (place := -1) I.b (I.b.nin0 h0) ht [] [(Sum.inl t, S.clk + v)] [] (by simp) (Or.inr ⟨_, rfl, rfl⟩) (Or.inl rfl)
        simp only [List.append_nil] at BR
        have BR2 : SB (kS.s_cur (kS.s_me ((kS.s_m ((kS.s_th S (0))) (hp_sI (hp_sI S.m 8731 t 5) 8733 t (-1)))) (S.me ++ [(.inl t, S.clk + v)])) none) := BR.of BR.cu (fun _ _ => rfl) (List.Sublist.refl _) (List.Sublist.refl _) (List.Sublist.refl _) (List.Sublist.refl _)
        have ha : SA (kS.s_me ((kS.s_m ((kS.s_th S (0))) (hp_sI (hp_sI S.m 8731 t 5) 8733 t (-1)))) (S.me ++ [(.inl t, S.clk + v)])) := by
          have := I.a
          show S.al = (S.me ++ [(Sum.inl t, S.clk + v)] : List kMe).countP (fun e : kMe => e.1.isRight)
          rw [List.countP_append]
          simpa [SA] using this
        obtain ⟨w3, a3, H3, F3⟩ := C_goOn (d := d) H2.cr hst BR2 ha (by show S.mv.length + (S.me ++ [_]).length ≤ 512; simp; omega)
        have a4 := K_current (d := d + 6) H3 (SB.next BR2).cu
        have H3' : CR w3 (sRest (kS.s_me ((kS.s_th S (0))) (S.me ++ [(.inl t, S.clk + v)])) t 5 (-1)) n := H3
        refine ⟨w3, ?_, H3', ((FC.of F1 (by decide) (by decide) (by decide) (by decide)).tr ((FC.of F2 (by decide) (by decide) (by decide) (by decide)).tr F3)).fb⟩
        have hth : (sRest (kS.s_me ((kS.s_th S (0))) (S.me ++ [(.inl t, S.clk + v)])) t 5 (-1)).th = 0 := next_th _
        rw [if_pos hth]
        have k12 : hp_R (hp_sI w 1206 (524 + 2 * t) 5) 12 1 = some 4 := HX.k.d.2.2.1
        have k10 : hp_L (hp_sI w 1206 (524 + 2 * t) 5) 10 1 = S.clk := HX.s.nw
        have b2' : kx_ev wx_M (d + 7) 43 [kx_r 1 (some 4), kx_l (S.clk + v), kx_r 6 (some (524 + 2 * t)), kx_r 2 none] (hp_sI w 1206 (524 + 2 * t) 5) = some (.inl none, w2) := b2
        simp only [ob_s, mc', br_n, if_pos h2, k12, k10, b2', bv_n, me_42_57, mb_42_57, a3, a4, bi_n]
        rfl
      · have h3 : v ≤ 0 := by
          rw [Int64.lt_iff_toInt_lt] at h2
          rw [Int64.le_iff_toInt_le]
          omega
        simp only [hc, if_pos h3]
        obtain ⟨w', a9, H9, F9⟩ := K_way (d := d) H I J hn r
        obtain ⟨ψ2, hψ2⟩ := kx_fu
        rw [mE_29 hψ2] at a9
        unfold mb_29_0 at a9
        have hth : (pWay S).1.th = 0 := by
          unfold pWay
          rw [hc]
          exact next_th _
        rw [if_pos hth] at a9 ⊢
        refine ⟨w', ?_, H9, F9⟩
        simp only [ob_s, mc', br_n] at a9
        simp only [ob_s, mc', br_n, if_neg h2, me_42_57, mb_42_57]
        exact a9
end TSK
