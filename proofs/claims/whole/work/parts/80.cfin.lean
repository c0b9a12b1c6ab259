/-! the class's calls: spawn, finish -/
section FIN
variable {w w' : kx_H} {S S' : kS} {t g n d c : Nat} {x : Int32} {v val : Int64} {f b : Bool} {Q : List kQ} {fp tp fv ft : List Nat} {V : List (Nat × Int64 × Nat)} {A : List (Nat × kMe)} {l : kLoc}
theorem K_end_l {C : kx_C} (hC : C = kx_ev wx_M (d + 2)) {st : Nat → Int32} : ∀ k j F w (Q : List kQ) (fp : List Nat), CK w → CQ w st Q fp tp n → (∀ q ∈ Q, j ≤ q.2.2.1) → j + k = 256 → k + 1 ≤ F →
    ∃ w' F' fp', F ≤ F' + k ∧ kx_ex (wm_41 (d + 2) C) F 2 [(0, kx_r 0 (some 1)), (1, kx_i (i32 j))] [] w = kx_ex (wm_41 (d + 2) C) F' 2 [(0, kx_r 0 (some 1)), (1, kx_i (i32 256))] [] w' ∧ CQ w' st [] fp' tp n ∧ (∀ q, q < 256 → hp_B w' 1204 (524 + 2 * q) = if j ≤ q then false else hp_B w 1204 (524 + 2 * q)) ∧ FR [1004] [] [810, 812, 814, 1000, 1002, 816, 30, 1210] [1204] w w' := by
  intro k
  induction k with
  | zero =>
    intro j F w Q fp K hq hQ hj hF
    obtain rfl : j = 256 := by omega
    have hn : Q = [] := by
      cases Q with
      | nil => rfl
      | cons q Q =>
        have h1 := hQ q List.mem_cons_self
        have h2 := (hq.loc q List.mem_cons_self).2.1
        omega
    subst hn
    exact ⟨w, F, fp, by omega, rfl, hq, fun q hq => by rw [if_neg (by omega)], FR.rf⟩
  | succ k ih =>
    intro j F w Q fp K hq hQ hj hF
    obtain ⟨F, rfl⟩ : ∃ f', F = f' + 1 := ⟨F - 1, by omega⟩
    have hj2 : j < 256 := by omega
    obtain ⟨w1, a1, q1, h8, F1⟩ := C_outQ (d := d) hq (K.t j hj2).2.2 hj2
    have F2 : FR [] [] [] [1204] w1 (hp_sB w1 1204 (524 + 2 * j) false) := FR.sB (by decide) FR.rf
    have K1 := K.fr F1 (by decide) (by decide) (by decide) (by decide)
    have K2 := K1.fr F2 (by decide) (by decide) (by decide) (by decide)
    have q2 := q1.fr F2 (by decide) (by decide) (by decide) (by decide)
    have F12 : FR [1004] [] [810, 812, 814, 1000, 1002, 816, 30, 1210] [1204] w (hp_sB w1 1204 (524 + 2 * j) false) := FR.sB (by decide) (F1.mono (fun _ h => h) (fun _ h => h) (fun _ h => h) (fun k h => by cases h))
    obtain ⟨w', F', fp', f1, r1, r2, r3, r4⟩ := ih (j + 1) F (hp_sB w1 1204 (524 + 2 * j) false) (Q.filter (fun q => q.2.2.1 != j)) _ K2 q2 (fun q hm => by
      have h5 := hQ q (List.mem_filter.mp hm).1
      have h6 := not_mem_fl (p := qIs) q hm
      omega) (by omega) (by omega)
    refine ⟨w', F', fp', by omega, ?_, r2, fun q hq => ?_, F12.tr r4⟩
    · rw [← r1, me_41_2]
      unfold mb_41_2
      rw [if_neg (show ¬ (256 : Int32) ≤ i32 j by rw [show (256 : Int32) = i32 256 from rfl, i32_le (by omega) (by omega)]; omega)]
      have hkk : (256 ≤ j) = False := by simp; omega
      rw [← hC] at a1
      simp only [ob_s, K.d.1, K.n.1, i32_nat (n := j) (by omega), i32_neg (n := j) (by omega), hkk, or_self, if_false, (K.t j hj2).1, a1, bv_n, K1.d.1, K1.n.1, (K1.t j hj2).1, kx_sb_0, i32_add1]
    · rw [r3 q hq]
      have e1 : hp_B w1 1204 = hp_B w 1204 := F1.B 1204 (by decide)
      by_cases hqj : q = j
      · subst hqj
        rw [if_neg (by omega), if_pos (Nat.le_refl _)]
        simp [hI_I, hI_L, hI_R, hI_B, hI_b, hL_I, hL_L, hL_R, hL_B, hL_b, hR_I, hR_L, hR_R, hR_B, hR_b, hB_I, hB_L, hB_R, hB_B, hB_b, hN_I, hN_L, hN_R, hN_B, hN_b, hT_I, hT_L, hT_R, hT_B, hT_b, hX_I, hX_L, hX_R, hX_B, hX_b, hC_I, hC_L, hC_R, hC_B, hC_b, hU_I, hU_L, hU_R, hU_B, hU_b]
      · by_cases h5 : j ≤ q
        · rw [if_pos h5, if_pos (by omega)]
        · rw [if_neg h5, if_neg (by omega), ← e1]
          have h9 : ¬ 2 * q = 2 * j := by omega
          simp [hI_I, hI_L, hI_R, hI_B, hI_b, hL_I, hL_L, hL_R, hL_B, hL_b, hR_I, hR_L, hR_R, hR_B, hR_b, hB_I, hB_L, hB_R, hB_B, hB_b, hN_I, hN_L, hN_R, hN_B, hN_b, hT_I, hT_L, hT_R, hT_B, hT_b, hX_I, hX_L, hX_R, hX_B, hX_b, hC_I, hC_L, hC_R, hC_B, hC_b, hU_I, hU_L, hU_R, hU_B, hU_b, h9]
theorem kill_B (m : kx_H) : ∀ (j q : Nat), hp_B (kill m j) 8729 q = if q < j then false else hp_B m 8729 q := by
  intro j
  induction j with
  | zero => intro q; simp [kill]
  | succ j ih =>
    intro q
    rw [kill_succ]
    by_cases h : q = j
    · subst h; simp [hB_B]
    · have e : hp_B (hp_sB (kill m j) 8729 j false) 8729 q = hp_B (kill m j) 8729 q := by simp [hB_B, h]
      rw [e, ih]
      by_cases h2 : q < j
      · rw [if_pos h2, if_pos (by omega)]
      · rw [if_neg h2, if_neg (by omega)]
theorem kill_Bo (m : kx_H) (k : Nat) (hk : k ≠ 8729) : ∀ j, hp_B (kill m j) k = hp_B m k := by
  intro j
  induction j with
  | zero => rfl
  | succ j ih =>
    rw [kill_succ, ← ih]
    funext q
    simp [hB_B, hk]
theorem kill_I (m : kx_H) : ∀ j, hp_I (kill m j) = hp_I m := by
  intro j
  induction j with
  | zero => rfl
  | succ j ih => rw [kill_succ, ← ih]; rfl
theorem kill_L (m : kx_H) : ∀ j, hp_L (kill m j) = hp_L m := by
  intro j
  induction j with
  | zero => rfl
  | succ j ih => rw [kill_succ, ← ih]; rfl
theorem C_end {w1 : kx_H} {fp' : List Nat} (HX : CX w S n Q fp tp V fv A ft) (q1 : CQ w1 (stt S) [] fp' tp n) (hB : ∀ q, q < 256 → hp_B w1 1204 (524 + 2 * q) = false) (F1 : FR [1004] [] [810, 812, 814, 1000, 1002, 816, 30, 1210] [1204] w w1) (T : kS) (t1 : T.cur = none) (t2 : T.std = 1) (t3 : T.clk = S.clk) (t4 : T.m = kill S.m 256) (t5 : T.rd = []) (t6 : T.rooms = S.rooms) (t7 : T.mv = S.mv) (t8 : T.mo = []) (t9 : T.mt = S.mt) (t10 : T.gates = S.gates) (t11 : T.sn = []) (t12 : T.me = S.me.filter (fun e => e.1.isRight)) (t13 : T.al = S.al) : CX (hp_sB (hp_sR (hp_sI w1 2 1 0) 6 1 none) 8 1 true) T n [] fp' tp V fv A ft := by
  have F3 : FR [2, 1004] [] [810, 812, 814, 1000, 1002, 816, 30, 1210, 6] [1204, 8] w (hp_sB (hp_sR (hp_sI w1 2 1 0) 6 1 none) 8 1 true) := FR.sB (by decide) (FR.sR (by decide) (FR.sI (by decide) (F1.mono (fun k h => by revert k; decide) (fun _ h => h) (fun k h => by revert k; decide) (fun k h => by revert k; decide))))
  have F13 : FR [2] [] [6] [8] w1 (hp_sB (hp_sR (hp_sI w1 2 1 0) 6 1 none) 8 1 true) := FR.sB (by decide) (FR.sR (by decide) (FR.sI (by decide) FR.rf))
  have hcnt : ∀ j, sCnt T j = sCnt S j := fun j => by unfold sCnt; rw [t7]
  have hstt : stt T = stt S := by funext j; unfold stt; rw [t4, kill_I]
  refine ⟨HX.k.fr F3 (by decide) (by decide) (by decide) (by decide), ?_, ?_, ?_, (HX.g.fr F3 (by decide) (by decide) (by decide) (by decide)).sc (by rw [t4, kill_I]) (by rw [t4, kill_I]) (by rw [t4, kill_I]) t10, by rw [hstt]; exact q1.fr F13 (by decide) (by decide) (by decide) (by decide), by rw [t9]; exact HX.o.fr F3 (by decide) (by decide) (by decide) (by decide), t5, t8, t11, by rw [t7]; exact HX.v.fr F3 (by decide) (by decide) (by decide) (by decide), Or.inl t2⟩
  · rw [t4]
    refine ⟨fun q hq => ?_, fun q hq => ?_, fun q hq => ?_, fun q hq => ?_, fun q hq => ?_, fun q hq => ?_, fun q hq => ?_⟩
    · rw [kill_B, if_pos hq, ← hB q hq]; simp [hI_I, hI_L, hI_R, hI_B, hI_b, hL_I, hL_L, hL_R, hL_B, hL_b, hR_I, hR_L, hR_R, hR_B, hR_b, hB_I, hB_L, hB_R, hB_B, hB_b, hN_I, hN_L, hN_R, hN_B, hN_b, hT_I, hT_L, hT_R, hT_B, hT_b, hX_I, hX_L, hX_R, hX_B, hX_b, hC_I, hC_L, hC_R, hC_B, hC_b, hU_I, hU_L, hU_R, hU_B, hU_b]
    · rw [F3.I 1206 (by decide), kill_I]; exact HX.t.st q hq
    · rw [F3.I 1208 (by decide), kill_I]; exact HX.t.at q hq
    · rw [F3.L 1212 (by decide), kill_L]; exact HX.t.re q hq
    · rw [F3.B 1214 (by decide), kill_Bo _ _ (by decide)]; exact HX.t.fl q hq
    · rw [F3.I 1216 (by decide), kill_I]; exact HX.t.ca q hq
    · rw [F3.B 1218 (by decide), kill_Bo _ _ (by decide)]; exact HX.t.br q hq
  · refine ⟨?_, ?_, ?_, ?_, ?_, ?_, ?_, ?_, ?_⟩
    · rw [t1]; simp [hI_I, hI_L, hI_R, hI_B, hI_b, hL_I, hL_L, hL_R, hL_B, hL_b, hR_I, hR_L, hR_R, hR_B, hR_b, hB_I, hB_L, hB_R, hB_B, hB_b, hN_I, hN_L, hN_R, hN_B, hN_b, hT_I, hT_L, hT_R, hT_B, hT_b, hX_I, hX_L, hX_R, hX_B, hX_b, hC_I, hC_L, hC_R, hC_B, hC_b, hU_I, hU_L, hU_R, hU_B, hU_b]
    · rw [t2]; simp [hI_I, hI_L, hI_R, hI_B, hI_b, hL_I, hL_L, hL_R, hL_B, hL_b, hR_I, hR_L, hR_R, hR_B, hR_b, hB_I, hB_L, hB_R, hB_B, hB_b, hN_I, hN_L, hN_R, hN_B, hN_b, hT_I, hT_L, hT_R, hT_B, hT_b, hX_I, hX_L, hX_R, hX_B, hX_b, hC_I, hC_L, hC_R, hC_B, hC_b, hU_I, hU_L, hU_R, hU_B, hU_b]
    · rw [F3.L 10 (by decide), t3]; exact HX.s.nw
    · rw [t4]
      have : (List.range 256).countP (fun q => hp_B (kill S.m 256) 8729 q) = 0 := by
        rw [List.countP_eq_zero]
        intro q hq
        rw [kill_B, if_pos (List.mem_range.mp hq)]
        simp
      rw [this]
      simp [hI_I, hI_L, hI_R, hI_B, hI_b, hL_I, hL_L, hL_R, hL_B, hL_b, hR_I, hR_L, hR_R, hR_B, hR_b, hB_I, hB_L, hB_R, hB_B, hB_b, hN_I, hN_L, hN_R, hN_B, hN_b, hT_I, hT_L, hT_R, hT_B, hT_b, hX_I, hX_L, hX_R, hX_B, hX_b, hC_I, hC_L, hC_R, hC_B, hC_b, hU_I, hU_L, hU_R, hU_B, hU_b]
      rfl
    · rw [F3.I 20 (by decide), t4, kill_Bo _ _ (by decide)]; exact HX.s.cc
    · rw [F3.I 22 (by decide), t6]; exact HX.s.ro
    · rw [F3.I 34 (by decide), t10]; exact HX.s.gc
    · rw [F3.I 14 (by decide), t13]; exact HX.s.ac
    · rw [F3.I 28 (by decide), t9]; exact HX.s.to
  · refine ⟨fun j hj => ?_, fun j hj => ?_, fun j hj => ?_, fun j hj => ?_, fun j hj => ?_, ?_⟩
    · rw [F3.B 406 (by decide), t4, kill_Bo _ _ (by decide)]; exact HX.c.th j hj
    · rw [F3.B 408 (by decide), t4, kill_Bo _ _ (by decide)]; exact HX.c.cl j hj
    · rw [F3.I 410 (by decide), t4, kill_I]; exact HX.c.ro j hj
    · rw [F3.I 412 (by decide), hcnt]; exact HX.c.he j hj
    · rw [F3.I 414 (by decide), t12, List.countP_filter]
      rw [HX.c.al j hj]
      congr 1
      apply List.countP_congr
      intro e _
      simp
      intro h
      rw [h]
      rfl
    · rw [F3.B 408 (by decide), F3.I 410 (by decide), F3.I 412 (by decide)]; exact HX.c.nw
theorem sEnd_f (S : kS) : (sEnd S).cur = none ∧ (sEnd S).std = 1 ∧ (sEnd S).clk = S.clk ∧ (sEnd S).m = sKill S.m ∧ (sEnd S).rd = [] ∧ (sEnd S).rooms = S.rooms ∧ (sEnd S).mv = S.mv ∧ (sEnd S).mo = [] ∧ (sEnd S).mt = S.mt ∧ (sEnd S).gates = S.gates ∧ (sEnd S).sn = [] ∧ (sEnd S).me = S.me.filter (fun e => e.1.isRight) ∧ (sEnd S).al = S.al := by
  unfold sEnd
  generalize sKill S.m = K
  exact ⟨rfl, rfl, rfl, rfl, rfl, rfl, rfl, rfl, rfl, rfl, rfl, rfl, rfl⟩
theorem sEnd_th (S : kS) : (sEnd S).th = 0 := by
  unfold sEnd
  generalize sKill S.m = K
  rfl
theorem K_finish (H : CR w S n) (I : SI S n) (J : SJ S n) (hn : n < 512) (r : rmOK w) : ∃ w', kx_ev wx_M (d + 8) 40 [kx_r 0 (some 1)] w = some (if (pFinish S).1.th = 0 then .inl (some (.inl (pFinish S).2)) else .inr 0, w') ∧ CR w' (pFinish S).1 n ∧ FB w w' := by
  have hl1 := I.l.1
  have mc := K_cur (d := d + 6) H r (by omega)
  obtain ⟨ψ, hψ⟩ := kx_fu
  rw [mE_40 hψ]
  unfold mb_40_0
  unfold pFinish
  rcases cur_or S with hc | ⟨t, hc⟩
  · rw [hc] at mc
    have mc' : kx_ev wx_M (d + 7) 24 [kx_r 0 (some 1)] w = some (.inr 0, hp_bump w 1 6) := mc
    rw [hc]
    refine ⟨_, ?_, (H.th 1).bump 1 6, FC.rf.bm⟩
    simp only [ob_s, mc', br_e]
    rfl
  · have ht := I.b.cu t hc
    have h0 := I.cs t hc
    have hst : S.std ≠ 1 := by rw [J.sd t hc]; decide
    rw [hc] at mc
    have mc' : kx_ev wx_M (d + 7) 24 [kx_r 0 (some 1)] w = some (.inl (some (.inr (.inr (6, some (524 + 2 * t))))), w) := mc
    have hnum := (H.k.t t ht).2.1
    rw [hc]
    cases t with
    | zero =>
      obtain ⟨Q, fp, tp, V, fv, A, ft, HX⟩ := id H
      obtain ⟨φ, hφ⟩ := kx_fl 1000 (by omega)
      obtain ⟨w1, F', fp', f1, r1, q1, b1, F1⟩ := K_end_l (d := d + 4) (n := n) (tp := tp) rfl 256 0 (φ + 1000) w Q fp HX.k HX.q (fun q _ => Nat.zero_le _) (by omega) (by omega)
      obtain ⟨F', rfl⟩ : ∃ f, F' = f + 1 := ⟨F' - 1, by omega⟩
      have a41 : kx_ev wx_M (d + 7) 41 [kx_r 0 (some 1)] w = some (.inl none, hp_sB (hp_sR (hp_sI w1 2 1 0) 6 1 none) 8 1 true) := by
        rw [mE_41 hφ]
        unfold mb_41_0
        rw [show kx_i (0 : Int32) = kx_i (i32 0) from rfl, r1, me_41_2]
        unfold mb_41_2
        rw [if_pos (show (256 : Int32) ≤ i32 256 by decide)]
        simp only [ob_s, kx_sb_1]
      obtain ⟨z1, z2, z3, z4, z5, z6, z7, z8, z9, z10, z11, z12, z13⟩ := sEnd_f S
      have H2 : CR (hp_sB (hp_sR (hp_sI w1 2 1 0) 6 1 none) 8 1 true) (sEnd S) n := (C_end HX q1 (fun q hq => by rw [b1 q hq, if_pos (Nat.zero_le _)]) F1 (sEnd S) z1 z2 z3 (z4.trans (sKill_kill S.m)) z5 z6 z7 z8 z9 z10 z11 z12 z13).cr
      have a3 := K_current (d := d + 6) H2 (fun _ h => by rw [z1] at h; cases h)
      rw [z1] at a3
      have F3 : FR [2, 1004] [] [810, 812, 814, 1000, 1002, 816, 30, 1210, 6] [1204, 8] w (hp_sB (hp_sR (hp_sI w1 2 1 0) 6 1 none) 8 1 true) := FR.sB (by decide) (FR.sR (by decide) (FR.sI (by decide) (F1.mono (fun k h => by revert k; decide) (fun _ h => h) (fun k h => by revert k; decide) (fun k h => by revert k; decide))))
      refine ⟨_, ?_, H2, (FC.of F3 (by decide) (by decide) (by decide) (by decide)).fb⟩
      have a3' : kx_ev wx_M (d + 7) 19 [kx_r 0 (some 1)] (hp_sB (hp_sR (hp_sI w1 2 1 0) 6 1 none) 8 1 true) = some (.inl (some (.inl (-1))), hp_sB (hp_sR (hp_sI w1 2 1 0) 6 1 none) 8 1 true) := a3
      show _ = some (if (sEnd S).th = 0 then Sum.inl (some (Sum.inl (-1))) else Sum.inr 0, _)
      rw [if_pos (sEnd_th S)]
      have hnum' : hp_I w 1200 (524 + 2 * 0) = 0 := hnum
      simp only [ob_s, mc', br_n, hnum', if_true, a41, bv_n, me_40_38, mb_40_38, a3', bi_n]
    | succ t =>
      have hlv := J.lv (t + 1) hc
      obtain ⟨y, hy⟩ : ∃ y, (List.range 256).countP (fun q => hp_B (hp_sB S.m 8729 (t + 1) false) 8729 q) = y := ⟨_, rfl⟩
      have hy2 : y + 1 = (List.range 256).countP (fun q => hp_B S.m 8729 q) := by
        rw [← hy, hB_row]
        exact cp_clr (p := fun q => hp_B S.m 8729 q) ht hlv
      obtain ⟨Q, fp, tp, V, fv, A, ft, HX⟩ := H.th 0
      obtain ⟨H1, F1⟩ := C_alive (t := t + 1) (b := false) HX ht hy
      have B2 : SB (kS.s_cur (kS.s_m ((kS.s_th S (0))) (hp_sB S.m 8729 (t + 1) false)) none) := I.b.of (fun _ h => nomatch h) (fun _ _ => rfl) (List.Sublist.refl _) (List.Sublist.refl _) (List.Sublist.refl _) (List.Sublist.refl _)
      obtain ⟨w2, a2, H2, F2⟩ := C_goOn (d := d) H1.cr hst B2 I.a (by show S.mv.length + S.me.length ≤ 512; omega)
      have a3 := K_current (d := d + 6) H2 (SB.next B2).cu
      refine ⟨w2, ?_, H2, ((FC.of F1 (by decide) (by decide) (by decide) (by decide)).tr F2).fb⟩
      have hth : (sNext (kS.s_cur (kS.s_m ((kS.s_th S (0))) (hp_sB S.m 8729 (t + 1) false)) none)).th = 0 := next_th _
      show _ = some (if (sNext (kS.s_cur (kS.s_m ((kS.s_th S (0))) (hp_sB S.m 8729 (t + 1) false)) none)).th = 0 then Sum.inl (some (Sum.inl (fidx (sNext (kS.s_cur (kS.s_m ((kS.s_th S (0))) (hp_sB S.m 8729 (t + 1) false)) none)).cur))) else Sum.inr 0, w2)
      rw [if_pos hth]
      have h2 : hp_I w 2 1 = i32 (y + 1) := by rw [hy2]; exact H.s.tc
      have hne : ¬ i32 (t + 1) = 0 := by
        rw [show (0 : Int32) = i32 0 from rfl, i32_eq (by omega) (by omega)]
        omega
      have e2 : hp_I (hp_sB w 1204 (524 + 2 * (t + 1)) false) 2 1 = i32 (y + 1) := h2
      simp only [ob_s, mc', br_n, hnum, hne, if_false, kx_sb_0, e2, i32_sub1, a2, bv_n, me_40_38, mb_40_38, a3, bi_n]
end FIN
