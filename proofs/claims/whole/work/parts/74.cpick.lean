section PK
variable {w w' : kx_H} {S S' : kS} {t g n d c : Nat} {x : Int64} {Q : List kQ} {fp tp fv ft : List Nat} {V : List (Nat × Int64 × Nat)} {A : List (Nat × kMe)} {l : kLoc}
theorem CR.q1 (H : CX w S n Q fp tp V fv A ft) (h1 : stt S t = 1 ∨ stt S t = 6) : ∀ q ∈ Q, q.2.2.1 = t → qIs q = false := by
  intro q hq e
  rcases H.q.pl q hq with ⟨p1, -⟩ | ⟨-, y, p2⟩
  · exact qIs_f.mpr p1
  · exfalso
    have := (H.q.loc q hq).2.2
    rw [p2, e] at this
    rcases h1 with h | h <;> rw [h] at this <;> revert this <;> simp only [sOK] <;> decide
theorem C_pick {C : kx_C} (hC : C = kx_ev wx_M (d + 6)) {F : Nat} (H : CR w S n) (hcu : S.cur = none) (hst : S.std ≠ 1) (B : SB S) (hF : 3 ≤ F) : ∃ w', kx_ex (wm_30 (d + 6) C) F 108 [(0, kx_r 0 (some 1))] [] w = some (.inl none, w') ∧ CR w' (sPick S) n ∧ FC w w' := by
  obtain ⟨F, rfl⟩ : ∃ f', F = f' + 1 + 1 + 1 := ⟨F - 3, by omega⟩
  obtain ⟨Q, fp, tp, V, fv, A, ft, H⟩ := H
  have hru := H.s.ru
  rw [hcu] at hru
  have hru' : hp_R w 6 1 = none := hru
  have k4 := H.k.d.2.1
  rw [me_30_108]
  unfold mb_30_108 sPick
  cases hr : S.rd with
  | nil =>
    have h0 := (rd_hd H).1 hr
    refine ⟨w, ?_, ?_, FC.rf⟩
    · simp only [ob_s, k4, h0, if_true, me_30_132, mb_30_132, hru', me_30_147, mb_30_147]
    · show CR w (S.s_std 2) n
      refine CX.cr (Q := Q) (fp := fp) (tp := tp) (V := V) (fv := fv) (A := A) (ft := ft) ⟨H.k, H.t, ⟨H.s.ru, ?_, H.s.nw, H.s.tc, H.s.cc, H.s.ro, H.s.gc, H.s.ac, H.s.to⟩, H.c.sc rfl rfl rfl rfl rfl, H.g.sc rfl rfl rfl rfl, H.q, H.o, H.rd, H.mo, H.sn, H.v, Or.inr (H.a.resolve_left hst)⟩
      rw [H.s.ov, decide_eq_false hst]
      rfl
  | cons t r =>
    obtain ⟨h0, ht, h1⟩ := (rd_hd H).2 t r hr
    obtain ⟨w3, a3, H3, h8, F3⟩ := C_so (d := d + 5) H ht (CR.q1 H (Or.inl h1))
    have e800 : hp_R w3 800 (523 + 2 * t) = some (524 + 2 * t) := (H3.q.std t ht).1
    have hnd := B.rn
    rw [hr, List.nodup_cons] at hnd
    have hsn : sNot S t = (kS.s_rd S (r)) := by
      have e1 : S.rd.filter (fun q => q != t) = r := by
        rw [hr, List.filter_cons_of_neg (by simp)]
        exact fl_no hnd.1
      have e2 : S.mo.filter (fun q => q.1 != t) = S.mo := by
        rw [List.filter_eq_self]
        intro a ha
        simp
        intro z
        have := st_mo H ha
        rw [z, h1] at this
        revert this; decide
      have e3 : S.sn.filter (fun q => q.1 != t) = S.sn := by
        rw [List.filter_eq_self]
        intro a ha
        simp
        intro z
        have := st_sn H ha
        rw [z, h1] at this
        revert this; decide
      show ((S.s_rd (S.rd.filter (fun q => q != t))).s_mo (S.mo.filter (fun q => q.1 != t))).s_sn (S.sn.filter (fun q => q.1 != t)) = _
      rw [e1, e2, e3]
    rw [hsn] at H3
    have FF : FR [1206] [] [6] [] w3 (hp_sI (hp_sR w3 6 1 (some (524 + 2 * t))) 1206 (524 + 2 * t) 0) := FR.sI (by decide) (FR.sR (by decide) FR.rf)
    refine ⟨_, ?_, ?_, (FC.of F3 (by decide) (by decide) (by decide) (by decide)).tr (FC.of FF (by decide) (by decide) (by decide) (by decide))⟩
    · rw [← hC] at a3
      have e6 : hp_R (hp_sR w3 6 1 (some (524 + 2 * t))) 6 1 = some (524 + 2 * t) := by simp [hI_I, hI_L, hI_R, hI_B, hI_b, hL_I, hL_L, hL_R, hL_B, hL_b, hR_I, hR_L, hR_R, hR_B, hR_b, hB_I, hB_L, hB_R, hB_B, hB_b, hN_I, hN_L, hN_R, hN_B, hN_b, hT_I, hT_L, hT_R, hT_B, hT_b, hX_I, hX_L, hX_R, hX_B, hX_b, hC_I, hC_L, hC_R, hC_B, hC_b, hU_I, hU_L, hU_R, hU_B, hU_b]
      simp only [ob_s, k4, h0, reduceCtorEq, if_false, a3, bv_n, e800, me_30_132, mb_30_132, e6, me_30_147, mb_30_147]
    · show CR _ (kS.s_m ((kS.s_rd ((kS.s_cur S (some t))) (r))) (hp_sI S.m 8731 t 0)) n
      have eI : ∀ k, k ≠ 8731 → hp_I (hp_sI S.m 8731 t 0) k = hp_I S.m k := fun k hk => by funext j; simp [hI_I, hk]
      refine CX.cr (Q := Q.filter (fun q => q.2.2.1 != t)) (fp := fp) (tp := tp) (V := V) (fv := fv) (A := A) (ft := ft) ⟨H3.k.fr FF (by decide) (by decide) (by decide) (by decide), ?_, ?_, (H3.c.fr FF (by decide) (by decide) (by decide) (by decide)).sc rfl rfl (eI _ (by decide)) rfl rfl, (H3.g.fr FF (by decide) (by decide) (by decide) (by decide)).sc (eI _ (by decide)) (eI _ (by decide)) (eI _ (by decide)) rfl, ?_, H3.o.fr FF (by decide) (by decide) (by decide) (by decide), H3.rd, H3.mo, H3.sn, H3.v.fr FF (by decide) (by decide) (by decide) (by decide), H3.a.imp id (fun h => h.fr FF (by decide) (by decide) (by decide) (by decide))⟩
      · refine ⟨fun q hq => ?_, fun q hq => ?_, fun q hq => ?_, fun q hq => ?_, fun q hq => ?_, fun q hq => ?_, fun q hq => ?_⟩
        · rw [FF.B 1204 (by decide)]; exact H3.t.al q hq
        · have h5 := H3.t.st q hq
          show _ = hp_I (hp_sI S.m 8731 t 0) 8731 q
          by_cases hqt : q = t
          · subst hqt; simp [hI_I, hI_L, hI_R, hI_B, hI_b, hL_I, hL_L, hL_R, hL_B, hL_b, hR_I, hR_L, hR_R, hR_B, hR_b, hB_I, hB_L, hB_R, hB_B, hB_b, hN_I, hN_L, hN_R, hN_B, hN_b, hT_I, hT_L, hT_R, hT_B, hT_b, hX_I, hX_L, hX_R, hX_B, hX_b, hC_I, hC_L, hC_R, hC_B, hC_b, hU_I, hU_L, hU_R, hU_B, hU_b]
          · have h9 : ¬ 2 * q = 2 * t := by omega
            simp [hI_I, hI_L, hI_R, hI_B, hI_b, hL_I, hL_L, hL_R, hL_B, hL_b, hR_I, hR_L, hR_R, hR_B, hR_b, hB_I, hB_L, hB_R, hB_B, hB_b, hN_I, hN_L, hN_R, hN_B, hN_b, hT_I, hT_L, hT_R, hT_B, hT_b, hX_I, hX_L, hX_R, hX_B, hX_b, hC_I, hC_L, hC_R, hC_B, hC_b, hU_I, hU_L, hU_R, hU_B, hU_b, hqt, h9]; exact h5
        · rw [FF.I 1208 (by decide)]
          show _ = hp_I (hp_sI S.m 8731 t 0) 8733 q
          rw [eI _ (by decide)]
          exact H3.t.at q hq
        · rw [FF.L 1212 (by decide)]; exact H3.t.re q hq
        · rw [FF.B 1214 (by decide)]; exact H3.t.fl q hq
        · rw [FF.I 1216 (by decide)]
          show _ = hp_I (hp_sI S.m 8731 t 0) 8739 q
          rw [eI _ (by decide)]
          exact H3.t.ca q hq
        · rw [FF.B 1218 (by decide)]; exact H3.t.br q hq
      · refine ⟨(by simp [hI_I, hI_L, hI_R, hI_B, hI_b, hL_I, hL_L, hL_R, hL_B, hL_b, hR_I, hR_L, hR_R, hR_B, hR_b, hB_I, hB_L, hB_R, hB_B, hB_b, hN_I, hN_L, hN_R, hN_B, hN_b, hT_I, hT_L, hT_R, hT_B, hT_b, hX_I, hX_L, hX_R, hX_B, hX_b, hC_I, hC_L, hC_R, hC_B, hC_b, hU_I, hU_L, hU_R, hU_B, hU_b]; rfl), ?_, ?_, ?_, ?_, ?_, ?_, ?_, ?_⟩
        · rw [FF.B 8 (by decide)]; exact H3.s.ov
        · rw [FF.L 10 (by decide)]; exact H3.s.nw
        · rw [FF.I 2 (by decide)]; exact H3.s.tc
        · rw [FF.I 20 (by decide)]; exact H3.s.cc
        · rw [FF.I 22 (by decide)]; exact H3.s.ro
        · rw [FF.I 34 (by decide)]; exact H3.s.gc
        · rw [FF.I 14 (by decide)]; exact H3.s.ac
        · rw [FF.I 28 (by decide)]; exact H3.s.to
      · refine (H3.q.fr FF (by decide) (by decide) (by decide) (by decide)).sc (fun q hq => ?_)
        have := not_mem_fl (p := qIs) q hq
        show hp_I (hp_sI S.m 8731 t 0) 8731 q.2.2.1 = _
        simp [hI_I, this]
        rfl
theorem loop_same (k : Nat) : ∀ S : kS, (sLoop k S).cur = S.cur ∧ (sLoop k S).std = S.std := by
  induction k with
  | zero => intro S; exact ⟨rfl, rfl⟩
  | succ k ih =>
    intro S
    unfold sLoop
    split
    · obtain ⟨h1, h2⟩ := ih (sRing S)
      have hf : ∀ (L : List kMe) (x : Int64) (U : kS), (L.foldl (sRing1 x) U).std = U.std := by
        intro L x
        induction L with
        | nil => intro U; rfl
        | cons q L ihL => intro U; rw [List.foldl_cons, ihL]; exact (s1_clk U q).2.1
      refine ⟨h1.trans (fold_len (x := sLeast S.me) S.me (kS.s_clk S (sLeast S.me))).2.2.2, h2.trans (hf _ _ _)⟩
    · exact ⟨rfl, rfl⟩
theorem next_cur (h : S.rd ≠ []) : sNext (S.s_cur none) = sNext S := by
  unfold sNext
  have e : ∀ k (U : kS), U.rd ≠ [] → sLoop k U = U := by
    intro k U hU
    cases k with
    | zero => rfl
    | succ k => unfold sLoop; rw [if_neg (fun h => hU h.1)]
  rw [e _ S h, e _ (S.s_cur none) h]
  unfold sPick
  cases hr : S.rd with
  | nil => exact absurd hr h
  | cons t r => rfl
/-- TaskDesk.goOn -/
theorem C_goOn (H : CR w S n) (hst : S.std ≠ 1) (B : SB (S.s_cur none)) (ha : SA S) (hv : S.mv.length + S.me.length ≤ 512) : ∃ w', kx_ev wx_M (d + 7) 30 [kx_r 0 (some 1)] w = some (.inl none, w') ∧ CR w' (sNext (S.s_cur none)) n ∧ FC w w' := by
  have F0 : FR [] [] [6] [] w (hp_sR w 6 1 none) := FR.sR (by decide) FR.rf
  have H0 : CR (hp_sR w 6 1 none) (S.s_cur none) n := by
    obtain ⟨Q, fp, tp, V, fv, A, ft, H⟩ := H
    refine CX.cr (Q := Q) (fp := fp) (tp := tp) (V := V) (fv := fv) (A := A) (ft := ft) ⟨H.k.fr F0 (by decide) (by decide) (by decide) (by decide), H.t.fr F0 (by decide) (by decide) (by decide) (by decide), ?_, (H.c.fr F0 (by decide) (by decide) (by decide) (by decide)).sc rfl rfl rfl rfl rfl, (H.g.fr F0 (by decide) (by decide) (by decide) (by decide)).sc rfl rfl rfl rfl, H.q.fr F0 (by decide) (by decide) (by decide) (by decide), H.o.fr F0 (by decide) (by decide) (by decide) (by decide), H.rd, H.mo, H.sn, H.v.fr F0 (by decide) (by decide) (by decide) (by decide), H.a.imp id (fun h => h.fr F0 (by decide) (by decide) (by decide) (by decide))⟩
    exact ⟨(by simp [hI_I, hI_L, hI_R, hI_B, hI_b, hL_I, hL_L, hL_R, hL_B, hL_b, hR_I, hR_L, hR_R, hR_B, hR_b, hB_I, hB_L, hB_R, hB_B, hB_b, hN_I, hN_L, hN_R, hN_B, hN_b, hT_I, hT_L, hT_R, hT_B, hT_b, hX_I, hX_L, hX_R, hX_B, hX_b, hC_I, hC_L, hC_R, hC_B, hC_b, hU_I, hU_L, hU_R, hU_B, hU_b]; rfl), H.s.ov, H.s.nw, H.s.tc, H.s.cc, H.s.ro, H.s.gc, H.s.ac, H.s.to⟩
  have k4 := H0.k.d.2.1
  have hrn := rd_n H0
  obtain ⟨ψ, hψ⟩ := kx_fl 5000 (by omega)
  obtain ⟨φ, h600, hφ⟩ : ∃ φ, 4000 ≤ φ ∧ ψ + 5000 = φ + 1 + 1 := ⟨ψ + 4998, by omega, by omega⟩
  rw [mE_30 hψ, hφ]
  unfold mb_30_0
  simp only [ob_s, k4, me_30_20, mb_30_20, hrn]
  unfold sNext
  by_cases hr : S.rd = []
  · rw [if_pos (show (S.s_cur none).rd = [] from hr)]
    obtain ⟨Q, fp, tp, V, fv, A, ft, H1⟩ := H0
    have a := H1.a.resolve_left hst
    have hmq : meq (A.map (·.2)) (S.s_cur none).me := fun z => by rw [← a.eq z, List.filter_map]; rfl
    have hms : mso (A.map (·.2)) := by
      unfold mso
      rw [List.pairwise_map]
      exact a.so
    have hlen : (A.map (·.2)).length = S.me.length := hmq.perm.length_eq
    have H2 := (H1.me hmq).cr
    have B2 := SB.perm B hmq.perm
    have A2 : SA ((S.s_cur none).s_me (A.map (·.2))) := by
      unfold SA
      show S.al = _
      rw [hmq.perm.countP_eq]
      exact ha
    obtain ⟨w', F', f1, r1, r2, r3⟩ := C_go_l (d := d) rfl (A.map (·.2)).length (φ + 1) _ ((S.s_cur none).s_me (A.map (·.2))) 512 H2 hst hms B2 A2 (by show S.mv.length + (A.map (·.2)).length ≤ 512; omega) (Nat.le_refl _) (by omega) (by omega) (by omega)
    obtain ⟨A', g1, g2, g3⟩ := cGo_loop (A.map (·.2)).length (A.map (·.2)) (S.s_cur none) (Nat.le_refl _) hms hmq hr
    rw [g3] at r2
    have r4 := r2.meS (me' := (sLoop (S.s_cur none).me.length (S.s_cur none)).me) g2.sy
    rw [kS_me_me] at r4
    have r5 : CR w' (sLoop (S.s_cur none).me.length (S.s_cur none)) n := r4
    obtain ⟨l1, l2⟩ := loop_same (S.s_cur none).me.length (S.s_cur none)
    obtain ⟨w9, s1, s2, s3⟩ := C_pick (d := d) rfl (F := F') r5 l1 (by rw [l2]; exact hst) (SB.loop B) (by omega)
    refine ⟨w9, ?_, s2, (FC.of F0 (by decide) (by decide) (by decide) (by decide)).tr (r3.tr s3)⟩
    rw [← s1]
    exact r1
  · rw [if_neg (show ¬ (S.s_cur none).rd = [] from hr)]
    have e : sLoop (S.s_cur none).me.length (S.s_cur none) = S.s_cur none := by
      cases (S.s_cur none).me.length with
      | zero => rfl
      | succ k => unfold sLoop; rw [if_neg (fun h => hr h.1)]
    rw [e]
    obtain ⟨w9, s1, s2, s3⟩ := C_pick (d := d) rfl (F := φ) H0 rfl hst B (by omega)
    refine ⟨w9, ?_, s2, (FC.of F0 (by decide) (by decide) (by decide) (by decide)).tr s3⟩
    rw [← s1, me_30_25]
    unfold mb_30_25
    rw [if_pos rfl]
end PK
