/-! the class's calls: gate, read -/
section CGK
variable {w w' : kx_H} {S S' : kS} {t g n d c l : Nat} {x y how : Int32} {v val : Int64} {f b : Bool} {Q : List kQ} {fp tp fv ft : List Nat} {V : List (Nat × Int64 × Nat)} {A : List (Nat × kMe)}
theorem C_gt {its : Option Nat} (H : CX w S n Q fp tp V fv A ft) (hg : S.gates < 256) (h0 : sHeld S S.gates = 0) (hi : x = 3 → ∃ l, l < 256 ∧ y = i32 l ∧ its = some (2571 + 3 * l)) (F : FR [606, 34] [] [610] [] w w') (b1 : ∀ q, hp_I w' 606 q = if q = 2571 + 3 * S.gates then x else hp_I w 606 q) (b2 : ∀ q, hp_R w' 610 q = if q = 2571 + 3 * S.gates then its else hp_R w 610 q) (b3 : hp_I w' 34 1 = i32 (S.gates + 1))
    (T : kS) (t1 : T.cur = S.cur) (t2 : T.std = S.std) (t3 : T.clk = S.clk) (t4 : T.m = hp_sI (hp_sI (hp_sI S.m 8771 S.gates x) 8775 S.gates y) 8773 S.gates 0) (t5 : T.rd = S.rd) (t6 : T.rooms = S.rooms) (t7 : T.mv = S.mv) (t8 : T.mo = S.mo) (t9 : T.mt = S.mt) (t10 : T.gates = S.gates + 1) (t11 : T.sn = S.sn) (t12 : T.me = S.me) (t13 : T.al = S.al) : CX w' T n Q fp tp V fv A ft := by
  have hm : ∀ k, k ≠ 8771 → k ≠ 8775 → hp_I T.m k = hp_I S.m k := fun k h1 h2 => by
    funext j
    rw [t4]
    by_cases h3 : k = 8773
    · subst h3
      have h0' : hp_I S.m 8773 S.gates = 0 := h0
      by_cases hj : j = S.gates
      · subst hj; simp [hI_I, h0']
      · simp [hI_I, hj]
    · simp [hI_I, h1, h2, h3]
  have hB : hp_B T.m = hp_B S.m := by rw [t4]; rfl
  have hL : hp_L T.m = hp_L S.m := by rw [t4]; rfl
  have hk : ∀ q, sKind T q = if q = S.gates then x else sKind S q := fun q => by
    unfold sKind
    rw [t4]
    by_cases hq : q = S.gates <;> simp [hI_I, hq]
  have hlk : ∀ q, sLock T q = if q = S.gates then y else sLock S q := fun q => by
    unfold sLock
    rw [t4]
    by_cases hq : q = S.gates <;> simp [hI_I, hq]
  have ht := H.t.fr F (by decide) (by decide) (by decide) (by decide)
  have hstt : stt T = stt S := hm 8731 (by decide) (by decide)
  refine ⟨H.k.fr F (by decide) (by decide) (by decide) (by decide), ⟨fun q hq => ?_, fun q hq => ?_, fun q hq => ?_, fun q hq => ?_, fun q hq => ?_, fun q hq => ?_, fun q hq => ?_⟩, ⟨?_, ?_, ?_, ?_, ?_, ?_, ?_, ?_, ?_⟩, (H.c.fr F (by decide) (by decide) (by decide) (by decide)).sc (by rw [hB]) (by rw [hB]) (hm 8749 (by decide) (by decide)) t7 t12, ⟨fun q hq => ?_, fun q hq => ?_, fun q z h1 h2 h3 h4 => ?_⟩, by rw [hstt]; exact H.q.fr F (by decide) (by decide) (by decide) (by decide), by rw [t9]; exact H.o.fr F (by decide) (by decide) (by decide) (by decide), t5.trans H.rd, t8.trans H.mo, t11.trans H.sn, by rw [t7]; exact H.v.fr F (by decide) (by decide) (by decide) (by decide), by rw [t2, t12]; exact H.a.imp id (fun h => h.fr F (by decide) (by decide) (by decide) (by decide))⟩
  · rw [hB]; exact ht.al q hq
  · rw [hm 8731 (by decide) (by decide)]; exact ht.st q hq
  · rw [hm 8733 (by decide) (by decide)]; exact ht.at q hq
  · rw [hL]; exact ht.re q hq
  · rw [hB]; exact ht.fl q hq
  · rw [hm 8739 (by decide) (by decide)]; exact ht.ca q hq
  · rw [hB]; exact ht.br q hq
  · rw [F.R 6 (by decide), t1]; exact H.s.ru
  · rw [F.B 8 (by decide), t2]; exact H.s.ov
  · rw [F.L 10 (by decide), t3]; exact H.s.nw
  · rw [F.I 2 (by decide), hB]; exact H.s.tc
  · rw [F.I 20 (by decide), hB]; exact H.s.cc
  · rw [F.I 22 (by decide), t6]; exact H.s.ro
  · rw [b3, t10]
  · rw [F.I 14 (by decide), t13]; exact H.s.ac
  · rw [F.I 28 (by decide), t9]; exact H.s.to
  · show _ = sKind T q
    rw [b1, hk]
    by_cases hqg : q = S.gates
    · rw [if_pos hqg, if_pos (by omega)]
    · rw [if_neg hqg, if_neg (by omega)]; exact H.g.ki q hq
  · rw [hm 8773 (by decide) (by decide), F.I 608 (by decide)]; exact H.g.ta q hq
  · rw [t10] at h1
    rw [hk] at h2
    rw [hlk] at h3
    rw [b2]
    by_cases hqg : q = S.gates
    · rw [if_pos hqg] at h2 h3
      rw [if_pos (by omega)]
      obtain ⟨l, l1, l2, l3⟩ := hi h2
      rw [l2] at h3
      have := i32_inj (by omega) (by omega) h3
      rw [l3, this]
    · rw [if_neg hqg] at h2 h3
      rw [if_neg (by omega)]
      exact H.g.lo q z (by omega) h2 h3 h4
theorem K_gate (H : CR w S n) (I : SI S n) (J : SJ S n) (hn : n < 512) (r : rmOK w) : ∃ w', kx_ev wx_M (d + 8) 63 [kx_r 0 (some 1), kx_i x, kx_i y] w = some (if (pGate S x y).1.th = 0 then .inl (some (.inl (pGate S x y).2)) else .inr (e3 (pGate S x y).1.th), w') ∧ CR w' (pGate S x y).1 n ∧ FB w w' := by
  have hgl := I.gl
  have ga := K_gaAt (d := d + 6) (x := y) H hgl
  have th0 : ∀ e l, kx_thd kx_cc kx_cs (d + 7) e l [] w = some (.inr e, hp_bump w 1 6) := fun e l => thd_ok (by omega) r.1 r.2
  have gc := H.s.gc
  have fin : ∀ its, (x = 3 → ∃ l, l < 256 ∧ y = i32 l ∧ its = some (2571 + 3 * l)) → ¬ x < 0 → ¬ 4 < x → ∀ F, ∃ w', kx_ex (wm_63 (d + 7) (kx_ev wx_M (d + 7))) (F + 1) 36 [(0, kx_r 0 (some 1)), (1, kx_i x), (3, kx_r 3 its)] [kx_i 0] w = some (if (if S.gates = 256 then (sTh S 2, (0 : Int32)) else ((kS.s_gates ((kS.s_m ((kS.s_th S (0))) (hp_sI (hp_sI (hp_sI S.m 8771 S.gates x) 8775 S.gates y) 8773 S.gates 0))) (S.gates + 1)), i32 S.gates)).1.th = 0 then .inl (some (.inl (if S.gates = 256 then (sTh S 2, (0 : Int32)) else ((kS.s_gates ((kS.s_m ((kS.s_th S (0))) (hp_sI (hp_sI (hp_sI S.m 8771 S.gates x) 8775 S.gates y) 8773 S.gates 0))) (S.gates + 1)), i32 S.gates)).2)) else .inr (e3 (if S.gates = 256 then (sTh S 2, (0 : Int32)) else ((kS.s_gates ((kS.s_m ((kS.s_th S (0))) (hp_sI (hp_sI (hp_sI S.m 8771 S.gates x) 8775 S.gates y) 8773 S.gates 0))) (S.gates + 1)), i32 S.gates)).1.th), w') ∧ CR w' (if S.gates = 256 then (sTh S 2, (0 : Int32)) else ((kS.s_gates ((kS.s_m ((kS.s_th S (0))) (hp_sI (hp_sI (hp_sI S.m 8771 S.gates x) 8775 S.gates y) 8773 S.gates 0))) (S.gates + 1)), i32 S.gates)).1 n ∧ FB w w' := by
    intro its hi h1 h2 F
    rw [me_63_36]
    unfold mb_63_36
    rw [if_neg h1, if_neg h2, if_pos rfl]
    simp only [ob_s, gc, th0]
    by_cases hz : S.gates = 256
    · rw [if_pos hz]
      refine ⟨_, ?_, (H.th 2).bump 1 6, FC.rf.bm⟩
      rw [hz, if_neg (show ¬ i32 256 < 256 by decide)]
      rfl
    · rw [if_neg hz]
      have hlt : S.gates < 256 := by omega
      have hkk : (256 ≤ S.gates) = False := by simp; omega
      rw [if_pos (show i32 S.gates < 256 by rw [show (256 : Int32) = i32 256 from rfl, i32_lt (by omega) (by omega)]; exact hlt)]
      obtain ⟨Q, fp, tp, V, fv, A, ft, HX⟩ := id H
      have k600 := (H.k.g S.gates hlt).2.1
      have FF : FR [606, 34] [] [610] [] w (hp_sI (hp_sR (hp_sI w 606 (2571 + 3 * S.gates) x) 610 (2571 + 3 * S.gates) its) 34 1 (i32 (S.gates + 1))) := FR.sI (by decide) (FR.sR (by decide) (FR.sI (by decide) FR.rf))
      refine ⟨_, ?_, CX.cr (C_gt (x := x) (y := y) (its := its) HX hlt (J.hz S.gates (Nat.le_refl _) hlt) hi FF ?_ ?_ ?_ _ rfl rfl rfl rfl rfl rfl rfl rfl rfl rfl rfl rfl rfl), (FC.of FF (by decide) (by decide) (by decide) (by decide)).fb⟩
      · simp only [H.k.d.2.2.2.2.2.2, ob_s, H.k.n.2.2.2, i32_nat (n := S.gates) (by omega), i32_neg (n := S.gates) (by omega), hkk, or_self, if_false, (H.k.g S.gates hlt).1, hI_I, hI_L, hI_R, hI_B, hI_b, hL_I, hL_L, hL_R, hL_B, hL_b, hR_I, hR_L, hR_R, hR_B, hR_b, hB_I, hB_L, hB_R, hB_B, hB_b, hN_I, hN_L, hN_R, hN_B, hN_b, hT_I, hT_L, hT_R, hT_B, hT_b, hX_I, hX_L, hX_R, hX_B, hX_b, hC_I, hC_L, hC_R, hC_B, hC_b, hU_I, hU_L, hU_R, hU_B, hU_b, Nat.reduceEqDiff, Nat.reduceMul, Nat.reduceAdd, false_and, gc, i32_add1, k600, if_true]
      · intro q; by_cases hq : q = 2571 + 3 * S.gates <;> simp [hI_I, hI_L, hI_R, hI_B, hI_b, hL_I, hL_L, hL_R, hL_B, hL_b, hR_I, hR_L, hR_R, hR_B, hR_b, hB_I, hB_L, hB_R, hB_B, hB_b, hN_I, hN_L, hN_R, hN_B, hN_b, hT_I, hT_L, hT_R, hT_B, hT_b, hX_I, hX_L, hX_R, hX_B, hX_b, hC_I, hC_L, hC_R, hC_B, hC_b, hU_I, hU_L, hU_R, hU_B, hU_b, hq]
      · intro q; by_cases hq : q = 2571 + 3 * S.gates <;> simp [hI_I, hI_L, hI_R, hI_B, hI_b, hL_I, hL_L, hL_R, hL_B, hL_b, hR_I, hR_L, hR_R, hR_B, hR_b, hB_I, hB_L, hB_R, hB_B, hB_b, hN_I, hN_L, hN_R, hN_B, hN_b, hT_I, hT_L, hT_R, hT_B, hT_b, hX_I, hX_L, hX_R, hX_B, hX_b, hC_I, hC_L, hC_R, hC_B, hC_b, hU_I, hU_L, hU_R, hU_B, hU_b, hq]
      · simp [hI_I, hI_L, hI_R, hI_B, hI_b, hL_I, hL_L, hL_R, hL_B, hL_b, hR_I, hR_L, hR_R, hR_B, hR_b, hB_I, hB_L, hB_R, hB_B, hB_b, hN_I, hN_L, hN_R, hN_B, hN_b, hT_I, hT_L, hT_R, hT_B, hT_b, hX_I, hX_L, hX_R, hX_B, hX_b, hC_I, hC_L, hC_R, hC_B, hC_b, hU_I, hU_L, hU_R, hU_B, hU_b]
  have bad : ∃ w', (some (.inr 1, hp_bump w 1 6) : kx_O) = some (if ((sTh S 1, (0 : Int32)) : kS × Int32).1.th = 0 then .inl (some (.inl 0)) else .inr (e3 ((sTh S 1, (0 : Int32)) : kS × Int32).1.th), w') ∧ CR w' ((sTh S 1, (0 : Int32)) : kS × Int32).1 n ∧ FB w w' := ⟨_, rfl, (H.th 1).bump 1 6, FC.rf.bm⟩
  obtain ⟨ψ, hψ⟩ := kx_fu
  rw [mE_63 hψ]
  unfold mb_63_0
  unfold pGate
  by_cases h3 : x = 3
  · rw [if_pos h3]
    simp only [ob_s, ga, br_n, me_63_14, mb_63_14]
    rw [if_pos h3]
    unfold gaR
    cases hi : isGa S y with
    | false =>
      simp only [eq_self, reduceCtorEq, if_true, if_false, me_63_31, mb_63_31]
      rw [if_pos (show x < 0 ∨ 4 < x ∨ x = 3 ∧ (True ∨ sKind S y.toNatClampNeg ≠ 0) from Or.inr (Or.inr ⟨h3, Or.inl trivial⟩)), me_63_36]
      unfold mb_63_36
      simp only [me_63_52, mb_63_52, th0]
      subst h3
      rw [if_neg (by decide), if_neg (by decide), if_neg (by decide)]
      exact bad
    | true =>
      obtain ⟨k, k1, rfl⟩ := isGa_t hgl hi
      have hnat := i32_nat (n := k) (by omega)
      have ki : hp_I w 606 (2571 + 3 * k) = sKind S k := H.g.ki k (by omega)
      simp only [if_true, hnat, reduceCtorEq, if_false, ob_s, ki, me_63_31, mb_63_31, me_63_35, mb_63_35, false_or]
      by_cases hk : sKind S k = 0
      · rw [if_pos hk, if_neg (show ¬ (x < 0 ∨ 4 < x ∨ x = 3 ∧ sKind S k ≠ 0) by rw [h3, hk]; decide)]
        exact fin (some (2571 + 3 * k)) (fun _ => ⟨k, by omega, rfl, rfl⟩) (by rw [h3]; decide) (by rw [h3]; decide) _
      · rw [if_neg hk, if_pos (show x < 0 ∨ 4 < x ∨ x = 3 ∧ sKind S k ≠ 0 from Or.inr (Or.inr ⟨h3, hk⟩)), me_63_36]
        unfold mb_63_36
        simp only [me_63_52, mb_63_52, th0]
        subst h3
        rw [if_neg (by decide), if_neg (by decide), if_neg (by decide)]
        exact bad
  · rw [if_neg h3]
    simp only [me_63_14, mb_63_14]
    rw [if_neg h3]
    simp only [me_63_35, mb_63_35]
    by_cases h1 : x < 0
    · rw [if_pos (show x < 0 ∨ 4 < x ∨ x = 3 ∧ (isGa S y = false ∨ sKind S y.toNatClampNeg ≠ 0) from Or.inl h1), me_63_36]
      unfold mb_63_36
      simp only [me_63_52, mb_63_52, th0]
      rw [if_pos h1]
      exact bad
    · by_cases h2 : 4 < x
      · rw [if_pos (show x < 0 ∨ 4 < x ∨ x = 3 ∧ (isGa S y = false ∨ sKind S y.toNatClampNeg ≠ 0) from Or.inr (Or.inl h2)), me_63_36]
        unfold mb_63_36
        simp only [me_63_52, mb_63_52, th0]
        rw [if_neg h1, if_pos h2]
        exact bad
      · rw [if_neg (show ¬ (x < 0 ∨ 4 < x ∨ x = 3 ∧ (isGa S y = false ∨ sKind S y.toNatClampNeg ≠ 0)) by simp [h1, h2, h3])]
        exact fin none (fun h => absurd h h3) h1 h2 _
/-- the gate of a call, and who calls -/
theorem K_read (H : CR w S n) (I : SI S n) (J : SJ S n) (hn : n < 512) (r : rmOK w) : ∃ w', kx_ev wx_M (d + 8) 71 [kx_r 0 (some 1), kx_i x] w = some (if (pRead S x).1.th = 0 then .inl (some (.inl (kx_b (pRead S x).2))) else .inr (e3 (pRead S x).1.th), w') ∧ CR w' (pRead S x).1 n ∧ FB w w' := by
  have hl1 := I.l.1
  have hgl := I.gl
  have mb := K_mbGa (d := d + 5) (x := x) H hgl r (by omega)
  have mc := K_cur (d := d + 6) H r (by omega)
  have th0 : ∀ e l, kx_thd kx_cc kx_cs (d + 7) e l [] w = some (.inr e, hp_bump w 1 6) := fun e l => thd_ok (by omega) r.1 r.2
  obtain ⟨ψ, hψ⟩ := kx_fu
  rw [mE_71 hψ]
  unfold mb_71_0
  unfold pRead
  cases hi : isGa S x with
  | false =>
    rw [hi, if_pos rfl] at mb
    rw [if_pos (show false = false ∨ sKind S x.toNatClampNeg ≠ 1 from Or.inl rfl)]
    refine ⟨_, ?_, (H.th 1).bump 1 6, FC.rf.bm⟩
    simp only [ob_s, mb, br_e]
    rfl
  | true =>
    rw [hi, if_neg (by decide)] at mb
    obtain ⟨q, q1, rfl⟩ := isGa_t hgl hi
    have hnat := i32_nat (n := q) (by omega)
    rw [hnat] at mb ⊢
    have ki : hp_I w 606 (2571 + 3 * q) = sKind S q := H.g.ki q (by omega)
    have ta : hp_I w 608 (2571 + 3 * q) = sHeld S q := H.g.ta q (by omega)
    by_cases hk : sKind S q = 1
    · rw [if_neg (show ¬ (true = false ∨ sKind S q ≠ 1) by simp [hk])]
      simp only [ob_s, mb, br_n, ki, if_pos hk]
      rcases cur_or S with hc | ⟨t, hc⟩
      · rw [hc] at mc
        have mc' : kx_ev wx_M (d + 7) 24 [kx_r 0 (some 1)] w = some (.inr 0, hp_bump w 1 6) := mc
        rw [hc]
        refine ⟨_, ?_, (H.th 2).bump 1 6, FC.rf.bm⟩
        simp only [mc', br_e]
        rfl
      · have ht := I.b.cu t hc
        have h0 := I.cs t hc
        have hst : S.std ≠ 1 := by rw [J.sd t hc]; decide
        rw [hc] at mc
        have mc' : kx_ev wx_M (d + 7) 24 [kx_r 0 (some 1)] w = some (.inl (some (.inr (.inr (6, some (524 + 2 * t))))), w) := mc
        have hhk := (J.hk q q1).2.1 hk
        have k604 := (H.k.g q (by omega)).2.2.2
        have k602 := (H.k.g q (by omega)).2.2.1
        have k600 := (H.k.g q (by omega)).2.1
        have BR := SB.rest (how := 6) (place := i32 q) I.b (I.b.nin0 h0) ht [] [] [(t, q, true)] (by simp) (Or.inl rfl) (Or.inr ⟨q, true, rfl, by omega, rfl⟩)
        simp only [List.append_nil] at BR
        obtain ⟨w1, w2, a1, a2, H2, F2⟩ := K_rest (d := d) (l := some (.inr (q, true))) (st := 6) (x := i32 q) (val := 0) (S := sTh S 0) (H.th 0) hst ht h0 (show q < 256 by omega) rfl (fun h => by cases h) (by rw [sAdd_ga]; exact BR.of BR.cu (fun _ _ => rfl) (List.Sublist.refl _) (List.Sublist.refl _) (List.Sublist.refl _) (List.Sublist.refl _)) I.a (by show S.mv.length + S.me.length ≤ 512; omega)
        rw [sAdd_ga] at H2
        have a1' : kx_ev wx_M (d + 7) 27 [kx_r 6 (some (524 + 2 * t)), kx_r 5 (some (2573 + 3 * q)), kx_i 6, kx_i (i32 q)] w = some (.inl none, w1) := a1
        have wait : ∃ w', (some (.inl (some (.inl (0 : Int32))), w2) : kx_O) = some (if (sPass (sTh S 0) t false q true true).1.th = 0 then .inl (some (.inl (kx_b (sPass (sTh S 0) t false q true true).2))) else .inr (e3 (sPass (sTh S 0) t false q true true).1.th), w') ∧ CR w' (sPass (sTh S 0) t false q true true).1 n ∧ FB w w' := by
          unfold sPass
          rw [if_neg (show ¬ false = true by simp)]
          refine ⟨w2, ?_, H2, F2.fb⟩
          have hth : (sRest ((sTh S 0).s_sn ((sTh S 0).sn ++ [(t, q, true)])) t 6 (i32 q), false).1.th = 0 := next_th _
          rw [if_pos hth]
          rfl
        simp only [hc, mc', br_n, ob_s, ta, k602, me_71_68, mb_71_68, k604, k600, a1', bv_n, a2]
        by_cases hneg : sHeld S q = -1
        · rw [if_pos hneg, if_neg (show ¬ (0 ≤ sHeld S q ∧ sStg S q 0 = none) by rw [hneg]; exact fun h => absurd h.1 (by decide))]
          exact wait
        · have hge : 0 ≤ sHeld S q := by
            rcases hhk with h | ⟨j, hj, h⟩
            · exact absurd h hneg
            · rw [h, i32_ge (by omega)]; trivial
          rw [if_neg hneg]
          cases hs : sStg S q 0 with
          | some e =>
            obtain ⟨p, h1, -, -⟩ := C_lets (d := d) (how := 0) H (show q < 256 by omega) (Or.inl rfl) hs
            have h1' : hp_R w 1000 (2572 + 3 * q) = some p := h1
            rw [if_neg (show ¬ (0 ≤ sHeld S q ∧ some e = none) by simp)]
            simp only [h1', reduceCtorEq, if_false]
            exact wait
          | none =>
            have h1 : hp_R w 1000 (2572 + 3 * q) = none := C_noneG (how := 0) H (show q < 256 by omega) (Or.inl rfl) hs
            rw [if_pos (show 0 ≤ sHeld S q ∧ (none : Option kMs) = none from ⟨hge, rfl⟩)]
            obtain ⟨H3, F3⟩ := CR_held (H.th 0) (show q < 256 by omega) (sHeld S q + 1)
            obtain ⟨Q3, fp3, tp3, V3, fv3, A3, ft3, HX3⟩ := H3
            obtain ⟨w4, a4, H4, F4⟩ := C_tell (d := d + 6) (t := t) (v := 0) (f := true) (x := -1) (b := false) HX3 ht
            rw [kx_b_t, kx_b_f] at a4
            unfold sPass
            rw [if_pos rfl]
            refine ⟨w4, ?_, H4.cr, (F3.tr (FC.of F4 (by decide) (by decide) (by decide) (by decide))).fb⟩
            simp only [h1, if_true, a4, bv_n]
            rfl
    · rw [if_pos (show true = false ∨ sKind S q ≠ 1 from Or.inr hk)]
      refine ⟨_, ?_, (H.th 1).bump 1 6, FC.rf.bm⟩
      simp only [ob_s, mb, br_n, ki, if_neg hk, th0]
      rfl
end CGK
