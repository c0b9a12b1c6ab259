/-! the class's calls: channel, release -/
section REL
variable {w w' : kx_H} {S S' : kS} {t g n d c : Nat} {x : Int32} {v val : Int64} {f b : Bool} {Q : List kQ} {fp tp fv ft : List Nat} {V : List (Nat × Int64 × Nat)} {A : List (Nat × kMe)} {l : kLoc}
theorem C_chT (H : CX w S n Q fp tp V fv A ft) (F : FR [20, 22, 410] [] [] [406, 408] w w') (T : kS) (t1 : T.cur = S.cur) (t2 : T.std = S.std) (t3 : T.clk = S.clk) (t5 : T.rd = S.rd) (t7 : T.mv = S.mv) (t8 : T.mo = S.mo) (t9 : T.mt = S.mt) (t10 : T.gates = S.gates) (t11 : T.sn = S.sn) (t12 : T.me = S.me) (t13 : T.al = S.al)
    (mB : ∀ k, k ≠ 8745 → k ≠ 8747 → hp_B T.m k = hp_B S.m k) (mI : ∀ k, k ≠ 8749 → hp_I T.m k = hp_I S.m k) (mL : hp_L T.m = hp_L S.m)
    (b1 : ∀ j, j < 512 → hp_B w' 406 (1035 + 3 * j) = hp_B T.m 8745 j) (b2 : ∀ j, j < 512 → hp_B w' 408 (1035 + 3 * j) = hp_B T.m 8747 j) (b3 : ∀ j, j < 512 → hp_I w' 410 (1035 + 3 * j) = hp_I T.m 8749 j) (b4 : hp_B w' 408 518 = false) (b5 : hp_I w' 410 518 = 0) (b6 : hp_I w' 20 1 = i32 ((List.range 512).countP (fun c => hp_B T.m 8745 c))) (b7 : hp_I w' 22 1 = T.rooms) : CX w' T n Q fp tp V fv A ft := by
  have hcnt : ∀ j, sCnt T j = sCnt S j := fun j => by unfold sCnt; rw [t7]
  have hstt : stt T = stt S := by funext j; unfold stt; rw [mI _ (by decide)]
  refine ⟨H.k.fr F (by decide) (by decide) (by decide) (by decide), ?_, ?_, ?_, (H.g.fr F (by decide) (by decide) (by decide) (by decide)).sc (mI _ (by decide)) (mI _ (by decide)) (mI _ (by decide)) t10, by rw [hstt]; exact H.q.fr F (by decide) (by decide) (by decide) (by decide), by rw [t9]; exact H.o.fr F (by decide) (by decide) (by decide) (by decide), t5.trans H.rd, t8.trans H.mo, t11.trans H.sn, by rw [t7]; exact H.v.fr F (by decide) (by decide) (by decide) (by decide), by rw [t2, t12]; exact H.a.imp id (fun h => h.fr F (by decide) (by decide) (by decide) (by decide))⟩
  · have h := H.t.fr F (by decide) (by decide) (by decide) (by decide)
    refine ⟨fun q hq => ?_, fun q hq => ?_, fun q hq => ?_, fun q hq => ?_, fun q hq => ?_, fun q hq => ?_, fun q hq => ?_⟩
    · rw [mB _ (by decide) (by decide)]; exact h.al q hq
    · rw [mI _ (by decide)]; exact h.st q hq
    · rw [mI _ (by decide)]; exact h.at q hq
    · rw [mL]; exact h.re q hq
    · rw [mB _ (by decide) (by decide)]; exact h.fl q hq
    · rw [mI _ (by decide)]; exact h.ca q hq
    · rw [mB _ (by decide) (by decide)]; exact h.br q hq
  · refine ⟨?_, ?_, ?_, ?_, b6, b7, ?_, ?_, ?_⟩
    · rw [F.R 6 (by decide), t1]; exact H.s.ru
    · rw [F.B 8 (by decide), t2]; exact H.s.ov
    · rw [F.L 10 (by decide), t3]; exact H.s.nw
    · rw [F.I 2 (by decide), mB _ (by decide) (by decide)]; exact H.s.tc
    · rw [F.I 34 (by decide), t10]; exact H.s.gc
    · rw [F.I 14 (by decide), t13]; exact H.s.ac
    · rw [F.I 28 (by decide), t9]; exact H.s.to
  · refine ⟨b1, b2, b3, fun j hj => ?_, fun j hj => ?_, b4, b5, ?_⟩
    · rw [F.I 412 (by decide), hcnt]; exact H.c.he j hj
    · rw [F.I 414 (by decide), t12]; exact H.c.al j hj
    · rw [F.I 412 (by decide)]; exact H.c.nw.2.2
theorem K_ffc {C : kx_C} (H : CR w S n) : ∀ k j F, j + k = 512 → k + 1 ≤ F → (∀ i, i < j → hp_B S.m 8745 i = true) →
    kx_ex (wm_46 d C) F 2 [(0, kx_r 0 (some 1)), (1, kx_i (i32 j))] [] w = some (.inl (some (.inr (.inr (2, ((List.range 512).find? (fun t => !hp_B S.m 8745 t)).map (fun t => 1035 + 3 * t))))), w) := by
  intro k
  induction k with
  | zero =>
    intro j F hj hF hp
    obtain ⟨F, rfl⟩ : ∃ f', F = f' + 1 := ⟨F - 1, by omega⟩
    obtain rfl : j = 512 := by omega
    rw [me_46_2, fr_none (fun i hi => by simp [hp i hi])]
    unfold mb_46_2
    rw [if_pos (show (512 : Int32) ≤ i32 512 by decide)]
    rfl
  | succ k ih =>
    intro j F hj hF hp
    obtain ⟨F, rfl⟩ : ∃ f', F = f' + 1 := ⟨F - 1, by omega⟩
    have hj2 : j < 512 := by omega
    have hkk : (512 ≤ j) = False := by simp; omega
    rw [me_46_2]
    unfold mb_46_2
    rw [if_neg (show ¬ (512 : Int32) ≤ i32 j by rw [show (512 : Int32) = i32 512 from rfl, i32_le (by omega) (by omega)]; omega)]
    simp only [ob_s, H.k.d.2.2.2.1, H.k.n.2.1, i32_nat (n := j) (by omega), i32_neg (n := j) (by omega), hkk, or_self, if_false, (H.k.c j hj2).1, H.c.th j hj2, kx_b_0, i32_add1]
    by_cases h : hp_B S.m 8745 j = false
    · rw [if_pos h, fr_some (j := j) (fun i hi => by simp [hp i hi]) hj2 (by simp [h])]
      rfl
    · rw [if_neg h]
      exact ih (j + 1) F (by omega) (by omega) (fun i hi => by
        by_cases hij : i = j
        · subst hij; simpa using h
        · exact hp i (by omega))
theorem room_cmp {x y : Int32} (hx : 0 ≤ x.toInt) (hx2 : x.toInt ≤ 8192) (hy : -8192 * 512 ≤ y.toInt) (hy2 : y.toInt ≤ 8192) : (x ≤ 8192 - y) = (¬ 8192 < y + x) := by
  have e1 : (8192 - y : Int32).toInt = 8192 - y.toInt := by
    rw [Int32.toInt_sub]
    show Int.bmod (8192 - y.toInt) (2 ^ 32) = _
    exact Int.bmod_eq_of_le (by omega) (by omega)
  have e2 : (y + x : Int32).toInt = y.toInt + x.toInt := by
    rw [Int32.toInt_add]
    exact Int.bmod_eq_of_le (by omega) (by omega)
  rw [Int32.le_iff_toInt_le, Int32.lt_iff_toInt_lt, e1, e2]
  show (_ ≤ _) = ¬ ((8192 : Int) < _)
  apply propext
  omega
theorem K_channel (H : CR w S n) (I : SI S n) (J : SJ S n) (hn : n < 512) (r : rmOK w) : ∃ w', kx_ev wx_M (d + 8) 45 [kx_r 0 (some 1), kx_i x] w = some (if (pChannel S x).1.th = 0 then .inl (some (.inl (pChannel S x).2)) else .inr (e3 (pChannel S x).1.th), w') ∧ CR w' (pChannel S x).1 n ∧ FB w w' := by
  have th1 := thd_ok (d := d + 7) (e := 1) (l := []) (w := w) (by omega) r.1 r.2
  have th0 := thd_ok (d := d + 7) (e := 0) (l := []) (w := w) (by omega) r.1 r.2
  obtain ⟨φ, hφ⟩ := kx_fl 1000 (by omega)
  have aff : kx_ev wx_M (d + 7) 46 [kx_r 0 (some 1)] w = some (.inl (some (.inr (.inr (2, ((List.range 512).find? (fun t => !hp_B S.m 8745 t)).map (fun t => 1035 + 3 * t))))), w) := by
    rw [mE_46 hφ]
    unfold mb_46_0
    exact K_ffc H 512 0 (φ + 1000) (by omega) (by omega) (fun i hi => by omega)
  unfold pChannel
  obtain ⟨ψ, hψ⟩ := kx_fu
  rw [mE_45 hψ]
  unfold mb_45_0
  simp only [me_45_11, mb_45_11, me_45_42, mb_45_42, th1]
  by_cases h1 : x < 0
  · rw [if_pos h1, if_pos (Or.inl h1)]
    exact ⟨_, rfl, (H.th 1).bump 1 6, FC.rf.bm⟩
  · rw [if_neg h1]
    by_cases h2 : 8192 < x
    · rw [if_neg (show ¬ x ≤ 8192 by rw [nle_lt]; exact h2), if_pos (Or.inr h2)]
      exact ⟨_, rfl, (H.th 1).bump 1 6, FC.rf.bm⟩
    · rw [if_pos (show x ≤ 8192 by rw [← nlt_le]; exact h2), if_neg (show ¬ (x < 0 ∨ 8192 < x) by simp [h1, h2])]
      simp only [ob_s, aff, br_n, th0]
      cases hf : (List.range 512).find? (fun t => !hp_B S.m 8745 t) with
      | none =>
        simp only [Option.map_none, if_true]
        exact ⟨_, rfl, (H.th 2).bump 1 6, FC.rf.bm⟩
      | some c =>
        have hcc : c < 512 := List.mem_range.mp (List.mem_of_find?_eq_some hf)
        have hcf : hp_B S.m 8745 c = false := by
          have := List.find?_some hf
          simpa using this
        have hx0 : 0 ≤ x.toInt := by
          rw [Int32.lt_iff_toInt_lt] at h1
          have : ¬ x.toInt < 0 := h1
          omega
        have hx1 : x.toInt ≤ 8192 := by
          rw [Int32.lt_iff_toInt_lt] at h2
          have : ¬ (8192 : Int) < x.toInt := h2
          omega
        have rb := J.rb
        have hro := H.s.ro
        simp only [Option.map_some, reduceCtorEq, if_false, hro, room_cmp hx0 hx1 (y := S.rooms) (by omega) rb.2]
        by_cases h8 : 8192 < S.rooms + x
        · simp only [h8, not_true, if_true, if_false]
          exact ⟨_, rfl, (H.th 2).bump 1 6, FC.rf.bm⟩
        · simp only [h8, not_false_eq_true, if_true, if_false]
          have F : FR [20, 22, 410] [] [] [406, 408] w (hp_sI (hp_sI (hp_sI (hp_sB (hp_sB w 406 (1035 + 3 * c) true) 408 (1035 + 3 * c) false) 410 (1035 + 3 * c) x) 20 1 (i32 ((List.range 512).countP (fun q => hp_B S.m 8745 q) + 1))) 22 1 (S.rooms + x)) := FR.sI (by decide) (FR.sI (by decide) (FR.sI (by decide) (FR.sB (by decide) (FR.sB (by decide) FR.rf))))
          obtain ⟨Q, fp, tp, V, fv, A, ft, HX⟩ := id H
          refine ⟨_, ?_, CX.cr (C_chT HX F _ rfl rfl rfl rfl rfl rfl rfl rfl rfl rfl rfl ?_ ?_ rfl ?_ ?_ ?_ ?_ ?_ ?_ ?_), (FC.of F (by decide) (by decide) (by decide) (by decide)).fb⟩
          · have e20 : hp_I w 20 1 = i32 ((List.range 512).countP (fun q => hp_B S.m 8745 q)) := H.s.cc
            have e22 : hp_I w 22 1 = S.rooms := H.s.ro
            have e400 : hp_I w 400 (1035 + 3 * c) = i32 c := (H.k.c c hcc).2.1
            simp only [ob_s, kx_sb_1, kx_sb_0, hI_I, hI_L, hI_R, hI_B, hI_b, hL_I, hL_L, hL_R, hL_B, hL_b, hR_I, hR_L, hR_R, hR_B, hR_b, hB_I, hB_L, hB_R, hB_B, hB_b, hN_I, hN_L, hN_R, hN_B, hN_b, hT_I, hT_L, hT_R, hT_B, hT_b, hX_I, hX_L, hX_R, hX_B, hX_b, hC_I, hC_L, hC_R, hC_B, hC_b, hU_I, hU_L, hU_R, hU_B, hU_b, Nat.reduceEqDiff, false_and, if_false, e20, i32_add1, e22, e400]
            try rfl
          · intro k hk1 hk2
            show hp_B (hp_sI (hp_sB (hp_sB S.m 8745 c true) 8747 c false) 8749 c x) k = _
            funext j
            simp [hI_I, hI_L, hI_R, hI_B, hI_b, hL_I, hL_L, hL_R, hL_B, hL_b, hR_I, hR_L, hR_R, hR_B, hR_b, hB_I, hB_L, hB_R, hB_B, hB_b, hN_I, hN_L, hN_R, hN_B, hN_b, hT_I, hT_L, hT_R, hT_B, hT_b, hX_I, hX_L, hX_R, hX_B, hX_b, hC_I, hC_L, hC_R, hC_B, hC_b, hU_I, hU_L, hU_R, hU_B, hU_b, hk1, hk2]
          · intro k hk1
            show hp_I (hp_sI (hp_sB (hp_sB S.m 8745 c true) 8747 c false) 8749 c x) k = _
            funext j
            simp [hI_I, hI_L, hI_R, hI_B, hI_b, hL_I, hL_L, hL_R, hL_B, hL_b, hR_I, hR_L, hR_R, hR_B, hR_b, hB_I, hB_L, hB_R, hB_B, hB_b, hN_I, hN_L, hN_R, hN_B, hN_b, hT_I, hT_L, hT_R, hT_B, hT_b, hX_I, hX_L, hX_R, hX_B, hX_b, hC_I, hC_L, hC_R, hC_B, hC_b, hU_I, hU_L, hU_R, hU_B, hU_b, hk1]
          · intro j hj
            have h5 := H.c.th j hj
            show _ = hp_B (hp_sI (hp_sB (hp_sB S.m 8745 c true) 8747 c false) 8749 c x) 8745 j
            by_cases hjc : j = c
            · subst hjc; simp [hI_I, hI_L, hI_R, hI_B, hI_b, hL_I, hL_L, hL_R, hL_B, hL_b, hR_I, hR_L, hR_R, hR_B, hR_b, hB_I, hB_L, hB_R, hB_B, hB_b, hN_I, hN_L, hN_R, hN_B, hN_b, hT_I, hT_L, hT_R, hT_B, hT_b, hX_I, hX_L, hX_R, hX_B, hX_b, hC_I, hC_L, hC_R, hC_B, hC_b, hU_I, hU_L, hU_R, hU_B, hU_b]
            · have h9 : ¬ 3 * j = 3 * c := by omega
              simp [hI_I, hI_L, hI_R, hI_B, hI_b, hL_I, hL_L, hL_R, hL_B, hL_b, hR_I, hR_L, hR_R, hR_B, hR_b, hB_I, hB_L, hB_R, hB_B, hB_b, hN_I, hN_L, hN_R, hN_B, hN_b, hT_I, hT_L, hT_R, hT_B, hT_b, hX_I, hX_L, hX_R, hX_B, hX_b, hC_I, hC_L, hC_R, hC_B, hC_b, hU_I, hU_L, hU_R, hU_B, hU_b, hjc, h9]; exact h5
          · intro j hj
            have h5 := H.c.cl j hj
            show _ = hp_B (hp_sI (hp_sB (hp_sB S.m 8745 c true) 8747 c false) 8749 c x) 8747 j
            by_cases hjc : j = c
            · subst hjc; simp [hI_I, hI_L, hI_R, hI_B, hI_b, hL_I, hL_L, hL_R, hL_B, hL_b, hR_I, hR_L, hR_R, hR_B, hR_b, hB_I, hB_L, hB_R, hB_B, hB_b, hN_I, hN_L, hN_R, hN_B, hN_b, hT_I, hT_L, hT_R, hT_B, hT_b, hX_I, hX_L, hX_R, hX_B, hX_b, hC_I, hC_L, hC_R, hC_B, hC_b, hU_I, hU_L, hU_R, hU_B, hU_b]
            · have h9 : ¬ 3 * j = 3 * c := by omega
              simp [hI_I, hI_L, hI_R, hI_B, hI_b, hL_I, hL_L, hL_R, hL_B, hL_b, hR_I, hR_L, hR_R, hR_B, hR_b, hB_I, hB_L, hB_R, hB_B, hB_b, hN_I, hN_L, hN_R, hN_B, hN_b, hT_I, hT_L, hT_R, hT_B, hT_b, hX_I, hX_L, hX_R, hX_B, hX_b, hC_I, hC_L, hC_R, hC_B, hC_b, hU_I, hU_L, hU_R, hU_B, hU_b, hjc, h9]; exact h5
          · intro j hj
            have h5 := H.c.ro j hj
            show _ = hp_I (hp_sI (hp_sB (hp_sB S.m 8745 c true) 8747 c false) 8749 c x) 8749 j
            by_cases hjc : j = c
            · subst hjc; simp [hI_I, hI_L, hI_R, hI_B, hI_b, hL_I, hL_L, hL_R, hL_B, hL_b, hR_I, hR_L, hR_R, hR_B, hR_b, hB_I, hB_L, hB_R, hB_B, hB_b, hN_I, hN_L, hN_R, hN_B, hN_b, hT_I, hT_L, hT_R, hT_B, hT_b, hX_I, hX_L, hX_R, hX_B, hX_b, hC_I, hC_L, hC_R, hC_B, hC_b, hU_I, hU_L, hU_R, hU_B, hU_b]
            · have h9 : ¬ 3 * j = 3 * c := by omega
              simp [hI_I, hI_L, hI_R, hI_B, hI_b, hL_I, hL_L, hL_R, hL_B, hL_b, hR_I, hR_L, hR_R, hR_B, hR_b, hB_I, hB_L, hB_R, hB_B, hB_b, hN_I, hN_L, hN_R, hN_B, hN_b, hT_I, hT_L, hT_R, hT_B, hT_b, hX_I, hX_L, hX_R, hX_B, hX_b, hC_I, hC_L, hC_R, hC_B, hC_b, hU_I, hU_L, hU_R, hU_B, hU_b, hjc, h9]; exact h5
          · have h5 := H.c.nw.1
            have h9 : ¬ 518 = 1035 + 3 * c := by omega
            simp [hI_I, hI_L, hI_R, hI_B, hI_b, hL_I, hL_L, hL_R, hL_B, hL_b, hR_I, hR_L, hR_R, hR_B, hR_b, hB_I, hB_L, hB_R, hB_B, hB_b, hN_I, hN_L, hN_R, hN_B, hN_b, hT_I, hT_L, hT_R, hT_B, hT_b, hX_I, hX_L, hX_R, hX_B, hX_b, hC_I, hC_L, hC_R, hC_B, hC_b, hU_I, hU_L, hU_R, hU_B, hU_b, h9]; exact h5
          · have h5 := H.c.nw.2.1
            have h9 : ¬ 518 = 1035 + 3 * c := by omega
            simp [hI_I, hI_L, hI_R, hI_B, hI_b, hL_I, hL_L, hL_R, hL_B, hL_b, hR_I, hR_L, hR_R, hR_B, hR_b, hB_I, hB_L, hB_R, hB_B, hB_b, hN_I, hN_L, hN_R, hN_B, hN_b, hT_I, hT_L, hT_R, hT_B, hT_b, hX_I, hX_L, hX_R, hX_B, hX_b, hC_I, hC_L, hC_R, hC_B, hC_b, hU_I, hU_L, hU_R, hU_B, hU_b, h9]; exact h5
          · have e : (fun q => hp_B (hp_sI (hp_sB (hp_sB S.m 8745 c true) 8747 c false) 8749 c x) 8745 q) = (fun q => if q = c then true else hp_B S.m 8745 q) := by
              funext q
              by_cases hq : q = c <;> simp [hI_I, hI_L, hI_R, hI_B, hI_b, hL_I, hL_L, hL_R, hL_B, hL_b, hR_I, hR_L, hR_R, hR_B, hR_b, hB_I, hB_L, hB_R, hB_B, hB_b, hN_I, hN_L, hN_R, hN_B, hN_b, hT_I, hT_L, hT_R, hT_B, hT_b, hX_I, hX_L, hX_R, hX_B, hX_b, hC_I, hC_L, hC_R, hC_B, hC_b, hU_I, hU_L, hU_R, hU_B, hU_b, hq]
            show _ = i32 ((List.range 512).countP (fun q => hp_B (hp_sI (hp_sB (hp_sB S.m 8745 c true) 8747 c false) 8749 c x) 8745 q))
            rw [e, cp_set (p := fun q => hp_B S.m 8745 q) hcc hcf]
            simp [hI_I, hI_L, hI_R, hI_B, hI_b, hL_I, hL_L, hL_R, hL_B, hL_b, hR_I, hR_L, hR_R, hR_B, hR_b, hB_I, hB_L, hB_R, hB_B, hB_b, hN_I, hN_L, hN_R, hN_B, hN_b, hT_I, hT_L, hT_R, hT_B, hT_b, hX_I, hX_L, hX_R, hX_B, hX_b, hC_I, hC_L, hC_R, hC_B, hC_b, hU_I, hU_L, hU_R, hU_B, hU_b]
          · show _ = S.rooms + x
            simp [hI_I, hI_L, hI_R, hI_B, hI_b, hL_I, hL_L, hL_R, hL_B, hL_b, hR_I, hR_L, hR_R, hR_B, hR_b, hB_I, hB_L, hB_R, hB_B, hB_b, hN_I, hN_L, hN_R, hN_B, hN_b, hT_I, hT_L, hT_R, hT_B, hT_b, hX_I, hX_L, hX_R, hX_B, hX_b, hC_I, hC_L, hC_R, hC_B, hC_b, hU_I, hU_L, hU_R, hU_B, hU_b]
theorem K_isTold {C : kx_C} (H : CR w S n) (hm : S.mt.length ≤ 16) (hmc : ∀ e ∈ S.mt, e.1 = -1 ∨ ∃ c, c < 512 ∧ e.1 = i32 c) (hc : c < 512) : ∀ k j F, j + k = S.mt.length → 2 * k + 1 ≤ F → (∀ i e, i < j → S.mt[i]? = some e → e.1 ≠ i32 c) →
    kx_ex (wm_16 d C) F 2 [(0, kx_r 0 (some 1)), (1, kx_r 2 (some (1035 + 3 * c))), (2, kx_i (i32 j))] [] w = some (.inl (some (.inl (kx_b (decide (∃ e ∈ S.mt, e.1 = i32 c))))), w) := by
  obtain ⟨Q, fp, tp, V, fv, A, ft, HX⟩ := id H
  have hto := H.s.to
  intro k
  induction k with
  | zero =>
    intro j F hj hF hp
    obtain ⟨F, rfl⟩ : ∃ f', F = f' + 1 := ⟨F - 1, by omega⟩
    have hn : ¬ ∃ e ∈ S.mt, e.1 = i32 c := by
      rintro ⟨e, h1, h2⟩
      obtain ⟨i, hi⟩ := List.getElem?_of_mem h1
      exact hp i e (by have := (List.getElem?_eq_some_iff.mp hi).1; omega) hi h2
    rw [me_16_2, decide_eq_false hn]
    unfold mb_16_2
    simp only [ob_s, hto]
    rw [if_pos (by rw [i32_le (by omega) (by omega)]; omega)]
    rfl
  | succ k ih =>
    intro j F hj hF hp
    obtain ⟨F, rfl⟩ : ∃ f', F = f' + 1 + 1 := ⟨F - 2, by omega⟩
    obtain ⟨y, hy⟩ : ∃ y, S.mt[j]? = some y := ⟨S.mt[j], List.getElem?_eq_getElem (by omega)⟩
    have htl := HX.o.len
    obtain ⟨p, hpj⟩ : ∃ p, tp[j]? = some p := ⟨tp[j], List.getElem?_eq_getElem (by omega)⟩
    obtain ⟨o1, o2, -, -, -⟩ := HX.o.e j p y hpj hy
    have hkk : (16 ≤ j) = False := by simp; omega
    have hch : (some (chc y.1) = some (1035 + 3 * c)) = (y.1 = i32 c) := by
      rcases hmc y (List.mem_of_getElem? hy) with h | ⟨q, q1, q2⟩
      · rw [h]
        have e1 : chc (-1) = 518 := by decide
        have e2 : ((-1 : Int32) = i32 c) = False := by
          have := i32_m1 (n := c) (by omega)
          rw [← this]
          exact propext ⟨fun h => h.symm, fun h => h.symm⟩
        rw [e1, e2]
        simp
        omega
      · rw [q2]
        unfold chc
        rw [if_neg (show ¬ i32 q < 0 by rw [i32_neg (by omega)]; simp), i32_nat (by omega), i32_eq (by omega) (by omega)]
        simp
        omega
    rw [me_16_2]
    unfold mb_16_2
    simp only [ob_s, hto, H.k.d.2.2.2.2.2.1, H.k.n.2.2.1, i32_nat (n := j) (by omega), i32_neg (n := j) (by omega), hkk, or_self, if_false, o1, reduceCtorEq, o2, hch, me_16_34, mb_16_34, i32_add1]
    rw [if_neg (by rw [i32_le (by omega) (by omega)]; omega)]
    by_cases h : y.1 = i32 c
    · rw [if_pos h, decide_eq_true ⟨y, List.mem_of_getElem? hy, h⟩]
      rfl
    · rw [if_neg h]
      exact ih (j + 1) F (by omega) (by omega) (fun i e hi he => by
        by_cases hij : i = j
        · subst hij
          rw [hy] at he
          cases he
          exact h
        · exact hp i e (by omega) he)
theorem K_await (H : CR w S n) (I : SI S n) (hn : n < 512) (hc : c < 512) : kx_ev wx_M (d + 1) 15 [kx_r 2 (some (1035 + 3 * c))] w = some (.inl (some (.inl (kx_b (decide (¬ (sFst S c true = none ∧ sFst S c false = none ∧ ∀ e ∈ S.me, e.1 ≠ .inr c)))))), w) := by
  have hl1 := I.l.1
  have hl2 := I.l.2
  have k2 := (H.k.c c hc).2.2.1
  have k4 := (H.k.c c hc).2.2.2
  have e1 : hp_I w 1004 (1036 + 3 * c) = i32 (S.mo.countP (oAt c true)) := len_mo (r := true) H hc
  have e2 : hp_I w 1004 (1037 + 3 * c) = i32 (S.mo.countP (oAt c false)) := len_mo (r := false) H hc
  have e3 := H.c.al c hc
  have b1 := List.countP_le_length (p := oAt c true) (l := S.mo)
  have b2 := List.countP_le_length (p := oAt c false) (l := S.mo)
  have b3 := List.countP_le_length (p := fun e : kMe => decide (e.1 = .inr c)) (l := S.me)
  have hp : ∀ k : Nat, k < 1000000 → (0 < i32 k) = (0 < k) := fun k hk => by
    have := i32_lt (a := 0) (b := k) (by omega) (by omega)
    rw [show i32 0 = 0 from rfl] at this
    exact this
  have f1 : ∀ g, (sFst S c g = none) = (S.mo.countP (oAt c g) = 0) := fun g => by
    unfold sFst
    rw [List.find?_eq_none, List.countP_eq_zero]
  have f3 : (∀ e ∈ S.me, e.1 ≠ Sum.inr c) = (S.me.countP (fun e => decide (e.1 = .inr c)) = 0) := by
    rw [List.countP_eq_zero]
    apply propext
    constructor
    · intro h e he h2
      exact h e he (by simpa using h2)
    · intro h e he h2
      exact h e he (by simpa using h2)
  obtain ⟨ψ, hψ⟩ := kx_fu
  rw [mE_15 hψ]
  unfold mb_15_0
  simp only [ob_s, k2, k4, e1, e2, e3, hp _ (show S.mo.countP (oAt c true) < 1000000 by omega), hp _ (show S.mo.countP (oAt c false) < 1000000 by omega), i32_p0 (k := S.me.countP (fun e => decide (e.1 = .inr c))) (by omega), me_15_27, mb_15_27, me_15_32, mb_15_32]
  have hd : (¬ (sFst S c true = none ∧ sFst S c false = none ∧ ∀ e ∈ S.me, e.1 ≠ .inr c)) = (0 < S.mo.countP (oAt c true) ∨ 0 < S.mo.countP (oAt c false) ∨ 0 < S.me.countP (fun e => decide (e.1 = .inr c))) := by
    rw [f1, f1, f3]
    apply propext
    omega
  by_cases g1 : 0 < S.mo.countP (oAt c true)
  · rw [if_pos g1, decide_eq_true (by rw [hd]; exact Or.inl g1)]
    rfl
  · rw [if_neg g1]
    by_cases g2 : 0 < S.mo.countP (oAt c false)
    · rw [if_pos g2, decide_eq_true (by rw [hd]; exact Or.inr (Or.inl g2))]
      rfl
    · rw [if_neg g2]
      by_cases g3 : 0 < S.me.countP (fun e => decide (e.1 = .inr c))
      · rw [if_neg (not_not_intro g3), decide_eq_true (by rw [hd]; exact Or.inr (Or.inr g3))]
        rfl
      · rw [if_pos g3, decide_eq_false (by rw [hd]; rintro (h | h | h); exact g1 h; exact g2 h; exact g3 h)]
        rfl
/-- all that the channel holds is taken -/
theorem K_rel_l {C : kx_C} (hC : C = kx_ev wx_M (d + 7)) (hc : c < 512) : ∀ k F w (S : kS), CR w S n → sCnt S c = k → k < 1000 → k + 1 ≤ F →
    ∃ w' F', F ≤ F' + k ∧ kx_ex (wm_13 (d + 7) C) F 32 [(0, kx_r 0 (some 1)), (2, kx_r 2 (some (1035 + 3 * c))), (3, kx_i (i32 k))] [] w = kx_ex (wm_13 (d + 7) C) F' 32 [(0, kx_r 0 (some 1)), (2, kx_r 2 (some (1035 + 3 * c))), (3, kx_i (i32 0))] [] w' ∧ CR w' (kS.s_mv S (S.mv.filter (fun x => !vAt c x))) n ∧ FC w w' := by
  intro k
  induction k with
  | zero =>
    intro F w S H hk hk2 hF
    have hfl : S.mv.filter (fun x => !vAt c x) = S.mv := by
      rw [List.filter_eq_self]
      intro a ha
      have := List.countP_eq_zero.mp hk a ha
      simpa using this
    rw [hfl]
    exact ⟨w, F, by omega, rfl, H, FC.rf⟩
  | succ k ih =>
    intro F w S H hk hk2 hF
    obtain ⟨F, rfl⟩ : ∃ f', F = f' + 1 := ⟨F - 1, by omega⟩
    have h0 : 0 < sCnt S c := by omega
    obtain ⟨Q, fp, tp, V, fv, A, ft, HX⟩ := id H
    obtain ⟨w1, V', fv', a1, H1, F1⟩ := C_tk (d := d + 5) HX hc h0
    obtain ⟨w', F', f1, r1, r2, r3⟩ := ih F w1 (sTkF S c) H1.cr (by
      have := cnt_er (p := vAt c) h0
      show (S.mv.eraseP (vAt c)).countP (vAt c) = k
      have h9 : S.mv.countP (vAt c) = k + 1 := hk
      omega) (by omega) (by omega)
    have e9 : (sTkF S c).mv.filter (fun x => !vAt c x) = S.mv.filter (fun x => !vAt c x) := er_flt
    rw [e9] at r2
    refine ⟨w', F', by omega, ?_, r2, (FC.of F1 (by decide) (by decide) (by decide) (by decide)).tr r3⟩
    rw [← r1, me_13_32]
    unfold mb_13_32
    rw [if_neg (show ¬ i32 (k + 1) ≤ 0 by rw [i32_p0 (by omega)]; simp)]
    rw [← hC] at a1
    simp only [ob_s, a1, bl_n]
    rw [em1]
theorem K_release (H : CR w S n) (I : SI S n) (J : SJ S n) (hn : n < 512) : ∃ w', kx_ev wx_M (d + 8) 13 [kx_r 0 (some 1), kx_i x] w = some (.inl (some (.inl (kx_b (pRelease S x).2))), w') ∧ CR w' (pRelease S x).1 n ∧ FB w w' := by
  have hl1 := I.l.1
  have hl2 := I.l.2
  have mb := K_chAt (d := d + 6) (x := x) H
  obtain ⟨ψ, hψ⟩ := kx_fl 2000 (by omega)
  obtain ⟨φ, h600, hφ⟩ : ∃ φ, 1000 ≤ φ ∧ ψ + 2000 = φ + 1 := ⟨ψ + 1999, by omega, by omega⟩
  unfold pRelease
  rw [mE_13 hψ, hφ]
  unfold mb_13_0
  simp only [ob_s, mb, br_n, me_13_25, mb_13_25]
  unfold chR
  have fin : ∀ X : kx_O, X = some (.inl (some (.inl 0)), w) → ∃ w', X = some (.inl (some (.inl (kx_b (sTh S 0, false).2))), w') ∧ CR w' (sTh S 0, false).1 n ∧ FB w w' := fun X hX => ⟨_, hX, H.th 0, FC.rf.fb⟩
  cases hi : isCh S x with
  | false =>
    simp only [eq_self, reduceCtorEq, if_true, if_false, false_and]
    apply fin
    simp
  | true =>
    obtain ⟨c, hcc, rfl, hb⟩ := isCh_t hi
    have hnat := i32_nat (n := c) (by omega)
    have aw := K_await (d := d + 6) H I hn hcc
    obtain ⟨χ, hχ⟩ := kx_fl 100 (by omega)
    have hml := I.ml
    have at1 : kx_ev wx_M (d + 7) 16 [kx_r 0 (some 1), kx_r 2 (some (1035 + 3 * c))] w = some (.inl (some (.inl (kx_b (decide (∃ e ∈ S.mt, e.1 = i32 c))))), w) := by
      rw [mE_16 hχ]
      unfold mb_16_0
      exact K_isTold H hml I.mc hcc S.mt.length 0 (χ + 100) (by omega) (by omega) (fun i e hi => by omega)
    simp only [hnat, true_and, eq_self, reduceCtorEq, if_true, if_false, ob_s, aw, bi_n, at1]
    by_cases hP : sFst S c true = none ∧ sFst S c false = none ∧ ∀ e ∈ S.me, e.1 ≠ .inr c
    · rw [decide_eq_false (not_not_intro hP), kx_b_f, if_pos rfl]
      by_cases hT : ∃ e ∈ S.mt, e.1 = i32 c
      · rw [decide_eq_true hT, kx_b_t]
        rw [if_neg (show ¬ (sFst S c true = none ∧ sFst S c false = none ∧ (∀ e ∈ S.me, e.1 ≠ .inr c) ∧ ∀ e ∈ S.mt, e.1 ≠ i32 c) from fun h => by
          obtain ⟨e, h1, h2⟩ := hT
          exact h.2.2.2 e h1 h2)]
        apply fin
        simp only [i10, if_false]
        simp
      · rw [decide_eq_false hT, kx_b_f, if_pos rfl, if_pos (show (sFst S c true = none ∧ sFst S c false = none ∧ (∀ e ∈ S.me, e.1 ≠ .inr c) ∧ ∀ e ∈ S.mt, e.1 ≠ i32 c) from ⟨hP.1, hP.2.1, hP.2.2, fun e h1 h2 => hT ⟨e, h1, h2⟩⟩)]
        have he := H.c.he c hcc
        have hsl := sCnt_le S c
        obtain ⟨w1, F', f1, r1, H1, F1⟩ := K_rel_l (d := d) rfl hcc (sCnt S c) (φ + 1) w (sTh S 0) (H.th 0) rfl (by omega) (by omega)
        obtain ⟨F', rfl⟩ : ∃ f, F' = f + 1 := ⟨F' - 1, by omega⟩
        obtain ⟨Q, fp, tp, V, fv, A, ft, HX⟩ := id H1
        obtain ⟨y, hy⟩ : ∃ y, (List.range 512).countP (fun q => hp_B (hp_sB S.m 8745 c false) 8745 q) = y := ⟨_, rfl⟩
        have hy2 : y + 1 = (List.range 512).countP (fun q => hp_B S.m 8745 q) := by
          rw [← hy, hB_row]
          exact cp_clr (p := fun q => hp_B S.m 8745 q) hcc hb
        have F : FR [20, 22, 410] [] [] [406, 408] w1 (hp_sI (hp_sI (hp_sB w1 406 (1035 + 3 * c) false) 20 1 (i32 y)) 22 1 (S.rooms - sRoom S c)) := FR.sI (by decide) (FR.sI (by decide) (FR.sB (by decide) FR.rf))
        refine ⟨_, ?_, CX.cr (C_chT HX F _ rfl rfl rfl rfl rfl rfl rfl rfl rfl rfl rfl ?_ ?_ rfl ?_ ?_ ?_ ?_ ?_ ?_ ?_), (F1.tr (FC.of F (by decide) (by decide) (by decide) (by decide))).fb⟩
        · simp only [he]
          rw [r1, me_13_32]
          unfold mb_13_32
          rw [if_pos (show i32 0 ≤ 0 by decide)]
          have e20 : hp_I w1 20 1 = i32 (y + 1) := by rw [hy2]; exact H1.s.cc
          have e22 : hp_I w1 22 1 = S.rooms := H1.s.ro
          have e410 : hp_I w1 410 (1035 + 3 * c) = sRoom S c := H1.c.ro c hcc
          simp only [ob_s, kx_sb_0, hI_I, hI_L, hI_R, hI_B, hI_b, hL_I, hL_L, hL_R, hL_B, hL_b, hR_I, hR_L, hR_R, hR_B, hR_b, hB_I, hB_L, hB_R, hB_B, hB_b, hN_I, hN_L, hN_R, hN_B, hN_b, hT_I, hT_L, hT_R, hT_B, hT_b, hX_I, hX_L, hX_R, hX_B, hX_b, hC_I, hC_L, hC_R, hC_B, hC_b, hU_I, hU_L, hU_R, hU_B, hU_b, Nat.reduceEqDiff, false_and, if_false, e20, i32_sub1, e22, e410]
          rfl
        · intro k hk1 hk2
          show hp_B (hp_sB S.m 8745 c false) k = hp_B S.m k
          funext j
          simp [hI_I, hI_L, hI_R, hI_B, hI_b, hL_I, hL_L, hL_R, hL_B, hL_b, hR_I, hR_L, hR_R, hR_B, hR_b, hB_I, hB_L, hB_R, hB_B, hB_b, hN_I, hN_L, hN_R, hN_B, hN_b, hT_I, hT_L, hT_R, hT_B, hT_b, hX_I, hX_L, hX_R, hX_B, hX_b, hC_I, hC_L, hC_R, hC_B, hC_b, hU_I, hU_L, hU_R, hU_B, hU_b, hk1]
        · intro k hk1
          rfl
        · intro j hj
          have h5 := H1.c.th j hj
          show _ = hp_B (hp_sB S.m 8745 c false) 8745 j
          by_cases hjc : j = c
          · subst hjc; simp [hI_I, hI_L, hI_R, hI_B, hI_b, hL_I, hL_L, hL_R, hL_B, hL_b, hR_I, hR_L, hR_R, hR_B, hR_b, hB_I, hB_L, hB_R, hB_B, hB_b, hN_I, hN_L, hN_R, hN_B, hN_b, hT_I, hT_L, hT_R, hT_B, hT_b, hX_I, hX_L, hX_R, hX_B, hX_b, hC_I, hC_L, hC_R, hC_B, hC_b, hU_I, hU_L, hU_R, hU_B, hU_b]
          · have h9 : ¬ 3 * j = 3 * c := by omega
            simp [hI_I, hI_L, hI_R, hI_B, hI_b, hL_I, hL_L, hL_R, hL_B, hL_b, hR_I, hR_L, hR_R, hR_B, hR_b, hB_I, hB_L, hB_R, hB_B, hB_b, hN_I, hN_L, hN_R, hN_B, hN_b, hT_I, hT_L, hT_R, hT_B, hT_b, hX_I, hX_L, hX_R, hX_B, hX_b, hC_I, hC_L, hC_R, hC_B, hC_b, hU_I, hU_L, hU_R, hU_B, hU_b, hjc, h9]; exact h5
        · intro j hj
          have h5 := H1.c.cl j hj
          show _ = hp_B (hp_sB S.m 8745 c false) 8747 j
          simp [hI_I, hI_L, hI_R, hI_B, hI_b, hL_I, hL_L, hL_R, hL_B, hL_b, hR_I, hR_L, hR_R, hR_B, hR_b, hB_I, hB_L, hB_R, hB_B, hB_b, hN_I, hN_L, hN_R, hN_B, hN_b, hT_I, hT_L, hT_R, hT_B, hT_b, hX_I, hX_L, hX_R, hX_B, hX_b, hC_I, hC_L, hC_R, hC_B, hC_b, hU_I, hU_L, hU_R, hU_B, hU_b]; exact h5
        · intro j hj
          have h5 := H1.c.ro j hj
          show _ = hp_I (hp_sB S.m 8745 c false) 8749 j
          simp [hI_I, hI_L, hI_R, hI_B, hI_b, hL_I, hL_L, hL_R, hL_B, hL_b, hR_I, hR_L, hR_R, hR_B, hR_b, hB_I, hB_L, hB_R, hB_B, hB_b, hN_I, hN_L, hN_R, hN_B, hN_b, hT_I, hT_L, hT_R, hT_B, hT_b, hX_I, hX_L, hX_R, hX_B, hX_b, hC_I, hC_L, hC_R, hC_B, hC_b, hU_I, hU_L, hU_R, hU_B, hU_b]; exact h5
        · have h5 := H1.c.nw.1
          simp [hI_I, hI_L, hI_R, hI_B, hI_b, hL_I, hL_L, hL_R, hL_B, hL_b, hR_I, hR_L, hR_R, hR_B, hR_b, hB_I, hB_L, hB_R, hB_B, hB_b, hN_I, hN_L, hN_R, hN_B, hN_b, hT_I, hT_L, hT_R, hT_B, hT_b, hX_I, hX_L, hX_R, hX_B, hX_b, hC_I, hC_L, hC_R, hC_B, hC_b, hU_I, hU_L, hU_R, hU_B, hU_b]; exact h5
        · have h5 := H1.c.nw.2.1
          simp [hI_I, hI_L, hI_R, hI_B, hI_b, hL_I, hL_L, hL_R, hL_B, hL_b, hR_I, hR_L, hR_R, hR_B, hR_b, hB_I, hB_L, hB_R, hB_B, hB_b, hN_I, hN_L, hN_R, hN_B, hN_b, hT_I, hT_L, hT_R, hT_B, hT_b, hX_I, hX_L, hX_R, hX_B, hX_b, hC_I, hC_L, hC_R, hC_B, hC_b, hU_I, hU_L, hU_R, hU_B, hU_b]; exact h5
        · show _ = i32 ((List.range 512).countP (fun q => hp_B (hp_sB S.m 8745 c false) 8745 q))
          rw [hy]
          simp [hI_I, hI_L, hI_R, hI_B, hI_b, hL_I, hL_L, hL_R, hL_B, hL_b, hR_I, hR_L, hR_R, hR_B, hR_b, hB_I, hB_L, hB_R, hB_B, hB_b, hN_I, hN_L, hN_R, hN_B, hN_b, hT_I, hT_L, hT_R, hT_B, hT_b, hX_I, hX_L, hX_R, hX_B, hX_b, hC_I, hC_L, hC_R, hC_B, hC_b, hU_I, hU_L, hU_R, hU_B, hU_b]
        · show _ = S.rooms - sRoom S c
          simp [hI_I, hI_L, hI_R, hI_B, hI_b, hL_I, hL_L, hL_R, hL_B, hL_b, hR_I, hR_L, hR_R, hR_B, hR_b, hB_I, hB_L, hB_R, hB_B, hB_b, hN_I, hN_L, hN_R, hN_B, hN_b, hT_I, hT_L, hT_R, hT_B, hT_b, hX_I, hX_L, hX_R, hX_B, hX_b, hC_I, hC_L, hC_R, hC_B, hC_b, hU_I, hU_L, hU_R, hU_B, hU_b]
    · rw [decide_eq_true hP, kx_b_t]
      rw [if_neg (show ¬ (sFst S c true = none ∧ sFst S c false = none ∧ (∀ e ∈ S.me, e.1 ≠ .inr c) ∧ ∀ e ∈ S.mt, e.1 ≠ i32 c) from fun h => hP ⟨h.1, h.2.1, h.2.2.1⟩)]
      apply fin
      simp only [i10, if_false]
      simp
end REL
