/-! the class's calls: alarm, spawn, finish -/
section SPW
variable {w w' : kx_H} {S S' : kS} {t g n d c : Nat} {x : Int32} {v val : Int64} {f b : Bool} {Q : List kQ} {fp tp fv ft : List Nat} {V : List (Nat × Int64 × Nat)} {A : List (Nat × kMe)} {l : kLoc}
/-- the event is noted, and counted -/
theorem C_alm' {w2 : kx_H} {A2 : List (Nat × kMe)} {ft2 : List Nat} (HX : CX w S n Q fp tp V fv A ft) (hcc : c < 512) (F2 : FR [] [1400] [200, 202, 1406, 1402, 1404] [] w w2) (CA2 : CA w2 (S.me ++ [(.inr c, val)]) A2 ft2) (T : kS)
    (t1 : T.cur = S.cur) (t2 : T.std = S.std) (t3 : T.clk = S.clk) (t4 : T.m = S.m) (t5 : T.rd = S.rd) (t6 : T.rooms = S.rooms) (t7 : T.mv = S.mv) (t8 : T.mo = S.mo) (t9 : T.mt = S.mt) (t10 : T.gates = S.gates) (t11 : T.sn = S.sn) (t12 : T.me = S.me ++ [(.inr c, val)]) (t13 : T.al = S.al + 1) :
    CX (hp_sI (hp_sI w2 414 (1035 + 3 * c) (i32 (S.me.countP (fun e => decide (e.1 = .inr c)) + 1))) 14 1 (i32 (S.al + 1))) T n Q fp tp V fv A2 ft2 := by
  have F3 : FR [414, 14] [1400] [200, 202, 1406, 1402, 1404] [] w (hp_sI (hp_sI w2 414 (1035 + 3 * c) (i32 (S.me.countP (fun e => decide (e.1 = .inr c)) + 1))) 14 1 (i32 (S.al + 1))) := FR.sI (by decide) (FR.sI (by decide) (F2.mono (fun k h => by cases h) (fun _ h => h) (fun _ h => h) (fun _ h => h)))
  have F23 : FR [414, 14] [] [] [] w2 (hp_sI (hp_sI w2 414 (1035 + 3 * c) (i32 (S.me.countP (fun e => decide (e.1 = .inr c)) + 1))) 14 1 (i32 (S.al + 1))) := FR.sI (by decide) (FR.sI (by decide) FR.rf)
  have hcnt : ∀ j, sCnt T j = sCnt S j := fun j => by unfold sCnt; rw [t7]
  have hstt : stt T = stt S := by funext j; unfold stt; rw [t4]
  refine ⟨HX.k.fr F3 (by decide) (by decide) (by decide) (by decide), by rw [t4]; exact HX.t.fr F3 (by decide) (by decide) (by decide) (by decide), ?_, ?_, (HX.g.fr F3 (by decide) (by decide) (by decide) (by decide)).sc (by rw [t4]) (by rw [t4]) (by rw [t4]) t10, by rw [hstt]; exact HX.q.fr F3 (by decide) (by decide) (by decide) (by decide), by rw [t9]; exact HX.o.fr F3 (by decide) (by decide) (by decide) (by decide), t5.trans HX.rd, t8.trans HX.mo, t11.trans HX.sn, by rw [t7]; exact HX.v.fr F3 (by decide) (by decide) (by decide) (by decide), Or.inr (by rw [t12]; exact CA2.fr F23 (by decide) (by decide) (by decide) (by decide))⟩
  · refine ⟨?_, ?_, ?_, ?_, ?_, ?_, ?_, ?_, ?_⟩
    · rw [F3.R 6 (by decide), t1]; exact HX.s.ru
    · rw [F3.B 8 (by decide), t2]; exact HX.s.ov
    · rw [F3.L 10 (by decide), t3]; exact HX.s.nw
    · rw [F3.I 2 (by decide), t4]; exact HX.s.tc
    · rw [F3.I 20 (by decide), t4]; exact HX.s.cc
    · rw [F3.I 22 (by decide), t6]; exact HX.s.ro
    · rw [F3.I 34 (by decide), t10]; exact HX.s.gc
    · rw [t13]; simp [hI_I, hI_L, hI_R, hI_B, hI_b, hL_I, hL_L, hL_R, hL_B, hL_b, hR_I, hR_L, hR_R, hR_B, hR_b, hB_I, hB_L, hB_R, hB_B, hB_b, hN_I, hN_L, hN_R, hN_B, hN_b, hT_I, hT_L, hT_R, hT_B, hT_b, hX_I, hX_L, hX_R, hX_B, hX_b, hC_I, hC_L, hC_R, hC_B, hC_b, hU_I, hU_L, hU_R, hU_B, hU_b]
    · rw [F3.I 28 (by decide), t9]; exact HX.s.to
  · refine ⟨fun j hj => ?_, fun j hj => ?_, fun j hj => ?_, fun j hj => ?_, fun j hj => ?_, ?_⟩
    · rw [F3.B 406 (by decide), t4]; exact HX.c.th j hj
    · rw [F3.B 408 (by decide), t4]; exact HX.c.cl j hj
    · rw [F3.I 410 (by decide), t4]; exact HX.c.ro j hj
    · rw [F3.I 412 (by decide), hcnt]; exact HX.c.he j hj
    · rw [t12, List.countP_append]
      by_cases hjc : j = c
      · subst hjc; simp [hI_I, hI_L, hI_R, hI_B, hI_b, hL_I, hL_L, hL_R, hL_B, hL_b, hR_I, hR_L, hR_R, hR_B, hR_b, hB_I, hB_L, hB_R, hB_B, hB_b, hN_I, hN_L, hN_R, hN_B, hN_b, hT_I, hT_L, hT_R, hT_B, hT_b, hX_I, hX_L, hX_R, hX_B, hX_b, hC_I, hC_L, hC_R, hC_B, hC_b, hU_I, hU_L, hU_R, hU_B, hU_b]
      · have h9 : ¬ 3 * j = 3 * c := by omega
        have h6 := HX.c.al j hj
        rw [← F2.I 414 (by decide)] at h6
        have h7 : ¬ c = j := fun e => hjc e.symm
        simp [hI_I, hI_L, hI_R, hI_B, hI_b, hL_I, hL_L, hL_R, hL_B, hL_b, hR_I, hR_L, hR_R, hR_B, hR_b, hB_I, hB_L, hB_R, hB_B, hB_b, hN_I, hN_L, hN_R, hN_B, hN_b, hT_I, hT_L, hT_R, hT_B, hT_b, hX_I, hX_L, hX_R, hX_B, hX_b, hC_I, hC_L, hC_R, hC_B, hC_b, hU_I, hU_L, hU_R, hU_B, hU_b, h9, h7]
        exact h6
    · rw [F3.B 408 (by decide), F3.I 410 (by decide), F3.I 412 (by decide)]; exact HX.c.nw
theorem K_alarm (H : CR w S n) (I : SI S n) (J : SJ S n) (hn : n < 512) (r : rmOK w) : ∃ w', kx_ev wx_M (d + 8) 47 [kx_r 0 (some 1), kx_i x, kx_l v] w = some (if (pAlarm S x v).th = 0 then .inl none else .inr (e3 (pAlarm S x v).th), w') ∧ CR w' (pAlarm S x v) n ∧ FB w w' := by
  have hl1 := I.l.1
  have hal := I.al
  have mb := K_chAt (d := d + 6) (x := x) H
  have mc := K_cur (d := d + 6) H r (by omega)
  have th1 := thd_ok (d := d + 7) (e := 1) (l := []) (w := w) (by omega) r.1 r.2
  obtain ⟨ψ, hψ⟩ := kx_fu
  rw [mE_47 hψ]
  unfold mb_47_0
  unfold pAlarm
  simp only [ob_s, mb, br_n, lg_neg, lg_le, me_47_26, mb_47_26, th1]
  unfold chR
  by_cases hA : isCh S x = false ∨ v < 0 ∨ 1000000000 < v
  · rw [if_pos hA]
    refine ⟨_, ?_, (H.th 1).bump 1 6, FC.rf.bm⟩
    rcases hA with h | h | h
    · simp only [h, eq_self, reduceCtorEq, if_true, if_false]; rfl
    · cases isCh S x with
      | false => simp only [eq_self, reduceCtorEq, if_true, if_false]; rfl
      | true => simp only [eq_self, reduceCtorEq, if_true, if_false, h]; rfl
    · have h9 : ¬ ¬ 1000000000 < v := not_not_intro h
      cases isCh S x with
      | false => simp only [eq_self, reduceCtorEq, if_true, if_false]; rfl
      | true => simp only [eq_self, reduceCtorEq, if_true, if_false, if_neg h9, ite_self]; rfl
  · rw [if_neg hA]
    have hi : isCh S x = true := by
      cases h : isCh S x with
      | true => rfl
      | false => exact absurd (Or.inl h) hA
    have hv0 : ¬ v < 0 := fun h => hA (Or.inr (Or.inl h))
    have hv1 : ¬ 1000000000 < v := fun h => hA (Or.inr (Or.inr h))
    obtain ⟨c, hcc, rfl, hb⟩ := isCh_t hi
    have hnat := i32_nat (n := c) (by omega)
    simp only [hi, eq_self, reduceCtorEq, if_true, if_false, hv0, hv1, not_false_eq_true, hnat]
    rcases cur_or S with hc | ⟨t, hc⟩
    · rw [hc] at mc
      have mc' : kx_ev wx_M (d + 7) 24 [kx_r 0 (some 1)] w = some (.inr 0, hp_bump w 1 6) := mc
      rw [if_pos (show S.cur = none ∨ S.al = 256 from Or.inl hc)]
      refine ⟨_, ?_, (H.th 2).bump 1 6, FC.rf.bm⟩
      simp only [mc', br_e]
      rfl
    · have hst : S.std ≠ 1 := by rw [J.sd t hc]; decide
      rw [hc] at mc
      have mc' : kx_ev wx_M (d + 7) 24 [kx_r 0 (some 1)] w = some (.inl (some (.inr (.inr (6, some (524 + 2 * t))))), w) := mc
      have hac := H.s.ac
      have h256 : (i32 S.al < 256) = (S.al < 256) := by
        rw [show (256 : Int32) = i32 256 from rfl, i32_lt (by omega) (by omega)]
      simp only [mc', br_n, hac, h256]
      by_cases h4 : S.al = 256
      · rw [if_pos (show S.cur = none ∨ S.al = 256 from Or.inr h4), if_neg (by omega)]
        refine ⟨_, ?_, (H.th 2).bump 1 6, FC.rf.bm⟩
        rw [thd_ok (by omega) r.1 r.2]
        rfl
      · rw [if_neg (show ¬ (S.cur = none ∨ S.al = 256) by rw [hc]; simp [h4]), if_pos (by omega)]
        obtain ⟨Q, fp, tp, V, fv, A, ft, HX⟩ := id H
        have a := HX.a.resolve_left hst
        have hAl := CA_len (S := S) a
        obtain ⟨w2, A2, ft2, b2, CA2, F2⟩ := C_note (d := d + 5) (x := S.clk + v) (e := .inr c) a (by omega)
        have h414 : hp_I w2 414 (1035 + 3 * c) = i32 (S.me.countP (fun e => decide (e.1 = .inr c))) := by rw [F2.I 414 (by decide)]; exact HX.c.al c hcc
        have h14 : hp_I w2 14 1 = i32 S.al := by rw [F2.I 14 (by decide)]; exact HX.s.ac
        have F3 : FR [414, 14] [1400] [200, 202, 1406, 1402, 1404] [] w (hp_sI (hp_sI w2 414 (1035 + 3 * c) (i32 (S.me.countP (fun e => decide (e.1 = .inr c)) + 1))) 14 1 (i32 (S.al + 1))) := FR.sI (by decide) (FR.sI (by decide) (F2.mono (fun k h => by cases h) (fun _ h => h) (fun _ h => h) (fun _ h => h)))
        have F23 : FR [414, 14] [] [] [] w2 (hp_sI (hp_sI w2 414 (1035 + 3 * c) (i32 (S.me.countP (fun e => decide (e.1 = .inr c)) + 1))) 14 1 (i32 (S.al + 1))) := FR.sI (by decide) (FR.sI (by decide) FR.rf)
        refine ⟨_, ?_, ?_, (FC.of F3 (by decide) (by decide) (by decide) (by decide)).fb⟩
        · rw [if_pos (show (0 : Int32) = 0 from rfl)]
          have k12 := H.k.d.2.2.1
          have k10 := H.s.nw
          have b2' : kx_ev wx_M (d + 7) 43 [kx_r 1 (some 4), kx_l (S.clk + v), kx_r 6 none, kx_r 2 (some (1035 + 3 * c))] w = some (.inl none, w2) := b2
          have e14 : hp_I (hp_sI w2 414 (1035 + 3 * c) (i32 (S.me.countP (fun e => decide (e.1 = .inr c)) + 1))) 14 1 = i32 S.al := by rw [← h14]; simp [hI_I, hI_L, hI_R, hI_B, hI_b, hL_I, hL_L, hL_R, hL_B, hL_b, hR_I, hR_L, hR_R, hR_B, hR_b, hB_I, hB_L, hB_R, hB_B, hB_b, hN_I, hN_L, hN_R, hN_B, hN_b, hT_I, hT_L, hT_R, hT_B, hT_b, hX_I, hX_L, hX_R, hX_B, hX_b, hC_I, hC_L, hC_R, hC_B, hC_b, hU_I, hU_L, hU_R, hU_B, hU_b]
          simp only [k12, k10, ob_s, b2', bv_n, h414, i32_add1, e14]
        · exact CX.cr (C_alm' HX hcc F2 CA2 _ rfl rfl rfl rfl rfl rfl rfl rfl rfl rfl rfl rfl rfl)
/-- who is free -/
theorem K_ff {C : kx_C} (H : CR w S n) : ∀ k j F, j + k = 256 → k + 1 ≤ F → (∀ i, i < j → hp_B S.m 8729 i = true) →
    kx_ex (wm_25 d C) F 2 [(0, kx_r 0 (some 1)), (1, kx_i (i32 j))] [] w = some (.inl (some (.inr (.inr (6, ((List.range 256).find? (fun t => !hp_B S.m 8729 t)).map (fun t => 524 + 2 * t))))), w) := by
  intro k
  induction k with
  | zero =>
    intro j F hj hF hp
    obtain ⟨F, rfl⟩ : ∃ f', F = f' + 1 := ⟨F - 1, by omega⟩
    obtain rfl : j = 256 := by omega
    rw [me_25_2, fr_none (fun i hi => by simp [hp i hi])]
    unfold mb_25_2
    rw [if_pos (show (256 : Int32) ≤ i32 256 by decide)]
    rfl
  | succ k ih =>
    intro j F hj hF hp
    obtain ⟨F, rfl⟩ : ∃ f', F = f' + 1 := ⟨F - 1, by omega⟩
    have hj2 : j < 256 := by omega
    have hkk : (256 ≤ j) = False := by simp; omega
    rw [me_25_2]
    unfold mb_25_2
    rw [if_neg (show ¬ (256 : Int32) ≤ i32 j by rw [show (256 : Int32) = i32 256 from rfl, i32_le (by omega) (by omega)]; omega)]
    simp only [ob_s, H.k.d.1, H.k.n.1, i32_nat (n := j) (by omega), i32_neg (n := j) (by omega), hkk, or_self, if_false, (H.k.t j hj2).1, H.t.al j hj2, kx_b_0, i32_add1]
    by_cases h : hp_B S.m 8729 j = false
    · rw [if_pos h, fr_some (j := j) (fun i hi => by simp [hp i hi]) hj2 (by simp [h])]
      rfl
    · rw [if_neg h]
      exact ih (j + 1) F (by omega) (by omega) (fun i hi => by
        by_cases hij : i = j
        · subst hij; simpa using h
        · exact hp i (by omega))
theorem cp_set {p : Nat → Bool} {N k : Nat} (hk : k < N) (h : p k = false) : (List.range N).countP (fun t => if t = k then true else p t) = (List.range N).countP p + 1 := by
  induction N with
  | zero => omega
  | succ N ih =>
    rw [cr_succ, cr_succ]
    by_cases hkN : k = N
    · subst hkN
      have e : (List.range k).countP (fun t => if t = k then true else p t) = (List.range k).countP p := by
        apply List.countP_congr
        intro t ht
        have : t ≠ k := by have := List.mem_range.mp ht; omega
        simp [this]
      rw [e]
      simp [h]
    · rw [ih (by omega), if_neg (Ne.symm hkN)]
      omega
theorem cp_clr {p : Nat → Bool} {N k : Nat} (hk : k < N) (h : p k = true) : (List.range N).countP (fun t => if t = k then false else p t) + 1 = (List.range N).countP p := by
  induction N with
  | zero => omega
  | succ N ih =>
    rw [cr_succ, cr_succ]
    by_cases hkN : k = N
    · subst hkN
      have e : (List.range k).countP (fun t => if t = k then false else p t) = (List.range k).countP p := by
        apply List.countP_congr
        intro t ht
        have : t ≠ k := by have := List.mem_range.mp ht; omega
        simp [this]
      rw [e]
      simp [h]
    · have := ih (by omega)
      rw [if_neg (Ne.symm hkN)]
      omega
theorem hB_row {m : kx_H} {k i : Nat} {v : Bool} : (fun t => hp_B (hp_sB m k i v) k t) = (fun t => if t = i then v else hp_B m k t) := by
  funext t
  by_cases h : t = i <;> simp [hB_B, h]
/-- a task is alive, or not -/
theorem C_alive (H : CX w S n Q fp tp V fv A ft) (ht : t < 256) {y : Nat} (hy : (List.range 256).countP (fun q => hp_B (hp_sB S.m 8729 t b) 8729 q) = y) : CX (hp_sI (hp_sB w 1204 (524 + 2 * t) b) 2 1 (i32 y)) (kS.s_m S (hp_sB S.m 8729 t b)) n Q fp tp V fv A ft ∧ FR [2] [] [] [1204] w (hp_sI (hp_sB w 1204 (524 + 2 * t) b) 2 1 (i32 y)) := by
  have F : FR [2] [] [] [1204] w (hp_sI (hp_sB w 1204 (524 + 2 * t) b) 2 1 (i32 y)) := FR.sI (by decide) (FR.sB (by decide) FR.rf)
  have eB : ∀ k, k ≠ 8729 → hp_B (hp_sB S.m 8729 t b) k = hp_B S.m k := fun k hk => by funext j; simp [hB_B, hk]
  refine ⟨⟨H.k.fr F (by decide) (by decide) (by decide) (by decide), ?_, ?_, (H.c.fr F (by decide) (by decide) (by decide) (by decide)).sc (eB _ (by decide)) (eB _ (by decide)) rfl rfl rfl, (H.g.fr F (by decide) (by decide) (by decide) (by decide)).sc rfl rfl rfl rfl, H.q.fr F (by decide) (by decide) (by decide) (by decide), H.o.fr F (by decide) (by decide) (by decide) (by decide), H.rd, H.mo, H.sn, H.v.fr F (by decide) (by decide) (by decide) (by decide), H.a.imp id (fun h => h.fr F (by decide) (by decide) (by decide) (by decide))⟩, F⟩
  · refine ⟨fun q hq => ?_, fun q hq => ?_, fun q hq => ?_, H.t.re, fun q hq => ?_, fun q hq => ?_, fun q hq => ?_⟩
    · have h5 := H.t.al q hq
      show _ = hp_B (hp_sB S.m 8729 t b) 8729 q
      by_cases hqt : q = t
      · subst hqt; simp [hI_I, hI_L, hI_R, hI_B, hI_b, hL_I, hL_L, hL_R, hL_B, hL_b, hR_I, hR_L, hR_R, hR_B, hR_b, hB_I, hB_L, hB_R, hB_B, hB_b, hN_I, hN_L, hN_R, hN_B, hN_b, hT_I, hT_L, hT_R, hT_B, hT_b, hX_I, hX_L, hX_R, hX_B, hX_b, hC_I, hC_L, hC_R, hC_B, hC_b, hU_I, hU_L, hU_R, hU_B, hU_b]
      · have h9 : ¬ 2 * q = 2 * t := by omega
        simp [hI_I, hI_L, hI_R, hI_B, hI_b, hL_I, hL_L, hL_R, hL_B, hL_b, hR_I, hR_L, hR_R, hR_B, hR_b, hB_I, hB_L, hB_R, hB_B, hB_b, hN_I, hN_L, hN_R, hN_B, hN_b, hT_I, hT_L, hT_R, hT_B, hT_b, hX_I, hX_L, hX_R, hX_B, hX_b, hC_I, hC_L, hC_R, hC_B, hC_b, hU_I, hU_L, hU_R, hU_B, hU_b, hqt, h9]; exact h5
    · rw [F.I 1206 (by decide)]; exact H.t.st q hq
    · rw [F.I 1208 (by decide)]; exact H.t.at q hq
    · rw [F.B 1214 (by decide)]; show _ = hp_B (hp_sB S.m 8729 t b) 8737 q; rw [eB _ (by decide)]; exact H.t.fl q hq
    · rw [F.I 1216 (by decide)]; exact H.t.ca q hq
    · rw [F.B 1218 (by decide)]; show _ = hp_B (hp_sB S.m 8729 t b) 8741 q; rw [eB _ (by decide)]; exact H.t.br q hq
  · refine ⟨H.s.ru, H.s.ov, H.s.nw, ?_, ?_, ?_, ?_, ?_, ?_⟩
    · show _ = i32 ((List.range 256).countP (fun q => hp_B (hp_sB S.m 8729 t b) 8729 q))
      rw [hy]
      simp [hI_I, hI_L, hI_R, hI_B, hI_b, hL_I, hL_L, hL_R, hL_B, hL_b, hR_I, hR_L, hR_R, hR_B, hR_b, hB_I, hB_L, hB_R, hB_B, hB_b, hN_I, hN_L, hN_R, hN_B, hN_b, hT_I, hT_L, hT_R, hT_B, hT_b, hX_I, hX_L, hX_R, hX_B, hX_b, hC_I, hC_L, hC_R, hC_B, hC_b, hU_I, hU_L, hU_R, hU_B, hU_b]
    · rw [F.I 20 (by decide)]
      show _ = i32 ((List.range 512).countP (fun q => hp_B (hp_sB S.m 8729 t b) 8745 q))
      rw [eB _ (by decide)]
      exact H.s.cc
    · rw [F.I 22 (by decide)]; exact H.s.ro
    · rw [F.I 34 (by decide)]; exact H.s.gc
    · rw [F.I 14 (by decide)]; exact H.s.ac
    · rw [F.I 28 (by decide)]; exact H.s.to
end SPW
