/-! the class's calls: spawn, channel -/
section CHN
variable {w w' : kx_H} {S S' : kS} {t g n d c : Nat} {x : Int32} {v val : Int64} {f b : Bool} {Q : List kQ} {fp tp fv ft : List Nat} {V : List (Nat × Int64 × Nat)} {A : List (Nat × kMe)} {l : kLoc}
/-- where a task waits is written -/
theorem C_at (H : CX w S n Q fp tp V fv A ft) (ht : t < 256) (T : kS) (t1 : T.cur = S.cur) (t2 : T.std = S.std) (t3 : T.clk = S.clk) (t4 : T.m = hp_sI S.m 8733 t x) (t5 : T.rd = S.rd) (t6 : T.rooms = S.rooms) (t7 : T.mv = S.mv) (t8 : T.mo = S.mo) (t9 : T.mt = S.mt) (t10 : T.gates = S.gates) (t11 : T.sn = S.sn) (t12 : T.me = S.me) (t13 : T.al = S.al) : CX (hp_sI w 1208 (524 + 2 * t) x) T n Q fp tp V fv A ft ∧ FR [1208] [] [] [] w (hp_sI w 1208 (524 + 2 * t) x) := by
  have F : FR [1208] [] [] [] w (hp_sI w 1208 (524 + 2 * t) x) := FR.sI (by decide) FR.rf
  have eI : ∀ k, k ≠ 8733 → hp_I (hp_sI S.m 8733 t x) k = hp_I S.m k := fun k hk => by funext j; simp [hI_I, hk]
  have hB : hp_B T.m = hp_B S.m := by rw [t4]; rfl
  have hL : hp_L T.m = hp_L S.m := by rw [t4]; rfl
  have hstt : stt T = stt S := by funext j; unfold stt; rw [t4, eI _ (by decide)]
  refine ⟨⟨H.k.fr F (by decide) (by decide) (by decide) (by decide), ?_, (H.s.fr F (by decide) (by decide) (by decide) (by decide)).sc t1 t2 t3 (by rw [hB]) (by rw [hB]) t6 t10 t13 t9, (H.c.fr F (by decide) (by decide) (by decide) (by decide)).sc (by rw [hB]) (by rw [hB]) (by rw [t4, eI _ (by decide)]) t7 t12, (H.g.fr F (by decide) (by decide) (by decide) (by decide)).sc (by rw [t4, eI _ (by decide)]) (by rw [t4, eI _ (by decide)]) (by rw [t4, eI _ (by decide)]) t10, by rw [hstt]; exact H.q.fr F (by decide) (by decide) (by decide) (by decide), by rw [t9]; exact H.o.fr F (by decide) (by decide) (by decide) (by decide), t5.trans H.rd, t8.trans H.mo, t11.trans H.sn, by rw [t7]; exact H.v.fr F (by decide) (by decide) (by decide) (by decide), by rw [t2, t12]; exact H.a.imp id (fun h => h.fr F (by decide) (by decide) (by decide) (by decide))⟩, F⟩
  refine ⟨fun q hq => by rw [hB]; exact H.t.al q hq, fun q hq => ?_, fun q hq => ?_, fun q hq => by rw [hL]; exact H.t.re q hq, fun q hq => by rw [hB]; exact H.t.fl q hq, fun q hq => ?_, fun q hq => by rw [hB]; exact H.t.br q hq⟩
  · rw [F.I 1206 (by decide), t4, eI _ (by decide)]; exact H.t.st q hq
  · have h5 := H.t.at q hq
    rw [t4]
    by_cases hqt : q = t
    · subst hqt; simp [hI_I, hI_L, hI_R, hI_B, hI_b, hL_I, hL_L, hL_R, hL_B, hL_b, hR_I, hR_L, hR_R, hR_B, hR_b, hB_I, hB_L, hB_R, hB_B, hB_b, hN_I, hN_L, hN_R, hN_B, hN_b, hT_I, hT_L, hT_R, hT_B, hT_b, hX_I, hX_L, hX_R, hX_B, hX_b, hC_I, hC_L, hC_R, hC_B, hC_b, hU_I, hU_L, hU_R, hU_B, hU_b]
    · have h9 : ¬ 2 * q = 2 * t := by omega
      simp [hI_I, hI_L, hI_R, hI_B, hI_b, hL_I, hL_L, hL_R, hL_B, hL_b, hR_I, hR_L, hR_R, hR_B, hR_b, hB_I, hB_L, hB_R, hB_B, hB_b, hN_I, hN_L, hN_R, hN_B, hN_b, hT_I, hT_L, hT_R, hT_B, hT_b, hX_I, hX_L, hX_R, hX_B, hX_b, hC_I, hC_L, hC_R, hC_B, hC_b, hU_I, hU_L, hU_R, hU_B, hU_b, hqt, h9]; exact h5
  · rw [F.I 1216 (by decide), t4, eI _ (by decide)]; exact H.t.ca q hq
theorem K_spawn (H : CR w S n) (I : SI S n) (J : SJ S n) (hn : n < 512) (r : rmOK w) : ∃ w', kx_ev wx_M (d + 8) 23 [kx_r 0 (some 1)] w = some (if (pSpawn S).1.th = 0 then .inl (some (.inl (pSpawn S).2)) else .inr 0, w') ∧ CR w' (pSpawn S).1 n ∧ FB w w' := by
  have mc := K_cur (d := d + 6) H r (by omega)
  obtain ⟨φ, hφ⟩ := kx_fl 1000 (by omega)
  have aff : kx_ev wx_M (d + 7) 25 [kx_r 0 (some 1)] w = some (.inl (some (.inr (.inr (6, ((List.range 256).find? (fun t => !hp_B S.m 8729 t)).map (fun t => 524 + 2 * t))))), w) := by
    rw [mE_25 hφ]
    unfold mb_25_0
    exact K_ff H 256 0 (φ + 1000) (by omega) (by omega) (fun i hi => by omega)
  have bad : S.cur = none ∨ (List.range 256).find? (fun t => !hp_B S.m 8729 t) = none → pSpawn S = (sTh S 1, 0) := by
    unfold pSpawn
    rintro (h | h)
    · cases hf : (List.range 256).find? (fun t => !hp_B S.m 8729 t) with
      | none => rfl
      | some k => exact if_pos h
    · rw [h]
  obtain ⟨ψ, hψ⟩ := kx_fu
  rw [mE_23 hψ]
  unfold mb_23_0
  rcases cur_or S with hc | ⟨t, hc⟩
  · rw [bad (Or.inl hc)]
    rw [hc] at mc
    have mc' : kx_ev wx_M (d + 7) 24 [kx_r 0 (some 1)] w = some (.inr 0, hp_bump w 1 6) := mc
    refine ⟨_, ?_, (H.th 1).bump 1 6, FC.rf.bm⟩
    simp only [ob_s, mc', br_e]
    rfl
  · have hcn : ¬ S.cur = none := by rw [hc]; simp
    rw [hc] at mc
    have mc' : kx_ev wx_M (d + 7) 24 [kx_r 0 (some 1)] w = some (.inl (some (.inr (.inr (6, some (524 + 2 * t))))), w) := mc
    cases hf : (List.range 256).find? (fun t => !hp_B S.m 8729 t) with
    | none =>
      rw [bad (Or.inr hf)]
      rw [hf] at aff
      refine ⟨_, ?_, (H.th 1).bump 1 6, FC.rf.bm⟩
      simp only [ob_s, mc', br_n, aff, Option.map_none, if_true]
      rw [thd_ok (by omega) r.1 r.2]
      rfl
    | some k =>
      have hk : k < 256 := List.mem_range.mp (List.mem_of_find?_eq_some hf)
      have hkf : hp_B S.m 8729 k = false := by
        have := List.find?_some hf
        simpa using this
      have hk0 := J.dd hcn k hk hkf
      have hp : pSpawn S = (sWake (sHas (kS.s_m ((kS.s_th S (0))) (hp_sB S.m 8729 k true)) k 0 false (-1) false) k, i32 k) := by
        unfold pSpawn
        rw [hf]
        exact if_neg hcn
      rw [hp]
      rw [hf] at aff
      obtain ⟨y, hy⟩ : ∃ y, (List.range 256).countP (fun q => hp_B (hp_sB S.m 8729 k true) 8729 q) = y := ⟨_, rfl⟩
      have hy2 : y = (List.range 256).countP (fun q => hp_B S.m 8729 q) + 1 := by
        rw [← hy, hB_row]
        exact cp_set (p := fun q => hp_B S.m 8729 q) hk hkf
      obtain ⟨Q, fp, tp, V, fv, A, ft, HX⟩ := H.th 0
      obtain ⟨H1, F1⟩ := C_alive (t := k) (b := true) HX hk hy
      obtain ⟨H2, F2⟩ := C_at (t := k) (x := -1) H1 hk (kS.s_m ((kS.s_th S (0))) (hp_sI (hp_sB S.m 8729 k true) 8733 k (-1))) rfl rfl rfl rfl rfl rfl rfl rfl rfl rfl rfl rfl rfl
      obtain ⟨w3, a3, H3, F3⟩ := C_tell (d := d + 5) (t := k) (v := 0) (f := false) (x := -1) (b := false) H2 hk
      obtain ⟨w4, a4, H4, F4⟩ := C_ready (d := d + 4) (t := k) H3 hk (Or.inl (by rw [stt_has]; show hp_I (hp_sI (hp_sB S.m 8729 k true) 8733 k (-1)) 8731 k = 0; simp [hI_I, hI_B]; exact hk0))
      have em : sWake (sHas (kS.s_m ((kS.s_th S (0))) (hp_sI (hp_sB S.m 8729 k true) 8733 k (-1))) k 0 false (-1) false) k = sWake (sHas (kS.s_m ((kS.s_th S (0))) (hp_sB S.m 8729 k true)) k 0 false (-1) false) k := by
        have e : hp_sI (hp_sI (hp_sB (hp_sI (hp_sB (hp_sL (hp_sI (hp_sB S.m 8729 k true) 8733 k (-1)) 8735 k 0) 8737 k false) 8739 k (-1)) 8741 k false) 8731 k 1) 8733 k (-1) = hp_sI (hp_sI (hp_sB (hp_sI (hp_sB (hp_sL (hp_sB S.m 8729 k true) 8735 k 0) 8737 k false) 8739 k (-1)) 8741 k false) 8731 k 1) 8733 k (-1) := by
          refine kx_ext ?_ rfl rfl rfl rfl rfl rfl rfl rfl
          funext a j
          simp only [hI_I, hI_L, hI_R, hI_B, hI_b, hL_I, hL_L, hL_R, hL_B, hL_b, hR_I, hR_L, hR_R, hR_B, hR_b, hB_I, hB_L, hB_R, hB_B, hB_b, hN_I, hN_L, hN_R, hN_B, hN_b, hT_I, hT_L, hT_R, hT_B, hT_b, hX_I, hX_L, hX_R, hX_B, hX_b, hC_I, hC_L, hC_R, hC_B, hC_b, hU_I, hU_L, hU_R, hU_B, hU_b]
          by_cases h1 : a = 8733
          · subst h1
            by_cases h2 : j = k <;> simp [h2]
          · simp [h1]
        have e2 : ∀ M : kx_H, sWake (sHas (kS.s_m ((kS.s_th S (0))) (M)) k 0 false (-1) false) k = ((S.s_th 0).s_m (hp_sI (hp_sI (hp_sB (hp_sI (hp_sB (hp_sL M 8735 k 0) 8737 k false) 8739 k (-1)) 8741 k false) 8731 k 1) 8733 k (-1))).s_rd (S.rd ++ [k]) := fun M => rfl
        rw [e2, e2, e]
      rw [em] at H4
      -- the store of begin
      have hw : hp_sI (hp_sI (hp_sB w 1204 (524 + 2 * k) true) 2 1 (i32 y)) 1208 (524 + 2 * k) (-1) = hp_sI (hp_sI (hp_sB w 1204 (524 + 2 * k) true) 1208 (524 + 2 * k) (-1)) 2 1 (i32 y) := hp_sI_comm _ _ _ (by decide)
      rw [hw] at a3 F3
      have a12 : kx_ev wx_M (d + 6) 12 [kx_r 6 (some (524 + 2 * k)), kx_l 0, kx_i 0, kx_i (-1), kx_i 0] (hp_sI (hp_sB w 1204 (524 + 2 * k) true) 1208 (524 + 2 * k) (-1)) = some (.inl none, hp_sB (hp_sI (hp_sB (hp_sL (hp_sI (hp_sB w 1204 (524 + 2 * k) true) 1208 (524 + 2 * k) (-1)) 1212 (524 + 2 * k) 0) 1214 (524 + 2 * k) false) 1216 (524 + 2 * k) (-1)) 1218 (524 + 2 * k) false) := by
        obtain ⟨χ, hχ⟩ := kx_fu
        rw [mE_12 hχ]
        unfold mb_12_0
        simp only [ob_s, kx_sb_0]
      have a3' : some (Sum.inl none, w3) = (some (Sum.inl none, hp_sB (hp_sI (hp_sB (hp_sL (hp_sI (hp_sI (hp_sB w 1204 (524 + 2 * k) true) 1208 (524 + 2 * k) (-1)) 2 1 (i32 y)) 1212 (524 + 2 * k) 0) 1214 (524 + 2 * k) false) 1216 (524 + 2 * k) (-1)) 1218 (524 + 2 * k) false) : kx_O) := by
        rw [← a3]
        obtain ⟨χ, hχ⟩ := kx_fu
        rw [mE_12 hχ]
        unfold mb_12_0
        simp only [ob_s, kx_sb_b]
      have hw3 : w3 = hp_sB (hp_sI (hp_sB (hp_sL (hp_sI (hp_sI (hp_sB w 1204 (524 + 2 * k) true) 1208 (524 + 2 * k) (-1)) 2 1 (i32 y)) 1212 (524 + 2 * k) 0) 1214 (524 + 2 * k) false) 1216 (524 + 2 * k) (-1)) 1218 (524 + 2 * k) false := by
        injection a3' with h1
        exact (Prod.mk.inj h1).2
      have hw4 : hp_sI (hp_sB (hp_sI (hp_sB (hp_sL (hp_sI (hp_sB w 1204 (524 + 2 * k) true) 1208 (524 + 2 * k) (-1)) 1212 (524 + 2 * k) 0) 1214 (524 + 2 * k) false) 1216 (524 + 2 * k) (-1)) 1218 (524 + 2 * k) false) 2 1 (i32 y) = w3 := by
        rw [hw3]
        refine kx_ext ?_ rfl rfl rfl rfl rfl rfl rfl rfl
        funext a j
        simp only [hI_I, hI_L, hI_R, hI_B, hI_b, hL_I, hL_L, hL_R, hL_B, hL_b, hR_I, hR_L, hR_R, hR_B, hR_b, hB_I, hB_L, hB_R, hB_B, hB_b, hN_I, hN_L, hN_R, hN_B, hN_b, hT_I, hT_L, hT_R, hT_B, hT_b, hX_I, hX_L, hX_R, hX_B, hX_b, hC_I, hC_L, hC_R, hC_B, hC_b, hU_I, hU_L, hU_R, hU_B, hU_b]
        by_cases h1 : a = 2
        · subst h1; simp
        · simp [h1]
      have a11 : kx_ev wx_M (d + 7) 11 [kx_r 6 (some (524 + 2 * k))] w = some (.inl none, hp_sB (hp_sI (hp_sB (hp_sL (hp_sI (hp_sB w 1204 (524 + 2 * k) true) 1208 (524 + 2 * k) (-1)) 1212 (524 + 2 * k) 0) 1214 (524 + 2 * k) false) 1216 (524 + 2 * k) (-1)) 1218 (524 + 2 * k) false) := by
        obtain ⟨χ, hχ⟩ := kx_fu
        rw [mE_11 hχ]
        unfold mb_11_0
        simp only [ob_s, kx_sb_1, a12, bv_n]
      have h2 : hp_I (hp_sB (hp_sI (hp_sB (hp_sL (hp_sI (hp_sB w 1204 (524 + 2 * k) true) 1208 (524 + 2 * k) (-1)) 1212 (524 + 2 * k) 0) 1214 (524 + 2 * k) false) 1216 (524 + 2 * k) (-1)) 1218 (524 + 2 * k) false) 2 1 = i32 ((List.range 256).countP (fun q => hp_B S.m 8729 q)) := by
        have := H.s.tc
        simp [hI_I, hI_L, hI_R, hI_B, hI_b, hL_I, hL_L, hL_R, hL_B, hL_b, hR_I, hR_L, hR_R, hR_B, hR_b, hB_I, hB_L, hB_R, hB_B, hB_b, hN_I, hN_L, hN_R, hN_B, hN_b, hT_I, hT_L, hT_R, hT_B, hT_b, hX_I, hX_L, hX_R, hX_B, hX_b, hC_I, hC_L, hC_R, hC_B, hC_b, hU_I, hU_L, hU_R, hU_B, hU_b]
        exact this
      refine ⟨w4, ?_, H4.cr, ?_⟩
      · rw [if_pos (show (sWake (sHas (kS.s_m ((kS.s_th S (0))) (hp_sB S.m 8729 k true)) k 0 false (-1) false) k, i32 k).1.th = 0 from rfl)]
        have hnum : hp_I w4 1200 (524 + 2 * k) = i32 k := (H4.k.t k hk).2.1
        simp only [ob_s, mc', br_n, aff, Option.map_some, reduceCtorEq, if_false, a11, bv_n, h2, i32_add1, ← hy2, hw4, a4, hnum]
      · refine FC.fb ?_
        have G1 : FC w (hp_sI (hp_sI (hp_sB w 1204 (524 + 2 * k) true) 1208 (524 + 2 * k) (-1)) 2 1 (i32 y)) := by
          have : FR [2, 1208] [] [] [1204] w (hp_sI (hp_sI (hp_sB w 1204 (524 + 2 * k) true) 1208 (524 + 2 * k) (-1)) 2 1 (i32 y)) := FR.sI (by decide) (FR.sI (by decide) (FR.sB (by decide) FR.rf))
          exact FC.of this (by decide) (by decide) (by decide) (by decide)
        exact G1.tr ((FC.of F3 (by decide) (by decide) (by decide) (by decide)).tr (FC.of F4 (by decide) (by decide) (by decide) (by decide)))
end CHN
