/-! the class's calls: receive, close, alarm, channel, release -/
section RCV
variable {w w' : kx_H} {S S' : kS} {t g n d c : Nat} {x : Int32} {v val : Int64} {f b : Bool} {Q : List kQ} {fp tp fv ft : List Nat} {V : List (Nat × Int64 × Nat)} {A : List (Nat × kMe)} {l : kLoc}
theorem met_th (S : kS) (e : kMo) (v : Int64) (f b : Bool) : (sMet S e v f b).th = S.th := rfl
theorem has_th (S : kS) (t : Nat) (v : Int64) (f b : Bool) (k : Int32) : (sHas S t v f k b).th = S.th := rfl
theorem sto_th (S : kS) (c : Nat) (v : Int64) : (sStore S c v).th = S.th := rfl
theorem tkF_th (S : kS) (c : Nat) : (sTkF S c).th = S.th := rfl
theorem take_th (S : kS) (t c : Nat) (k : Int32) : (sTake S t c k).th = S.th := by
  unfold sTake
  by_cases h : 0 < sCnt S c
  · cases sFst S c true with
    | none => simp only [if_pos h, has_th, tkF_th]
    | some e => simp only [if_pos h, met_th, sto_th, has_th, tkF_th]
  · cases sFst S c true with
    | none => simp only [if_neg h, has_th]
    | some e => simp only [if_neg h, met_th, has_th]
theorem K_recv (H : CR w S n) (I : SI S n) (J : SJ S n) (hn : n < 512) (r : rmOK w) : ∃ w', kx_ev wx_M (d + 8) 50 [kx_r 0 (some 1), kx_i x] w = some (if (pRecv S x).1.th = 0 then .inl (some (.inl (kx_b (pRecv S x).2))) else .inr (e3 (pRecv S x).1.th), w') ∧ CR w' (pRecv S x).1 n ∧ FB w w' := by
  have hl1 := I.l.1
  have hl2 := I.l.2
  have mb := K_mbCh (d := d + 5) (x := x) H r (by omega)
  have mc := K_cur (d := d + 6) H r (by omega)
  obtain ⟨ψ, hψ⟩ := kx_fu
  rw [mE_50 hψ]
  unfold mb_50_0
  unfold pRecv
  by_cases hA : x ≠ -1 ∧ isCh S x = false
  · rw [if_pos hA] at mb ⊢
    refine ⟨_, ?_, (H.th 1).bump 1 6, FC.rf.bm⟩
    simp only [ob_s, mb, br_e]
    rfl
  · rw [if_neg hA] at mb ⊢
    have hv := ch_or hA
    rcases cur_or S with hc | ⟨t, hc⟩
    · rw [hc] at mc
      have mc' : kx_ev wx_M (d + 7) 24 [kx_r 0 (some 1)] w = some (.inr 0, hp_bump w 1 6) := mc
      refine ⟨_, ?_, ?_, FC.rf.bm⟩
      rotate_left
      · rw [hc]; exact (H.th 2).bump 1 6
      · rw [hc]
        simp only [ob_s, mb, br_n, mc', br_e]
        rfl
    · have ht := I.b.cu t hc
      have h0 := I.cs t hc
      have hst : S.std ≠ 1 := by rw [J.sd t hc]; decide
      rw [hc] at mc
      have mc' : kx_ev wx_M (d + 7) 24 [kx_r 0 (some 1)] w = some (.inl (some (.inr (.inr (6, some (524 + 2 * t))))), w) := mc
      simp only [hc, ob_s, mb, br_n, mc']
      have Bsl := fun (how : Int32) (L : List kMo) => SB.rest (how := how) (place := x) I.b (I.b.nin0 h0) ht L [] []
      rcases hv with rfl | h2
      · have e518 : chc (-1) = 518 := by decide
        have at0 := C_gives0 (d := d + 6) H
        have hms : mayRecv S (-1) = false := by unfold mayRecv; exact decide_eq_false (fun h => absurd h.1 (by decide))
        rw [hms, if_neg (show ¬ false = true by simp), if_neg (show ¬ (0 : Int32) ≤ -1 by decide)]
        have B1 := Bsl 7 [] (by simp) (Or.inl rfl) (Or.inl rfl)
        simp only [List.append_nil] at B1
        obtain ⟨w1, w2, a1, a2, H2, F2⟩ := K_rest (d := d) (l := some (.inl (none, false))) (st := 7) (x := -1) (val := 0) (S := sTh S 0) (H.th 0) hst ht h0 trivial (Or.inr (Or.inr (Or.inr rfl))) (fun h => by cases h) (by rw [sAdd_nw]; exact B1.of B1.cu (fun _ _ => rfl) (List.Sublist.refl _) (List.Sublist.refl _) (List.Sublist.refl _) (List.Sublist.refl _)) I.a (by show S.mv.length + S.me.length ≤ 512; omega)
        rw [sAdd_nw] at H2
        refine ⟨w2, ?_, H2, F2.fb⟩
        have hth : (sRest (sTh S 0) t 7 (-1), false).1.th = 0 := next_th _
        rw [if_pos hth]
        have k18 := H.k.d.2.2.2.2.1
        have k404 := H.k.nw.2.2
        have k400 := H.k.nw.1
        have a1' : kx_ev wx_M (d + 7) 27 [kx_r 6 (some (524 + 2 * t)), kx_r 5 (some 520), kx_i 7, kx_i (-1)] w = some (.inl none, w1) := a1
        simp only [e518, at0, bi_n, if_true, ob_s, k18, k404, me_50_47, mb_50_47, k400, a1', bv_n, a2]
        rfl
      · obtain ⟨c, hcc, rfl, hb⟩ := isCh_t h2
        have hnat := i32_nat (n := c) (by omega)
        have hge := i32_ge (n := c) (by omega)
        have ecc : chc (i32 c) = 1035 + 3 * c := by
          unfold chc
          rw [if_neg (show ¬ i32 c < 0 by rw [i32_neg (by omega)]; simp), hnat]
        have agv := C_gives (d := d + 6) H hcc (by omega)
        simp only [hnat, hge, if_true, ecc, agv, bi_n]
        have hmt : mayRecv S (i32 c) = gvAt S c := by
          rw [Bool.eq_iff_iff, mayRecv_i hcc]
          unfold gvAt
          simp
          constructor
          · rintro (h | h | h)
            · exact Or.inl (Or.inl h)
            · exact Or.inr h
            · exact Or.inl (Or.inr h)
          · rintro ((h | h) | h)
            · exact Or.inl h
            · exact Or.inr (Or.inr h)
            · exact Or.inr (Or.inl h)
        rw [hmt]
        cases htk : gvAt S c with
        | true =>
          simp only [eq_self, reduceCtorEq, if_true, if_false]
          obtain ⟨w1, a1, H1, F1⟩ := C_recvNow (d := d + 3) (t := t) (k := -1) (H.th 0) hcc (by show S.mv.length < 512; omega) ht h0
          refine ⟨w1, ?_, H1, F1.fb⟩
          have hth : (sTake (sTh S 0) t c (-1)).th = 0 := take_th _ _ _ _
          rw [if_pos hth]
          simp only [kx_b_t, i10, if_false, a1, bv_n]
          rfl
        | false =>
          simp only [eq_self, reduceCtorEq, if_true, if_false]
          have B1 := Bsl 3 [(t, c, false, 0, -1)] (by simp [hcc]) (Or.inl rfl) (Or.inl rfl)
          simp only [List.append_nil] at B1
          obtain ⟨w1, w2, a1, a2, H2, F2⟩ := K_rest (d := d) (l := some (.inl (some c, false))) (st := 3) (x := i32 c) (val := 0) (S := sTh S 0) (H.th 0) hst ht h0 hcc (Or.inr (Or.inl rfl)) (fun h => by cases h) (by rw [sAdd_ch]; exact B1.of B1.cu (fun _ _ => rfl) (List.Sublist.refl _) (List.Sublist.refl _) (List.Sublist.refl _) (List.Sublist.refl _)) I.a (by show S.mv.length + S.me.length ≤ 512; omega)
          rw [sAdd_ch] at H2
          refine ⟨w2, ?_, H2, F2.fb⟩
          have hth : (sRest (kS.s_mo ((kS.s_th S (0))) (S.mo ++ [(t, c, false, 0, -1)])) t 3 (i32 c)).th = 0 := next_th _
          rw [if_pos hth]
          have k18 := H.k.d.2.2.2.2.1
          have hne : (some (1035 + 3 * c) = some 518) = False := by simp; omega
          have k404 := (H.k.c c hcc).2.2.2
          have k400 := (H.k.c c hcc).2.1
          have a1' : kx_ev wx_M (d + 7) 27 [kx_r 6 (some (524 + 2 * t)), kx_r 5 (some (1037 + 3 * c)), kx_i 3, kx_i (i32 c)] w = some (.inl none, w1) := a1
          simp only [kx_b_f, if_true, ob_s, k18, hne, if_false, k404, me_50_47, mb_50_47, k400, a1', bv_n, a2]
          rfl
theorem all_th {r : Bool} : ∀ (k : Nat) (S : kS), (sAll k S c r f b).th = S.th := by
  intro k
  induction k with
  | zero => intro S; rfl
  | succ k ih =>
    intro S
    unfold sAll
    cases h : sFst S c r with
    | none => rfl
    | some e => exact ih (sMet S e 0 f b)
/-- a channel is closed, or open -/
theorem C_clo (H : CX w S n Q fp tp V fv A ft) (hc : c < 512) : CX (hp_sB w 408 (1035 + 3 * c) b) (kS.s_m S (hp_sB S.m 8747 c b)) n Q fp tp V fv A ft ∧ FR [] [] [] [408] w (hp_sB w 408 (1035 + 3 * c) b) := by
  have F : FR [] [] [] [408] w (hp_sB w 408 (1035 + 3 * c) b) := FR.sB (by decide) FR.rf
  have eB : ∀ k, k ≠ 8747 → hp_B (hp_sB S.m 8747 c b) k = hp_B S.m k := fun k hk => by funext j; simp [hB_B, hk]
  refine ⟨⟨H.k.fr F (by decide) (by decide) (by decide) (by decide), ?_, (H.s.fr F (by decide) (by decide) (by decide) (by decide)).sc rfl rfl rfl (eB _ (by decide)) (eB _ (by decide)) rfl rfl rfl rfl, ?_, (H.g.fr F (by decide) (by decide) (by decide) (by decide)).sc rfl rfl rfl rfl, H.q.fr F (by decide) (by decide) (by decide) (by decide), H.o.fr F (by decide) (by decide) (by decide) (by decide), H.rd, H.mo, H.sn, H.v.fr F (by decide) (by decide) (by decide) (by decide), H.a.imp id (fun h => h.fr F (by decide) (by decide) (by decide) (by decide))⟩, F⟩
  · have h := H.t.fr F (by decide) (by decide) (by decide) (by decide)
    refine ⟨fun q hq => ?_, h.st, h.at, h.re, fun q hq => ?_, h.ca, fun q hq => ?_⟩
    · show _ = hp_B (hp_sB S.m 8747 c b) 8729 q; rw [eB _ (by decide)]; exact h.al q hq
    · show _ = hp_B (hp_sB S.m 8747 c b) 8737 q; rw [eB _ (by decide)]; exact h.fl q hq
    · show _ = hp_B (hp_sB S.m 8747 c b) 8741 q; rw [eB _ (by decide)]; exact h.br q hq
  · refine ⟨fun j hj => ?_, fun j hj => ?_, H.c.ro, H.c.he, H.c.al, ?_⟩
    · show _ = hp_B (hp_sB S.m 8747 c b) 8745 j
      rw [eB _ (by decide), F.B 406 (by decide) ] <;> exact H.c.th j hj
    · have h5 := H.c.cl j hj
      show _ = hp_B (hp_sB S.m 8747 c b) 8747 j
      by_cases hjc : j = c
      · subst hjc; simp [hI_I, hI_L, hI_R, hI_B, hI_b, hL_I, hL_L, hL_R, hL_B, hL_b, hR_I, hR_L, hR_R, hR_B, hR_b, hB_I, hB_L, hB_R, hB_B, hB_b, hN_I, hN_L, hN_R, hN_B, hN_b, hT_I, hT_L, hT_R, hT_B, hT_b, hX_I, hX_L, hX_R, hX_B, hX_b, hC_I, hC_L, hC_R, hC_B, hC_b, hU_I, hU_L, hU_R, hU_B, hU_b]
      · have h9 : ¬ 3 * j = 3 * c := by omega
        simp [hI_I, hI_L, hI_R, hI_B, hI_b, hL_I, hL_L, hL_R, hL_B, hL_b, hR_I, hR_L, hR_R, hR_B, hR_b, hB_I, hB_L, hB_R, hB_B, hB_b, hN_I, hN_L, hN_R, hN_B, hN_b, hT_I, hT_L, hT_R, hT_B, hT_b, hX_I, hX_L, hX_R, hX_B, hX_b, hC_I, hC_L, hC_R, hC_B, hC_b, hU_I, hU_L, hU_R, hU_B, hU_b, hjc, h9]; exact h5
    · have h9 : ¬ (518 = 1035 + 3 * c) := by omega
      simp [hI_I, hI_L, hI_R, hI_B, hI_b, hL_I, hL_L, hL_R, hL_B, hL_b, hR_I, hR_L, hR_R, hR_B, hR_b, hB_I, hB_L, hB_R, hB_B, hB_b, hN_I, hN_L, hN_R, hN_B, hN_b, hT_I, hT_L, hT_R, hT_B, hT_b, hX_I, hX_L, hX_R, hX_B, hX_b, hC_I, hC_L, hC_R, hC_B, hC_b, hU_I, hU_L, hU_R, hU_B, hU_b, h9]
      exact H.c.nw
theorem K_close (H : CR w S n) (I : SI S n) (J : SJ S n) (hn : n < 512) (r : rmOK w) : ∃ w', kx_ev wx_M (d + 8) 53 [kx_r 0 (some 1), kx_i x] w = some (if (pClose S x).th = 0 then .inl none else .inr (e3 (pClose S x).th), w') ∧ CR w' (pClose S x) n ∧ FB w w' := by
  have hl2 := I.l.2
  have mb := K_mbCh (d := d + 5) (x := x) H r (by omega)
  have mc := K_cur (d := d + 6) H r (by omega)
  obtain ⟨ψ, hψ⟩ := kx_fu
  rw [mE_53 hψ]
  unfold mb_53_0
  unfold pClose
  by_cases hA : x ≠ -1 ∧ isCh S x = false
  · rw [if_pos hA] at mb ⊢
    refine ⟨_, ?_, (H.th 1).bump 1 6, FC.rf.bm⟩
    simp only [ob_s, mb, br_e]
    rfl
  · rw [if_neg hA] at mb ⊢
    have hv := ch_or hA
    rcases cur_or S with hc | ⟨t, hc⟩
    · rw [hc] at mc
      have mc' : kx_ev wx_M (d + 7) 24 [kx_r 0 (some 1)] w = some (.inr 0, hp_bump w 1 6) := mc
      rw [if_pos hc]
      refine ⟨_, ?_, (H.th 2).bump 1 6, FC.rf.bm⟩
      simp only [ob_s, mb, br_n, mc', br_e]
      rfl
    · rw [hc] at mc
      have mc' : kx_ev wx_M (d + 7) 24 [kx_r 0 (some 1)] w = some (.inl (some (.inr (.inr (6, some (524 + 2 * t))))), w) := mc
      rw [if_neg (show ¬ S.cur = none by rw [hc]; simp)]
      have k18 := H.k.d.2.2.2.2.1
      have th := thd_ok (d := d + 7) (e := 2) (l := []) (w := w) (by omega) r.1 r.2
      simp only [ob_s, mb, br_n, mc', k18, me_53_26, mb_53_26, th]
      rcases hv with rfl | h2
      · have e518 : chc (-1) = 518 := by decide
        rw [if_pos (show (-1 : Int32) < 0 ∨ sClosed S (Int32.toNatClampNeg (-1)) = true from Or.inl (by decide))]
        refine ⟨_, ?_, (H.th 3).bump 1 6, FC.rf.bm⟩
        simp only [e518, if_true]
        rfl
      · obtain ⟨c, hcc, rfl, hb⟩ := isCh_t h2
        have hnat := i32_nat (n := c) (by omega)
        have ecc : chc (i32 c) = 1035 + 3 * c := by
          unfold chc
          rw [if_neg (show ¬ i32 c < 0 by rw [i32_neg (by omega)]; simp), hnat]
        have hne : (some (1035 + 3 * c) = some 518) = False := by simp; omega
        have cl' : hp_B w 408 (1035 + 3 * c) = sClosed S c := H.c.cl c hcc
        simp only [ecc, hne, if_false, ob_s, cl', kx_b_0, hnat, i32_neg (n := c) (by omega), false_or]
        cases hcl : sClosed S c with
        | true =>
          simp only [eq_self, reduceCtorEq, if_true, if_false]
          exact ⟨_, rfl, (H.th 3).bump 1 6, FC.rf.bm⟩
        | false =>
          simp only [eq_self, reduceCtorEq, if_true, if_false]
          obtain ⟨Q, fp, tp, V, fv, A, ft, HX⟩ := H.th 0
          obtain ⟨H1, F1⟩ := C_clo (c := c) (b := true) HX hcc
          obtain ⟨w2, a2, H2, F2⟩ := C_all (d := d + 3) (r := false) (f := false) (b := false) H1.cr hcc (by show S.mo.length < 1000; omega)
          have hal2 := all_len (k := c) (g := false) (f := false) (b := false) S.mo.length (kS.s_m ((kS.s_th S (0))) (hp_sB S.m 8747 c true))
          have hal3 : (sAll S.mo.length (kS.s_m ((kS.s_th S (0))) (hp_sB S.m 8747 c true)) c false false false).mo.length ≤ S.mo.length := hal2
          obtain ⟨w3, a3, H3, F3⟩ := C_all (d := d + 3) (r := true) (f := false) (b := true) H2 hcc (Nat.lt_of_le_of_lt hal3 (by omega))
          rw [kx_b_f] at a2
          rw [kx_b_f, kx_b_t] at a3
          refine ⟨w3, ?_, H3, ((FC.of F1 (by decide) (by decide) (by decide) (by decide)).tr (F2.tr F3)).fb⟩
          rw [if_pos ((all_th _ _).trans ((all_th _ _).trans rfl))]
          have k404 : hp_R (hp_sB w 408 (1035 + 3 * c) true) 404 (1035 + 3 * c) = some (1037 + 3 * c) := (H.k.c c hcc).2.2.2
          have k402 : hp_R w2 402 (1035 + 3 * c) = some (1036 + 3 * c) := (H2.k.c c hcc).2.2.1
          have a2' : kx_ev wx_M (d + 7) 54 [kx_r 0 (some 1), kx_r 5 (some (1037 + 3 * c)), kx_i 0, kx_i 0] (hp_sB w 408 (1035 + 3 * c) true) = some (.inl none, w2) := a2
          have a3' : kx_ev wx_M (d + 7) 54 [kx_r 0 (some 1), kx_r 5 (some (1036 + 3 * c)), kx_i 0, kx_i 1] w2 = some (.inl none, w3) := a3
          simp only [kx_sb_1, k404, a2', bv_n, k402, a3']
end RCV
