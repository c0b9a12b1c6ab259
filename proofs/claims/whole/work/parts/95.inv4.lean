/-! what the calls keep: choices, tasks, time -/
section IV4
variable {S S' S'' : kS} {t c g n n' : Nat} {v x : Int64} {f b : Bool} {k how place xc : Int32} {e : kMe} {L : List kMe}
theorem F_close (h : FI S n) : FI (pClose S xc) (n + 1) := by
  unfold pClose
  by_cases hA : xc ≠ -1 ∧ isCh S xc = false
  · rw [if_pos hA]; exact h.th (Nat.le_succ _) 1
  · rw [if_neg hA]
    rcases cur_or S with hc | ⟨t, hc⟩
    · rw [if_pos hc]; exact h.th (Nat.le_succ _) 2
    · obtain ⟨V, hs, al, h0, ht⟩ := h.v0 hc
      rw [if_neg (show ¬ S.cur = none by rw [hc]; simp)]
      by_cases h1 : xc < 0 ∨ sClosed S xc.toNatClampNeg = true
      · rw [if_pos h1]; exact h.th (Nat.le_succ _) 3
      · rw [if_neg h1]
        obtain ⟨U, hU⟩ : ∃ U : kS, U = (kS.s_m ((kS.s_th S (0))) (hp_sB S.m 8747 xc.toNatClampNeg true)) := ⟨_, rfl⟩
        have um : U.m = hp_sB S.m 8747 xc.toNatClampNeg true := by rw [hU]
        have hB : hp_B U.m 8729 = hp_B S.m 8729 := by rw [um]; funext j; simp [hB_B]
        have hI : hp_I U.m = hp_I S.m := by rw [um]; rfl
        have VU : IV U n := V.cong (Nat.le_refl _) (fun q hq => by rw [hU] at hq; exact V.1.cu q hq) (by subst hU; rfl) (by subst hU; rfl) (by subst hU; rfl) (by subst hU; rfl) (by subst hU; rfl) hB (congrFun hI _) (congrFun hI _) (congrFun hI _) (congrFun hI _) (congrFun hI _) (V.2.2.2.1.cong (Nat.le_refl _) (by subst hU; rfl) (congrFun hI _)) (by rw [hU]; exact V.2.2.2.2)
        have hcU : U.cur = some t := by rw [hU]; exact hc
        have hsU : U.std = 0 := by rw [hU]; exact hs
        have h0U : stt U t = 0 := by unfold stt; rw [hI]; exact h0
        have alU : aliv U t := by unfold aliv; rw [hB]; exact al
        simp only
        rw [← hU]
        have F1 := FX.all (c := xc.toNatClampNeg) (f := false) (b := false) (r := false) U.mo.length U
        have V1 := VU.all (c := xc.toNatClampNeg) (f := false) (b := false) (r := false) U.mo.length
        have s1 := st0_all (c := xc.toNatClampNeg) (f := false) (b := false) (r := false) U.mo.length U VU.1 h0U
        generalize sAll U.mo.length U xc.toNatClampNeg false false false = W at F1 V1 s1
        exact FX.stay (F1.tr (FX.all W.mo.length W)) ((V1.all _).mono (Nat.le_succ _)) hcU (st0_all _ W V1.1 s1) alU hsU
theorem F_offer (h : FI S n) : FI (pOffer S xc b v).1 (n + 1) := by
  unfold pOffer
  by_cases hA : xc ≠ -1 ∧ isCh S xc = false
  · rw [if_pos hA]; exact h.th (Nat.le_succ _) 1
  · rw [if_neg hA]
    by_cases h1 : S.cur = none ∨ S.mt.length = 16
    · rw [if_pos h1]; exact h.th (Nat.le_succ _) 2
    · rw [if_neg h1]
      obtain ⟨t, hc⟩ : ∃ t, S.cur = some t := (cur_or S).resolve_left (fun h => h1 (Or.inl h))
      have h16 : S.mt.length ≠ 16 := fun h => h1 (Or.inr h)
      obtain ⟨V, hs, al, h0, ht⟩ := h.v0 hc
      obtain ⟨⟨l1, l2⟩, a3, a4, a5, a6⟩ := V.2.2.2.2
      have V2 : IV (kS.s_mt ((kS.s_th S (0))) (S.mt ++ [(xc, b, v)])) (n + 1) := by
        refine V.cong (S := sTh S 0) (Nat.le_succ _) V.1.cu rfl rfl rfl rfl rfl rfl rfl rfl rfl rfl rfl (V.2.2.2.1.cong (Nat.le_succ _) rfl rfl) ⟨⟨Nat.le_succ_of_le l1, ?_⟩, a3, ?_, fun e he => ?_, a6⟩
        · have l2' : S.mo.length + S.mt.length ≤ n := l2
          show S.mo.length + (S.mt ++ [(xc, b, v)]).length ≤ n + 1
          rw [List.length_append]
          simp
          omega
        · have a4' : S.mt.length ≤ 16 := a4
          show (S.mt ++ [(xc, b, v)]).length ≤ 16
          rw [List.length_append]
          simp
          omega
        · rcases List.mem_append.mp he with h5 | h5
          · exact a5 e h5
          · obtain rfl := List.mem_singleton.mp h5
            rcases ch_or hA with h4 | h4
            · exact Or.inl h4
            · obtain ⟨q, hq, h6, -⟩ := isCh_t h4
              exact Or.inr ⟨q, hq, h6⟩
      exact V2.stay (t := t) hc h0 al hs
theorem F_choose (h : FI S n) : FI (pChoose S xc b).1 (n + 1) := by
  unfold pChoose
  by_cases hA : xc < 0
  · rw [if_pos hA]; exact h.th (Nat.le_succ _) 1
  · rw [if_neg hA]
    rcases cur_or S with hc | ⟨t, hc⟩
    · rw [hc]; exact h.th (Nat.le_succ _) 2
    · obtain ⟨V, hs, al, h0, ht⟩ := h.v0 hc
      simp only [hc]
      obtain ⟨⟨l1, l2⟩, a3, a4, a5, a6⟩ := V.2.2.2.2
      have l1' : S.mv.length + S.me.length ≤ n := l1
      have l2' : S.mo.length + S.mt.length ≤ n := l2
      obtain ⟨U, hU⟩ : ∃ U : kS, U = (kS.s_mt ((kS.s_th S (0))) ([])) := ⟨_, rfl⟩
      have VU : IV U n := by
        rw [hU]
        exact V.cong (S := sTh S 0) (Nat.le_refl _) V.1.cu rfl rfl rfl rfl rfl rfl rfl rfl rfl rfl rfl (V.2.2.2.1.cong (Nat.le_refl _) rfl rfl) ⟨⟨l1', by show S.mo.length + 0 ≤ n; omega⟩, a3, by show 0 ≤ 16; omega, fun e he => (by cases he), a6⟩
      have hcU : U.cur = some t := by rw [hU]; exact hc
      have hsU : U.std = 0 := by rw [hU]; exact hs
      have h0U : stt U t = 0 := by rw [hU]; exact h0
      have alU : aliv U t := by rw [hU]; exact al
      cases he : (cRdy S)[xc.toNatClampNeg % (cRdy S).length]? with
      | some e =>
        simp only
        rw [← hU]
        unfold sDone
        by_cases h1 : e.1.2.1 = false
        · rw [if_pos h1]
          exact FX.stay FX.take (VU.take.mono (Nat.le_succ _)) hcU (st0_take VU.1 h0U) alU hsU
        · rw [if_neg h1]
          by_cases h2 : sClosed U e.1.1.toNatClampNeg = true
          · rw [if_pos h2]
            exact (VU.stay hcU h0U alU hsU).th (Nat.le_succ _) 3
          · rw [if_neg h2]
            exact FX.stay (FX.tr FX.del FX.has) VU.del.has hcU (st0_has (st0_del VU.1 h0U)) alU hsU
      | none =>
        simp only
        by_cases h1 : b = true
        · rw [if_pos h1, ← hU]
          exact FX.stay FX.has (VU.has.mono (Nat.le_succ _)) hcU (st0_has h0U) alU hsU
        · rw [if_neg h1]
          have hX := cOff_mem (t := t) (mt := S.mt) h.1.mc
          obtain ⟨how, hhow⟩ : ∃ how, how = if cOff t S.mt = [] then (7 : Int32) else 4 := ⟨_, rfl⟩
          rw [← hhow]
          have hlen : (cOff t S.mt).length ≤ S.mt.length := by
            refine Nat.le_trans (List.length_filterMap_le _ _) ?_
            simp
          refine V.rest (S := sTh S 0) (n' := n + 1) (t := t) (how := how) (place := -1) (X := cOff t S.mt) (Y := []) (Z := []) (Nat.le_succ _) h0 al hs ht (fun e he => ⟨(hX e he).1, (hX e he).2, ?_⟩) (Or.inl rfl) (Or.inl rfl) (Or.inr rfl) ?_ (fun e he => by cases he) _ rfl rfl rfl rfl rfl rfl rfl (List.append_nil _).symm (List.append_nil _).symm ?_
          · rw [hhow]
            by_cases h5 : cOff t S.mt = []
            · rw [h5] at he; cases he
            · rw [if_neg h5]; exact Or.inr (Or.inr rfl)
          · rw [hhow]
            split <;> decide
          · refine ⟨⟨by show S.mv.length + S.me.length ≤ n + 1; omega, ?_⟩, a3, by show 0 ≤ 16; omega, fun e he => (by cases he), a6⟩
            show (S.mo ++ cOff t S.mt).length + 0 ≤ n + 1
            rw [List.length_append]
            omega
theorem F_alarm (h : FI S n) : FI (pAlarm S xc v) (n + 1) := by
  unfold pAlarm
  by_cases hA : isCh S xc = false ∨ v < 0 ∨ 1000000000 < v
  · rw [if_pos hA]; exact h.th (Nat.le_succ _) 1
  · rw [if_neg hA]
    by_cases h1 : S.cur = none ∨ S.al = 256
    · rw [if_pos h1]; exact h.th (Nat.le_succ _) 2
    · rw [if_neg h1]
      obtain ⟨t, hc⟩ : ∃ t, S.cur = some t := (cur_or S).resolve_left (fun h => h1 (Or.inl h))
      have h256 : S.al ≠ 256 := fun h => h1 (Or.inr h)
      obtain ⟨V, hs, al, h0, ht⟩ := h.v0 hc
      obtain ⟨⟨l1, l2⟩, a3, a4, a5, a6⟩ := V.2.2.2.2
      have hch : isCh S xc = true := by
        cases h5 : isCh S xc with
        | true => rfl
        | false => exact absurd (Or.inl h5) hA
      obtain ⟨q, hq, rfl, -⟩ := isCh_t hch
      rw [i32_nat (by omega)]
      have l1' : S.mv.length + S.me.length ≤ n := l1
      have l2' : S.mo.length + S.mt.length ≤ n := l2
      have a3' : S.al = S.me.countP (fun e => e.1.isRight) := a3
      have a6' : S.al ≤ 256 := a6
      obtain ⟨U, hU⟩ : ∃ U : kS, U = (kS.s_al ((kS.s_me ((kS.s_th S (0))) (S.me ++ [(Sum.inr q, S.clk + v)]))) (S.al + 1)) := ⟨_, rfl⟩
      rw [← hU]
      have u1 : U.cur = S.cur := by subst hU; rfl
      have u2 : U.rd = S.rd := by subst hU; rfl
      have u3 : U.mo = S.mo := by subst hU; rfl
      have u4 : U.sn = S.sn := by subst hU; rfl
      have u5 : U.me = S.me ++ [(Sum.inr q, S.clk + v)] := by subst hU; rfl
      have u6 : U.al = S.al + 1 := by subst hU; rfl
      have u7 : U.m = S.m := by subst hU; rfl
      have u8 : U.mv = S.mv := by subst hU; rfl
      have u9 : U.mt = S.mt := by subst hU; rfl
      have u10 : U.gates = S.gates := by subst hU; rfl
      have u11 : U.rooms = S.rooms := by subst hU; rfl
      have u12 : U.std = S.std := by subst hU; rfl
      clear hU
      obtain ⟨B, T, G, R, -⟩ := V
      have B2 : SB U := by
        obtain ⟨b1, b2, b3, b4, b5, b6, b7, b8, b9⟩ := B
        unfold SB stt
        rw [u1, u2, u3, u4, u5, u7]
        refine ⟨b1, b2, b3, b4, b5, b6, ?_, fun p y hy => ?_, fun p y hy => ?_⟩
        · have e1 : eTs (S.me ++ [(Sum.inr q, S.clk + v)]) = eTs S.me := by unfold eTs; rw [List.filterMap_append]; simp
          rw [e1]; exact b7
        · rcases List.mem_append.mp hy with h5 | h5
          · exact b8 p y h5
          · have := List.mem_singleton.mp h5; cases this
        · rcases List.mem_append.mp hy with h5 | h5
          · exact b9 p y h5
          · have := List.mem_singleton.mp h5; cases this; exact hq
      have T2 : IT U := T.cong (by rw [u7]; rfl) (by rw [u7]; rfl) (by rw [u7]; rfl) u2
      have G2 : IG U (n + 1) := G.cong (Nat.le_succ _) u10 (fun e he => by rw [u4] at he; exact he) (by rw [u7]; rfl) (by rw [u7]; rfl) (by rw [u7]; rfl)
      have R2 : IR U (n + 1) := R.cong (Nat.le_succ _) u11 (by rw [u7]; rfl)
      have L2 : IL U (n + 1) := by
        refine ⟨⟨?_, ?_⟩, ?_, ?_, ?_, ?_⟩
        · rw [u8, u5, List.length_append]
          simp
          omega
        · rw [u3, u9]; omega
        · unfold SA
          rw [u6, u5, List.countP_append, ← a3']
          rfl
        · rw [u9]; exact a4
        · rw [u9]; exact a5
        · rw [u6]; omega
      have V2 : IV U (n + 1) := ⟨B2, T2, G2, R2, L2⟩
      refine V2.stay (t := t) (u1.trans hc) ?_ ?_ (u12.trans hs)
      · unfold stt; rw [u7]; exact h0
      · unfold aliv; rw [u7]; exact al
theorem IT.born (h : IT S) (hB : ∀ q, hp_B S'.m 8729 q = if q = t then true else hp_B S.m 8729 q) (hs : ∀ q, stt S' q = if q = t then 1 else stt S q) (ha : ∀ q, hp_I S'.m 8733 q = if q = t then -1 else hp_I S.m 8733 q) (hr : S'.rd = S.rd ++ [t]) : IT S' := by
  refine ⟨fun q hq hb => ?_, fun q hq hb => ?_, fun q hq hb h2 => ?_⟩
  · rw [hB] at hb
    rw [hs]
    by_cases hqt : q = t
    · rw [if_pos hqt] at hb; cases hb
    · rw [if_neg hqt] at hb ⊢; exact h.1 q hq hb
  · rw [hB] at hb
    rw [hs, ha]
    by_cases hqt : q = t
    · rw [if_pos hqt, if_pos hqt]; exact Or.inr rfl
    · rw [if_neg hqt] at hb
      rw [if_neg hqt, if_neg hqt]; exact h.2.1 q hq hb
  · rw [hB] at hb
    rw [hs] at h2
    rw [hr]
    by_cases hqt : q = t
    · rw [hqt]; exact List.mem_append_right _ (List.mem_singleton.mpr rfl)
    · rw [if_neg hqt] at hb h2; exact List.mem_append_left _ (h.2.2 q hq hb h2)
theorem F_spawn (h : FI S n) : FI (pSpawn S).1 (n + 1) := by
  unfold pSpawn
  cases hf : (List.range 256).find? (fun t => !hp_B S.m 8729 t) with
  | none => exact h.th (Nat.le_succ _) 1
  | some t =>
    simp only
    rcases cur_or S with hc | ⟨q, hc⟩
    · rw [if_pos hc]; exact h.th (Nat.le_succ _) 1
    · rw [if_neg (show ¬ S.cur = none by rw [hc]; simp)]
      obtain ⟨V, hs, al, h0, hq⟩ := h.v0 hc
      have ht : t < 256 := by simpa using List.mem_of_find?_eq_some hf
      have hd : hp_B S.m 8729 t = false := by simpa using List.find?_some hf
      obtain ⟨B, T, G, R, L⟩ := V
      have hst : stt S t = 0 := T.1 t ht hd
      have hne : q ≠ t := fun e => by unfold aliv at al; rw [e, hd] at al; cases al
      obtain ⟨U, hU⟩ : ∃ U : kS, U = (kS.s_m ((kS.s_th S (0))) (hp_sB S.m 8729 t true)) := ⟨_, rfl⟩
      rw [← hU]
      have um : U.m = hp_sB S.m 8729 t true := by rw [hU]
      have hI : hp_I U.m = hp_I S.m := by rw [um]; rfl
      have hBk : ∀ k, k ≠ 8729 → hp_B U.m k = hp_B S.m k := fun k hk => by rw [um]; funext j; simp [hB_B, hk]
      have hB : ∀ q, hp_B U.m 8729 q = if q = t then true else hp_B S.m 8729 q := fun q => by
        rw [um]
        by_cases h : q = t <;> simp [hB_B, h]
      have BU : SB U := B.of (S := sTh S 0) (fun p hp => by rw [hU] at hp; exact B.cu p hp) (fun p _ => congrFun (congrFun hI 8731) p) (by rw [hU]; exact List.Sublist.refl _) (by rw [hU]; exact List.Sublist.refl _) (by rw [hU]; exact List.Sublist.refl _) (by rw [hU]; exact List.Sublist.refl _)
      have hsU : stt U t = 0 := by unfold stt; rw [hI]; exact hst
      have F := FX.tr (FX.has (S := U) (t := t) (v := 0) (f := false) (k := -1) (b := false)) (FX.wake (t := t))
      have hni : nIn (sHas U t 0 false (-1) false) t := (SB.has BU).nin0 (st0_has hsU)
      have B2 : SB (sWake (sHas U t 0 false (-1) false) t) := SB.wake (SB.has BU) ht hni
      have hSt : ∀ p, stt (sWake (sHas U t 0 false (-1) false) t) p = if p = t then 1 else stt S p := fun p => by
        rw [stt_wake, stt_has]
        unfold stt
        rw [hI]
      have T2 : IT (sWake (sHas U t 0 false (-1) false) t) := by
        refine IT.born (t := t) T (fun p => ?_) hSt (fun p => ?_) ?_
        · rw [F.al]; exact hB p
        · rw [wake_at, has_I (by decide), hI]
          rfl
        · subst hU
          rfl
      have GU : IG U n := G.cong (Nat.le_refl _) (by subst hU; rfl) (fun e he => by rw [hU] at he; exact he) (congrFun hI _) (congrFun hI _) (congrFun hI _)
      have RU : IR U n := R.cong (Nat.le_refl _) (by subst hU; rfl) (congrFun hI _)
      have LU : IL U n := by rw [hU]; exact L
      have V2 : IV (sWake (sHas U t 0 false (-1) false) t) (n + 1) := ⟨B2, T2, F.ig GU (Nat.le_succ _), F.ir RU (Nat.le_succ _), LU.mono (Nat.le_succ _)⟩
      refine V2.stay (t := q) (by rw [F.2.2.2.2.2.1, hU]; exact hc) ?_ ?_ (by rw [F.2.2.2.2.1, hU]; exact hs)
      · rw [hSt, if_neg hne]; exact h0
      · unfold aliv
        rw [F.al, hB, if_neg hne]
        exact al
theorem F_way (h : FI S n) : FI (pWay S).1 (n + 1) := by
  unfold pWay
  rcases cur_or S with hc | ⟨t, hc⟩
  · rw [hc]; exact h.th (Nat.le_succ _) 1
  · obtain ⟨V, hs, al, h0, ht⟩ := h.v0 hc
    simp only [hc]
    have hne : (sWake (sTh S 0) t).rd ≠ [] := by show S.rd ++ [t] ≠ []; simp
    rw [← next_cur hne]
    obtain ⟨B, T, G, R, L⟩ := V
    have B1 : SB (sWake (sTh S 0) t) := SB.wake B ht (B.nin0 h0)
    have V2 : IV ((sWake (sTh S 0) t).s_cur none) (n + 1) := ⟨B1.of (fun q hq => by cases hq) (fun _ _ => rfl) (List.Sublist.refl _) (List.Sublist.refl _) (List.Sublist.refl _) (List.Sublist.refl _), (T.wake al).cong rfl rfl rfl rfl, (FX.wake.ig G (Nat.le_succ _)).cong (Nat.le_refl _) rfl (fun _ h => h) rfl rfl rfl, (FX.wake.ir R (Nat.le_succ _)).cong (Nat.le_refl _) rfl rfl, L.mono (Nat.le_succ _)⟩
    exact V2.next hs rfl
end IV4
