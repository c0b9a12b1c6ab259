/-! the class's calls: enter, leave, change -/
section CEN
variable {w w' : kx_H} {S S' : kS} {t g n d c l : Nat} {x y how : Int32} {v val : Int64} {f b : Bool} {Q : List kQ} {fp tp fv ft : List Nat} {V : List (Nat × Int64 × Nat)} {A : List (Nat × kMe)}
/-- Gate.letsInAtOnce -/
def gLets (S : kS) (g : Nat) : Bool := if sKind S g = 3 then false else if sKind S g = 4 then decide (sHeld S g ≠ 1) else decide (sHeld S g = 0)
theorem K_lets (H : CR w S n) (hg : g < 256) : kx_ev wx_M (d + 1) 69 [kx_r 3 (some (2571 + 3 * g))] w = some (.inl (some (.inl (kx_b (gLets S g)))), w) := by
  have ki : hp_I w 606 (2571 + 3 * g) = sKind S g := H.g.ki g hg
  have ta : hp_I w 608 (2571 + 3 * g) = sHeld S g := H.g.ta g hg
  unfold gLets
  obtain ⟨ψ, hψ⟩ := kx_fu
  rw [mE_69 hψ]
  unfold mb_69_0
  simp only [ob_s, ki, ta, me_69_47, mb_69_47, me_69_60, mb_69_60]
  by_cases h3 : sKind S g = 3
  · simp only [if_pos h3]; rfl
  · simp only [if_neg h3]
    by_cases h4 : sKind S g = 4
    · simp only [if_pos h4]
      by_cases h5 : sHeld S g = 1
      · simp only [if_pos h5, h5]; rfl
      · simp only [if_neg h5]
        rw [show decide (sHeld S g ≠ 1) = true from decide_eq_true h5]
        rfl
    · simp only [if_neg h4]
      by_cases h5 : sHeld S g = 0
      · simp only [if_pos h5, h5]; rfl
      · simp only [if_neg h5]
        rw [show decide (sHeld S g = 0) = false from decide_eq_false h5]
        rfl
/-- Gate.take -/
def gTake (S : kS) (g : Nat) : kS := if sKind S g = 0 then stHeld S g 1 else if sKind S g = 1 then stHeld S g (-1) else if sKind S g = 4 ∧ sHeld S g = 0 then stHeld S g 1 else S
theorem K_takeG (H : CR w S n) (hg : g < 256) : ∃ w', kx_ev wx_M (d + 1) 70 [kx_r 3 (some (2571 + 3 * g))] w = some (.inl none, w') ∧ CR w' (gTake S g) n ∧ FC w w' := by
  have ki : hp_I w 606 (2571 + 3 * g) = sKind S g := H.g.ki g hg
  have ta : hp_I w 608 (2571 + 3 * g) = sHeld S g := H.g.ta g hg
  obtain ⟨H1, F1⟩ := CR_held H hg 1
  obtain ⟨H2, F2⟩ := CR_held H hg (-1)
  unfold gTake
  obtain ⟨ψ, hψ⟩ := kx_fu
  rw [mE_70 hψ]
  unfold mb_70_0
  simp only [ob_s, ki, ta, me_70_51, mb_70_51]
  by_cases h0 : sKind S g = 0
  · simp only [if_pos h0]
    exact ⟨_, rfl, H1, F1⟩
  · simp only [if_neg h0]
    by_cases h1 : sKind S g = 1
    · simp only [if_pos h1]
      exact ⟨_, rfl, H2, F2⟩
    · simp only [if_neg h1]
      by_cases h4 : sKind S g = 4
      · simp only [if_pos h4]
        by_cases h5 : sHeld S g = 0
        · simp only [if_pos h5]
          rw [if_pos (show sKind S g = 4 ∧ sHeld S g = 0 from ⟨h4, h5⟩)]
          exact ⟨_, rfl, H1, F1⟩
        · simp only [if_neg h5]
          rw [if_neg (show ¬ (sKind S g = 4 ∧ sHeld S g = 0) from fun h => h5 h.2)]
          exact ⟨_, rfl, H, FC.rf⟩
      · simp only [if_neg h4]
        rw [if_neg (show ¬ (sKind S g = 4 ∧ sHeld S g = 0) from fun h => h4 h.1)]
        exact ⟨_, rfl, H, FC.rf⟩
/-- the rest of enter: it is let in, or waits -/
theorem K_ent (H : CR w S n) (B : SB S) (ha : SA S) (hst : S.std ≠ 1) (ht : t < 256) (h0 : stt S t = 0) (hg : g < 256) (hv : S.mv.length + S.me.length ≤ 512) {F : Nat} : ∃ w', kx_ex (wm_65 (d + 7) (kx_ev wx_M (d + 7))) (F + 3) 24 [(0, kx_r 0 (some 1)), (2, kx_r 3 (some (2571 + 3 * g))), (3, kx_r 6 (some (524 + 2 * t)))] [] w = some (.inl (some (.inl (kx_b (gLets S g)))), w') ∧ CR w' (if gLets S g = true then sHas (gTake S g) t 0 (decide (¬ (sKind S g = 4 ∧ sHeld S g ≠ 0))) (-1) false else sRest (kS.s_sn S (S.sn ++ [(t, g, false)])) t 6 (i32 g)) n ∧ FC w w' := by
  have kl := K_lets (d := d + 6) H hg
  have ki : hp_I w 606 (2571 + 3 * g) = sKind S g := H.g.ki g hg
  have ta : hp_I w 608 (2571 + 3 * g) = sHeld S g := H.g.ta g hg
  have k602 := (H.k.g g hg).2.2.1
  have k600 := (H.k.g g hg).2.1
  rw [show F + 3 = F + 1 + 1 + 1 from rfl, me_65_24]
  unfold mb_65_24
  simp only [ob_s, kl, bi_n, ki, ta]
  cases hl : gLets S g with
  | false =>
    simp only [eq_self, reduceCtorEq, if_true, if_false, kx_b_f]
    have BR := SB.rest (how := 6) (place := i32 g) B (B.nin0 h0) ht [] [] [(t, g, false)] (by simp) (Or.inl rfl) (Or.inr ⟨g, false, rfl, hg, rfl⟩)
    simp only [List.append_nil] at BR
    obtain ⟨w1, w2, a1, a2, H2, F2⟩ := K_rest (d := d) (l := some (.inr (g, false))) (st := 6) (x := i32 g) (val := 0) H hst ht h0 hg rfl (fun h => by cases h) (by rw [sAdd_ga]; exact BR.of BR.cu (fun _ _ => rfl) (List.Sublist.refl _) (List.Sublist.refl _) (List.Sublist.refl _) (List.Sublist.refl _)) ha hv
    rw [sAdd_ga] at H2
    have a1' : kx_ev wx_M (d + 7) 27 [kx_r 6 (some (524 + 2 * t)), kx_r 5 (some (2572 + 3 * g)), kx_i 6, kx_i (i32 g)] w = some (.inl none, w1) := a1
    refine ⟨w2, ?_, H2, F2⟩
    simp only [k602, k600, a1', bv_n, a2]
    rfl
  | true =>
    simp only [eq_self, reduceCtorEq, if_true, if_false, kx_b_t, i10]
    obtain ⟨w1, a1, H1, F1⟩ := K_takeG (d := d + 6) H hg
    obtain ⟨Q1, fp1, tp1, V1, fv1, A1, ft1, HX1⟩ := H1
    have fin : ∀ fl : Bool, ∀ F, ∃ w', kx_ex (wm_65 (d + 7) (kx_ev wx_M (d + 7))) (F + 1) 51 [(2, kx_r 3 (some (2571 + 3 * g))), (3, kx_r 6 (some (524 + 2 * t)))] [kx_i (kx_b fl)] w = some (.inl (some (.inl 1)), w') ∧ CR w' (sHas (gTake S g) t 0 fl (-1) false) n ∧ FC w w' := by
      intro fl F
      obtain ⟨w2, a2, H2, F2⟩ := C_tell (d := d + 6) (t := t) (v := 0) (f := fl) (x := -1) (b := false) HX1 ht
      rw [kx_b_f] at a2
      refine ⟨w2, ?_, H2.cr, F1.tr (FC.of F2 (by decide) (by decide) (by decide) (by decide))⟩
      rw [me_65_51]
      unfold mb_65_51
      simp only [ob_s, a1, bv_n, a2]
      rfl
    have f1 := fin true
    rw [kx_b_t] at f1
    have f0 := fin false
    rw [kx_b_f] at f0
    by_cases h4 : sKind S g = 4
    · simp only [if_pos h4]
      by_cases h5 : sHeld S g = 0
      · simp only [if_pos h5, me_65_46, mb_65_46]
        rw [show decide (¬ (sKind S g = 4 ∧ sHeld S g ≠ 0)) = true from decide_eq_true (fun h => h.2 h5)]
        exact f1 _
      · simp only [if_neg h5]
        rw [show decide (¬ (sKind S g = 4 ∧ sHeld S g ≠ 0)) = false from decide_eq_false (fun h => h ⟨h4, h5⟩)]
        exact f0 _
    · simp only [if_neg h4, me_65_46, mb_65_46]
      rw [show decide (¬ (sKind S g = 4 ∧ sHeld S g ≠ 0)) = true from decide_eq_true (fun h => h4 h.1)]
      exact f1 _
theorem K_enter (H : CR w S n) (I : SI S n) (J : SJ S n) (hn : n < 512) (r : rmOK w) : ∃ w', kx_ev wx_M (d + 8) 65 [kx_r 0 (some 1), kx_i x] w = some (if (pEnter S x).1.th = 0 then .inl (some (.inl (kx_b (pEnter S x).2))) else .inr (e3 (pEnter S x).1.th), w') ∧ CR w' (pEnter S x).1 n ∧ FB w w' := by
  have hl1 := I.l.1
  have hgl := I.gl
  have mb := K_mbGa (d := d + 5) (x := x) H hgl r (by omega)
  have mc := K_cur (d := d + 6) H r (by omega)
  have th0 : ∀ e l, kx_thd kx_cc kx_cs (d + 6) e l [] w = some (.inr e, hp_bump w 1 6) := fun e l => thd_ok (by omega) r.1 r.2
  obtain ⟨ψ, hψ⟩ := kx_fl 10 (by omega)
  rw [mE_65 hψ]
  unfold mb_65_0 pEnter
  cases hi : isGa S x with
  | false =>
    rw [hi, if_pos rfl] at mb
    rw [if_pos rfl]
    refine ⟨_, ?_, (H.th 1).bump 1 6, FC.rf.bm⟩
    simp only [ob_s, mb, br_e]
    rfl
  | true =>
    rw [hi, if_neg (by decide)] at mb
    obtain ⟨q, q1, rfl⟩ := isGa_t hgl hi
    have hnat := i32_nat (n := q) (by omega)
    have hq : q < 256 := by omega
    rw [hnat] at mb ⊢
    rw [if_neg (show ¬ true = false by decide)]
    have ki : hp_I w 606 (2571 + 3 * q) = sKind S q := H.g.ki q hq
    have ta : hp_I w 608 (2571 + 3 * q) = sHeld S q := H.g.ta q hq
    simp only [ob_s, mb, br_n, ki]
    rcases cur_or S with hc | ⟨t, hc⟩
    · rw [hc] at mc
      have mc' : kx_ev wx_M (d + 7) 24 [kx_r 0 (some 1)] w = some (.inr 0, hp_bump w 1 6) := mc
      rw [hc]
      refine ⟨_, ?_, (H.th 2).bump 1 6, FC.rf.bm⟩
      simp only [mc', br_e]
      rfl
    · have ht := I.b.cu t hc
      have h0 := I.cs t hc
      have hst : S.std ≠ 1 := by rw [J.sd t hc]; decide
      rw [hc] at mc
      have mc' : kx_ev wx_M (d + 7) 24 [kx_r 0 (some 1)] w = some (.inl (some (.inr (.inr (6, some (524 + 2 * t))))), w) := mc
      simp only [hc, mc', br_n, ob_s, ki]
      have B0 : SB (sTh S 0) := I.b.of I.b.cu (fun _ _ => rfl) (List.Sublist.refl _) (List.Sublist.refl _) (List.Sublist.refl _) (List.Sublist.refl _)
      obtain ⟨w1, a1, H1, F1⟩ := K_ent (d := d) (t := t) (g := q) (F := ψ + 7) (S := sTh S 0) (H.th 0) B0 I.a hst ht h0 hq (by show S.mv.length + S.me.length ≤ 512; omega)
      have a1' : kx_ex (wm_65 (d + 7) (kx_ev wx_M (d + 7))) (ψ + 10) 24 [(0, kx_r 0 (some 1)), (2, kx_r 3 (some (2571 + 3 * q))), (3, kx_r 6 (some (524 + 2 * t)))] [] w = some (.inl (some (.inl (kx_b (gLets S q)))), w1) := a1
      -- all kinds but the signal: the same end
      have fin : ∀ P : kS × Bool, sKind S q ≠ 3 → P.2 = gLets S q → P.1.th = 0 → (if gLets (sTh S 0) q = true then sHas (gTake (sTh S 0) q) t 0 (decide (¬ (sKind (sTh S 0) q = 4 ∧ sHeld (sTh S 0) q ≠ 0))) (-1) false else sRest (kS.s_sn (sTh S 0) ((sTh S 0).sn ++ [(t, q, false)])) t 6 (i32 q)) = P.1 → ∃ w', (if sKind S q = 3 then kx_bv (kx_ev wx_M (d + 7) 67 [kx_r 0 (some 1), kx_r 3 (some (2571 + 3 * q))] w) fun w8 => kx_ex (wm_65 (d + 7) (kx_ev wx_M (d + 7))) (ψ + 10) 24 [(0, kx_r 0 (some 1)), (2, kx_r 3 (some (2571 + 3 * q))), (3, kx_r 6 (some (524 + 2 * t)))] [] w8 else kx_ex (wm_65 (d + 7) (kx_ev wx_M (d + 7))) (ψ + 10) 24 [(0, kx_r 0 (some 1)), (2, kx_r 3 (some (2571 + 3 * q))), (3, kx_r 6 (some (524 + 2 * t)))] [] w) = some (if P.1.th = 0 then .inl (some (.inl (kx_b P.2))) else .inr (e3 P.1.th), w') ∧ CR w' P.1 n ∧ FB w w' := by
        intro P h3 p2 p1 pe
        rw [if_neg h3, p1, if_pos rfl, p2, ← pe]
        exact ⟨w1, a1', H1, F1.fb⟩
      have r0 : ∀ X : kS, (sRest X t 6 (i32 q)).th = X.th := fun X => next_th _
      have g0 : gLets (sTh S 0) q = gLets S q := rfl
      have gk : sKind (sTh S 0) q = sKind S q := rfl
      have gh : sHeld (sTh S 0) q = sHeld S q := rfl
      by_cases k0 : sKind S q = 0
      · rw [if_pos k0]
        have hL : gLets S q = decide (sHeld S q = 0) := by unfold gLets; rw [k0, if_neg (by decide), if_neg (by decide)]
        have hT : gTake (sTh S 0) q = stHeld (sTh S 0) q 1 := by unfold gTake; rw [gk, if_pos k0]
        refine fin _ (by rw [k0]; decide) ?_ ?_ ?_
        · rw [hL]; unfold sPass; split <;> rename_i h <;> simp [h]
        · unfold sPass; split
          · rfl
          · exact r0 _
        · rw [g0, hL, hT, gk, gh, k0]
          unfold sPass
          by_cases hh : sHeld S q = 0
          · simp only [hh, decide_true, if_true]
            rfl
          · rw [show decide (sHeld S q = 0) = false from decide_eq_false hh, if_neg (by decide), if_neg (by decide)]
            have h1 : sHeld (sTh S 0) q = 1 := (((J.hk q q1).1 k0).resolve_left hh)
            rw [held_same h1]
      · rw [if_neg k0]
        by_cases k1 : sKind S q = 1
        · rw [if_pos k1]
          have hL : gLets S q = decide (sHeld S q = 0) := by unfold gLets; rw [k1, if_neg (by decide), if_neg (by decide)]
          have hT : gTake (sTh S 0) q = stHeld (sTh S 0) q (-1) := by unfold gTake; rw [gk, if_neg k0, if_pos k1]
          refine fin _ (by rw [k1]; decide) ?_ ?_ ?_
          · rw [hL]; unfold sPass; split <;> rename_i h <;> simp [h]
          · unfold sPass; split
            · split <;> rfl
            · rw [r0]; show kS.th (if _ then _ else _) = _; split <;> rfl
          · rw [g0, hL, hT, gk, gh, k1]
            unfold sPass
            by_cases hh : sHeld S q = 0
            · simp only [hh, decide_true, if_true]
              rfl
            · rw [show decide (sHeld S q = 0) = false from decide_eq_false hh, if_neg (by decide), if_neg (by decide), if_neg hh]
        · rw [if_neg k1]
          by_cases k2 : sKind S q = 2
          · rw [if_pos k2]
            have hL : gLets S q = decide (sHeld S q = 0) := by unfold gLets; rw [k2, if_neg (by decide), if_neg (by decide)]
            have hT : gTake (sTh S 0) q = sTh S 0 := by unfold gTake; rw [gk, if_neg k0, if_neg k1, if_neg (by rw [k2]; exact fun h => absurd h.1 (by decide))]
            refine fin _ (by rw [k2]; decide) ?_ ?_ ?_
            · rw [hL]; unfold sPass; split <;> rename_i h <;> simp [h]
            · unfold sPass; split
              · rfl
              · exact r0 _
            · rw [g0, hL, hT, gk, gh, k2]
              unfold sPass
              by_cases hh : sHeld S q = 0
              · simp only [hh, decide_true, if_true]
                rfl
              · rw [show decide (sHeld S q = 0) = false from decide_eq_false hh, if_neg (by decide), if_neg (by decide)]
          · rw [if_neg k2]
            by_cases k3 : sKind S q = 3
            · rw [if_pos k3, if_pos k3]
              obtain ⟨lk, l1, l2, l3⟩ := I.lk q q1 k3
              have hl256 : lk < 256 := by omega
              have lo := H.g.lo q lk q1 k3 l2 hl256
              have lta : hp_I w 608 (2571 + 3 * lk) = sHeld S lk := H.g.ta lk hl256
              rw [l2, i32_nat (by omega)]
              by_cases hh : sHeld S lk = 0
              · rw [if_pos hh]
                have a67 : kx_ev wx_M (d + 7) 67 [kx_r 0 (some 1), kx_r 3 (some (2571 + 3 * q))] w = some (.inr 2, hp_bump w 1 6) := by
                  obtain ⟨ψ, hψ⟩ := kx_fu
                  rw [mE_67 hψ]
                  unfold mb_67_0
                  simp only [ob_s, lo, lta, reduceCtorEq, if_false, if_pos hh, me_67_17, mb_67_17]
                  exact th0 2 []
                refine ⟨_, ?_, (H.th 3).bump 1 6, FC.rf.bm⟩
                rw [a67, bv_e]
                rfl
              · rw [if_neg hh]
                have hnr : noR (sTh S 0) lk := J.nor (by rw [l3]; decide)
                obtain ⟨w2, a2, H2, F2⟩ := K_unlock (d := d + 2) (S := sTh S 0) (H.th 0) hl256 hnr
                have a67 : kx_ev wx_M (d + 7) 67 [kx_r 0 (some 1), kx_r 3 (some (2571 + 3 * q))] w = some (.inl none, w2) := by
                  obtain ⟨ψ, hψ⟩ := kx_fu
                  rw [mE_67 hψ]
                  unfold mb_67_0
                  simp only [ob_s, lo, lta, reduceCtorEq, if_false, if_neg hh, a2, bv_n]
                obtain ⟨u1, u2, u3, u4, u5, u6⟩ := un_same (sTh S 0) lk
                have ust : (sUnlock (sTh S 0) lk).std = S.std := by
                  unfold sUnlock
                  cases sStg (sTh S 0) lk 2 <;> rfl
                have uth : (sUnlock (sTh S 0) lk).th = 0 := by
                  unfold sUnlock
                  cases sStg (sTh S 0) lk 2 <;> rfl
                have uk : sKind (sUnlock (sTh S 0) lk) q = 3 := by
                  refine Eq.trans ?_ k3
                  unfold sUnlock
                  cases sStg (sTh S 0) lk 2 with
                  | none =>
                    show hp_I (hp_sI S.m 8773 lk 0) 8771 q = hp_I S.m 8771 q
                    simp [hI_I]
                  | some e =>
                    unfold sLets sKind
                    simp only
                    rw [wk_I (by decide) (by decide), has_I (by decide)]
                    rfl
                obtain ⟨w3, a3, H3, F3⟩ := K_ent (d := d) (t := t) (g := q) (F := ψ + 7) (S := sUnlock (sTh S 0) lk) H2 (SB.unlock B0) (by unfold SA; rw [u6, u3]; exact I.a) (by rw [ust]; exact hst) ht (un_stt B0 h0) hq (by rw [u2, u3]; show S.mv.length + S.me.length ≤ 512; omega)
                have gl : gLets (sUnlock (sTh S 0) lk) q = false := by unfold gLets; rw [if_pos uk]
                rw [gl] at a3 H3
                rw [if_neg (by decide)] at H3
                have a3' : kx_ex (wm_65 (d + 7) (kx_ev wx_M (d + 7))) (ψ + 10) 24 [(0, kx_r 0 (some 1)), (2, kx_r 3 (some (2571 + 3 * q))), (3, kx_r 6 (some (524 + 2 * t)))] [] w2 = some (.inl (some (.inl (kx_b false))), w3) := a3
                unfold sPass
                rw [if_neg (show ¬ false = true by decide)]
                refine ⟨w3, ?_, H3, (F2.tr F3).fb⟩
                have hth : (sRest ((sUnlock (sTh S 0) lk).s_sn ((sUnlock (sTh S 0) lk).sn ++ [(t, q, false)])) t 6 (i32 q), false).1.th = 0 := (r0 _).trans uth
                rw [if_pos hth, a67, bv_n, a3']
            · rw [show (if sKind S q = 3 then (if sHeld S (sLock S q).toNatClampNeg = 0 then (sTh S 3, false) else sPass (sUnlock (sTh S 0) (sLock S q).toNatClampNeg) t false q false true) else sPass (stHeld (sTh S 0) q (if sHeld S q = 0 then 1 else sHeld S q)) t (decide (sHeld S q ≠ 1)) q false (decide (sHeld S q = 0))) = sPass (stHeld (sTh S 0) q (if sHeld S q = 0 then 1 else sHeld S q)) t (decide (sHeld S q ≠ 1)) q false (decide (sHeld S q = 0)) from if_neg k3]
              have k4 : sKind S q = 4 := by
                rcases J.kd q q1 with h | h | h | h | h
                · exact absurd h k0
                · exact absurd h k1
                · exact absurd h k2
                · exact absurd h k3
                · exact h
              have hL : gLets S q = decide (sHeld S q ≠ 1) := by unfold gLets; rw [k4, if_neg (by decide), if_pos rfl]
              have hT : gTake (sTh S 0) q = stHeld (sTh S 0) q (if sHeld S q = 0 then 1 else sHeld S q) := by
                unfold gTake
                rw [gk, gh, if_neg k0, if_neg k1]
                by_cases hh : sHeld S q = 0
                · rw [if_pos ⟨k4, hh⟩, if_pos hh]
                · rw [if_neg (fun h => hh h.2), if_neg hh, held_same (S := sTh S 0) (g := q) (x := sHeld S q) rfl]
              refine fin _ k3 ?_ ?_ ?_
              · rw [hL]; unfold sPass; split <;> rename_i h <;> simp at h <;> simp [h]
              · unfold sPass; split
                · rfl
                · exact r0 _
              · rw [g0, hL, hT, gk, gh, k4]
                unfold sPass
                by_cases hh : sHeld S q = 1
                · rw [show decide (sHeld S q ≠ 1) = false from decide_eq_false (fun h => h hh), if_neg (by decide), if_neg (by decide), hh, if_neg (by decide)]
                  have h1 : sHeld (sTh S 0) q = 1 := hh
                  rw [held_same h1]
                · rw [show decide (sHeld S q ≠ 1) = true from decide_eq_true hh, if_pos rfl, if_pos rfl]
                  by_cases h5 : sHeld S q = 0
                  · rw [h5]
                    rfl
                  · rw [show decide (sHeld S q = 0) = false from decide_eq_false h5, show decide (¬ ((4 : Int32) = 4 ∧ sHeld S q ≠ 0)) = false from decide_eq_false (fun h => h ⟨rfl, h5⟩)]
/-- Gate.canBeLeft -/
def gLeft (S : kS) (g : Nat) : Bool := if sKind S g = 0 then decide (sHeld S g = 1) else if sKind S g = 1 then decide (sHeld S g = -1) else if sKind S g = 2 then decide (¬ sHeld S g ≤ 0) else if sKind S g = 3 then true else decide (sHeld S g = 1)
theorem K_left (H : CR w S n) (hg : g < 256) : kx_ev wx_M (d + 1) 73 [kx_r 3 (some (2571 + 3 * g))] w = some (.inl (some (.inl (kx_b (gLeft S g)))), w) := by
  have ki : hp_I w 606 (2571 + 3 * g) = sKind S g := H.g.ki g hg
  have ta : hp_I w 608 (2571 + 3 * g) = sHeld S g := H.g.ta g hg
  unfold gLeft
  obtain ⟨ψ, hψ⟩ := kx_fu
  rw [mE_73 hψ]
  unfold mb_73_0
  simp only [ob_s, ki, ta, me_73_49, mb_73_49, me_73_63, mb_73_63, me_73_76, mb_73_76, me_73_92, mb_73_92, or_true, true_or, if_true]
  have two : ∀ (p : Prop) [Decidable p], (if p then some (.inl (some (.inl (1 : Int32))), w) else some (.inl (some (.inl (0 : Int32))), w) : kx_O) = some (.inl (some (.inl (kx_b (decide p)))), w) := by
    intro p _
    by_cases h : p
    · simp only [if_pos h, decide_eq_true h]; rfl
    · simp only [if_neg h, decide_eq_false h]; rfl
  rw [two, two]
  by_cases k0 : sKind S g = 0
  · simp only [if_pos k0]
  · simp only [if_neg k0]
    by_cases k1 : sKind S g = 1
    · simp only [if_pos k1]
    · simp only [if_neg k1]
      by_cases k2 : sKind S g = 2
      · simp only [if_pos k2]
        by_cases h : sHeld S g ≤ 0
        · rw [if_pos h, show decide (¬ sHeld S g ≤ 0) = false from decide_eq_false (fun h2 => h2 h)]; rfl
        · rw [if_neg h, show decide (¬ sHeld S g ≤ 0) = true from decide_eq_true h]; rfl
      · simp only [if_neg k2]
        by_cases k3 : sKind S g = 3
        · simp only [if_pos k3]; rfl
        · simp only [if_neg k3]
theorem lall_th : ∀ (k : Nat) (U : kS), (sLall k U g how f).th = U.th := by
  intro k
  induction k with
  | zero => intro U; rfl
  | succ k ih =>
    intro U
    unfold sLall
    cases sStg U g how with
    | none => rfl
    | some e => exact ih (sLets U e f)
theorem letAll_th : (sLetAll S g how f).th = S.th := lall_th _ S
theorem writer_th : (sWriter S g).th = S.th := by
  unfold sWriter
  cases sStg S g 0 <;> rfl
theorem letR_th : (sLetR S g).th = S.th := by
  have e : (sLetAll (stHeld S g (i32 (sReaders S g))) g 1 true).th = S.th := letAll_th
  unfold sLetR
  simp only
  generalize sLetAll (stHeld S g (i32 (sReaders S g))) g 1 true = U at e
  by_cases h : sReaders S g = 0
  · rw [if_pos h, writer_th]; exact e
  · rw [if_neg h]; exact e
theorem sig_th : (sSignal S g).th = S.th := by
  unfold sSignal
  cases sStg S g 2 with
  | none => rfl
  | some e =>
    by_cases hh : sHeld S (sLock S g).toNatClampNeg = 0
    · simp only [if_pos hh]; rfl
    · simp only [if_neg hh]; rfl
theorem sigs_th : ∀ (k : Nat) (U : kS), (sSigs k U g).th = U.th := by
  intro k
  induction k with
  | zero => intro U; rfl
  | succ k ih => intro U; exact (ih (sSignal U g)).trans sig_th
theorem K_leave (H : CR w S n) (I : SI S n) (J : SJ S n) (hn : n < 512) (r : rmOK w) : ∃ w', kx_ev wx_M (d + 8) 72 [kx_r 0 (some 1), kx_i x] w = some (if (pLeave S x).th = 0 then .inl none else .inr (e3 (pLeave S x).th), w') ∧ CR w' (pLeave S x) n ∧ FB w w' := by
  have hgl := I.gl
  have mb := K_mbGa (d := d + 5) (x := x) H hgl r (by omega)
  have mc := K_cur (d := d + 6) H r (by omega)
  have th0 : ∀ e l, kx_thd kx_cc kx_cs (d + 7) e l [] w = some (.inr e, hp_bump w 1 6) := fun e l => thd_ok (by omega) r.1 r.2
  have hsn : S.sn.length < 1000 := Nat.lt_of_le_of_lt I.b.sl2 (by decide)
  obtain ⟨ψ, hψ⟩ := kx_fu
  rw [mE_72 hψ]
  unfold mb_72_0
  unfold pLeave
  cases hi : isGa S x with
  | false =>
    rw [hi, if_pos rfl] at mb
    rw [if_pos rfl]
    refine ⟨_, ?_, (H.th 1).bump 1 6, FC.rf.bm⟩
    simp only [ob_s, mb, br_e]
    rfl
  | true =>
    rw [hi, if_neg (by decide)] at mb
    obtain ⟨q, q1, rfl⟩ := isGa_t hgl hi
    have hnat := i32_nat (n := q) (by omega)
    have hq : q < 256 := by omega
    rw [hnat] at mb ⊢
    rw [if_neg (show ¬ true = false by decide)]
    have ki : hp_I w 606 (2571 + 3 * q) = sKind S q := H.g.ki q hq
    have ta : hp_I w 608 (2571 + 3 * q) = sHeld S q := H.g.ta q hq
    have kl := K_left (d := d + 6) H hq
    simp only [ob_s, mb, br_n]
    rcases cur_or S with hc | ⟨t, hc⟩
    · rw [hc] at mc
      have mc' : kx_ev wx_M (d + 7) 24 [kx_r 0 (some 1)] w = some (.inr 0, hp_bump w 1 6) := mc
      rw [if_pos hc]
      refine ⟨_, ?_, (H.th 2).bump 1 6, FC.rf.bm⟩
      simp only [mc', br_e]
      rfl
    · rw [hc] at mc
      have mc' : kx_ev wx_M (d + 7) 24 [kx_r 0 (some 1)] w = some (.inl (some (.inr (.inr (6, some (524 + 2 * t))))), w) := mc
      rw [if_neg (show ¬ S.cur = none by rw [hc]; simp)]
      have hcond : (if sKind S q = 1 then 0 ≤ sHeld S q else if sKind S q = 4 then sHeld S q ≠ 1 else sKind S q ≠ 3 ∧ sHeld S q = 0) ↔ gLeft S q = false := by
        obtain ⟨z1, z2, z3⟩ := J.hk q q1
        unfold gLeft
        rcases J.kd q q1 with h | h | h | h | h
        · rw [h]
          rw [if_neg (by decide), if_neg (by decide), if_pos rfl]
          rcases z1 h with h2 | h2 <;> rw [h2] <;> decide
        · rw [h]
          rw [if_pos rfl, if_neg (by decide), if_pos rfl]
          rcases z2 h with h2 | ⟨j, hj, h2⟩
          · rw [h2]; decide
          · rw [h2, i32_ge (by omega)]
            have : ¬ i32 j = -1 := fun h5 => by
              have h6 : (0 : Int32) ≤ i32 j := by rw [i32_ge (by omega)]; trivial
              rw [h5] at h6
              exact absurd h6 (by decide)
            simp [this]
        · rw [h]
          rw [if_neg (by decide), if_neg (by decide), if_neg (by decide), if_neg (by decide), if_pos rfl]
          have := z3 h
          have e : sHeld S q ≤ 0 ↔ sHeld S q = 0 := ⟨fun h2 => Int32.le_antisymm h2 this, fun h2 => by rw [h2]; decide⟩
          simp [e]
        · rw [h]
          rw [if_neg (by decide), if_neg (by decide), if_neg (by decide), if_neg (by decide), if_neg (by decide), if_pos rfl]
          simp
        · rw [h]
          rw [if_neg (by decide), if_pos rfl, if_neg (by decide), if_neg (by decide), if_neg (by decide), if_neg (by decide)]
          simp
      simp only [mc', br_n, ob_s, kl, bi_n]
      cases hgl2 : gLeft S q with
      | false =>
        rw [if_pos (hcond.mpr hgl2), kx_b_f, if_pos rfl, th0]
        exact ⟨_, rfl, (H.th 3).bump 1 6, FC.rf.bm⟩
      | true =>
        have hnc : ¬ (if sKind S q = 1 then 0 ≤ sHeld S q else if sKind S q = 4 then sHeld S q ≠ 1 else sKind S q ≠ 3 ∧ sHeld S q = 0) := fun h => by rw [hcond.mp h] at hgl2; cases hgl2
        rw [if_neg hnc, kx_b_t, if_neg (show ¬ (1 : Int32) = 0 by decide)]
        simp only [ki, ta, me_72_117, mb_72_117]
        have H0 : CR w (sTh S 0) n := H.th 0
        rcases J.kd q q1 with h | h | h | h | h
        · have hnr : noR (sTh S 0) q := J.nor (by rw [h]; decide)
          obtain ⟨w1, a1, H1, F1⟩ := K_unlock (d := d + 3) H0 hq hnr
          simp only [if_pos h]
          refine ⟨w1, ?_, H1, F1.fb⟩
          have hth : (sUnlock (sTh S 0) q).th = 0 := by
            unfold sUnlock
            cases sStg (sTh S 0) q 2 <;> rfl
          rw [if_pos hth, a1, bv_n]
        · obtain ⟨w1, a1, H1, F1⟩ := K_endW (d := d + 2) H0 hq hsn
          simp only [if_neg (show ¬ sKind S q = 0 by rw [h]; decide), if_pos h]
          refine ⟨w1, ?_, H1, F1.fb⟩
          have hth : (sLetR (sTh S 0) q).th = 0 := by
            exact letR_th
          rw [if_pos hth, a1, bv_n]
        · have hnr : noR (sTh S 0) q := J.nor (by rw [h]; decide)
          obtain ⟨w1, a1, H1, F1⟩ := K_group (d := d + 2) (x := sHeld S q - 1) H0 hq hsn
          simp only [if_neg (show ¬ sKind S q = 0 by rw [h]; decide), if_neg (show ¬ sKind S q = 1 by rw [h]; decide), if_pos h]
          have e1 : sHeld (sTh S 0) q + -1 = sHeld S q - 1 := (Int32.sub_eq_add_neg _ _).symm
          have es : sGrow (sTh S 0) q (-1) = (if sHeld S q - 1 = 0 then sLetAll (stHeld (sTh S 0) q (sHeld S q - 1)) q 0 true else stHeld (sTh S 0) q (sHeld S q - 1)) := by
            unfold sGrow
            simp only
            rw [e1]
            by_cases hz : sHeld S q - 1 = 0
            · rw [if_pos hz, if_pos hz]
              exact letAll_no (S := stHeld (sTh S 0) q (sHeld S q - 1)) hnr
            · rw [if_neg hz, if_neg hz]
          rw [es]
          refine ⟨w1, ?_, H1, F1.fb⟩
          have hth : kS.th (if sHeld S q - 1 = 0 then sLetAll (stHeld (sTh S 0) q (sHeld S q - 1)) q 0 true else stHeld (sTh S 0) q (sHeld S q - 1)) = 0 := by
            split
            · exact letAll_th
            · rfl
          rw [if_pos hth, a1, bv_n]
        · have hnr : noR (sTh S 0) q := J.nor (by rw [h]; decide)
          obtain ⟨lk, l1, l2, l3⟩ := I.lk q q1 h
          obtain ⟨w1, a1, H1, F1⟩ := K_signal (d := d + 3) (S := sTh S 0) H0 hq q1 h (show lk < 256 by omega) l2 hnr
          simp only [if_neg (show ¬ sKind S q = 0 by rw [h]; decide), if_neg (show ¬ sKind S q = 1 by rw [h]; decide), if_neg (show ¬ sKind S q = 2 by rw [h]; decide), if_pos h]
          refine ⟨w1, ?_, H1, F1.fb⟩
          have hth : (sSignal (sTh S 0) q).th = 0 := sig_th
          rw [if_pos hth, a1, bv_n]
        · have hnr : noR (sTh S 0) q := J.nor (by rw [h]; decide)
          obtain ⟨H1, F1⟩ := CR_held H0 hq 2
          obtain ⟨w2, a2, H2, F2⟩ := C_lall (d := d + 3) (how := 0) (f := false) H1 hq (Or.inl rfl) hsn
          have a2' : kx_ev wx_M (d + 7) 54 [kx_r 0 (some 1), kx_r 5 (some (2572 + 3 * q)), kx_i 0, kx_i 0] (hp_sI w 608 (2571 + 3 * q) 2) = some (.inl none, w2) := a2
          have k602 : hp_R (hp_sI w 608 (2571 + 3 * q) 2) 602 (2571 + 3 * q) = some (2572 + 3 * q) := (H.k.g q hq).2.2.1
          simp only [if_neg (show ¬ sKind S q = 0 by rw [h]; decide), if_neg (show ¬ sKind S q = 1 by rw [h]; decide), if_neg (show ¬ sKind S q = 2 by rw [h]; decide), if_neg (show ¬ sKind S q = 3 by rw [h]; decide), k602, a2', bv_n]
          have es : sLetAll (stHeld (sTh S 0) q 2) q 2 false = sLetAll (stHeld (sTh S 0) q 2) q 0 false := letAll_no (S := stHeld (sTh S 0) q 2) hnr
          rw [es]
          refine ⟨w2, ?_, H2, (F1.tr F2).fb⟩
          have hth : (sLetAll (stHeld (sTh S 0) q 2) q 0 false).th = 0 := letAll_th
          rw [if_pos hth]
/-- Gate.canChangeBy -/
def gChg (S : kS) (g : Nat) (y : Int32) : Bool := if sKind S g = 1 then decide (¬ sHeld S g ≤ 0) else if sKind S g = 2 then decide (¬ ((sHeld S g).toInt64 + y.toInt64 < 0 ∨ 1000000000 < (sHeld S g).toInt64 + y.toInt64)) else decide (sKind S g = 3)
theorem K_chg (H : CR w S n) (hg : g < 256) : kx_ev wx_M (d + 1) 79 [kx_r 3 (some (2571 + 3 * g)), kx_i y] w = some (.inl (some (.inl (kx_b (gChg S g y)))), w) := by
  have ki : hp_I w 606 (2571 + 3 * g) = sKind S g := H.g.ki g hg
  have ta : hp_I w 608 (2571 + 3 * g) = sHeld S g := H.g.ta g hg
  unfold gChg
  obtain ⟨ψ, hψ⟩ := kx_fu
  rw [mE_79 hψ]
  unfold mb_79_0
  simp only [ob_s, ki, ta, me_79_44, mb_79_44, me_79_72, mb_79_72, me_79_73, mb_79_73, me_79_87, mb_79_87, or_true, true_or, if_true, lg_neg, lg_pos]
  by_cases k1 : sKind S g = 1
  · simp only [if_pos k1]
    by_cases h : sHeld S g ≤ 0
    · rw [if_pos h, show decide (¬ sHeld S g ≤ 0) = false from decide_eq_false (fun h2 => h2 h)]; rfl
    · rw [if_neg h, show decide (¬ sHeld S g ≤ 0) = true from decide_eq_true h]; rfl
  · simp only [if_neg k1]
    by_cases k2 : sKind S g = 2
    · simp only [if_pos k2]
      by_cases h : (sHeld S g).toInt64 + y.toInt64 < 0
      · rw [if_pos h, show decide (¬ ((sHeld S g).toInt64 + y.toInt64 < 0 ∨ 1000000000 < (sHeld S g).toInt64 + y.toInt64)) = false from decide_eq_false (fun h2 => h2 (Or.inl h))]; rfl
      · rw [if_neg h]
        by_cases h3 : 1000000000 < (sHeld S g).toInt64 + y.toInt64
        · rw [if_pos h3, show decide (¬ ((sHeld S g).toInt64 + y.toInt64 < 0 ∨ 1000000000 < (sHeld S g).toInt64 + y.toInt64)) = false from decide_eq_false (fun h2 => h2 (Or.inr h3))]; rfl
        · rw [if_neg h3, show decide (¬ ((sHeld S g).toInt64 + y.toInt64 < 0 ∨ 1000000000 < (sHeld S g).toInt64 + y.toInt64)) = true from decide_eq_true (fun h2 => h2.elim h h3)]; rfl
    · simp only [if_neg k2]
      by_cases k3 : sKind S g = 3
      · rw [if_pos k3, decide_eq_true k3]; rfl
      · rw [if_neg k3, decide_eq_false k3]; rfl
theorem K_change (H : CR w S n) (I : SI S n) (J : SJ S n) (hn : n < 512) (r : rmOK w) : ∃ w', kx_ev wx_M (d + 8) 78 [kx_r 0 (some 1), kx_i x, kx_i y] w = some (if (pChange S x y).th = 0 then .inl none else .inr (e3 (pChange S x y).th), w') ∧ CR w' (pChange S x y) n ∧ FB w w' := by
  have hgl := I.gl
  have mb := K_mbGa (d := d + 5) (x := x) H hgl r (by omega)
  have mc := K_cur (d := d + 6) H r (by omega)
  have th0 : ∀ e l, kx_thd kx_cc kx_cs (d + 7) e l [] w = some (.inr e, hp_bump w 1 6) := fun e l => thd_ok (by omega) r.1 r.2
  have hsn : S.sn.length < 1000 := Nat.lt_of_le_of_lt I.b.sl2 (by decide)
  obtain ⟨ψ, hψ⟩ := kx_fu
  rw [mE_78 hψ]
  unfold mb_78_0
  unfold pChange
  cases hi : isGa S x with
  | false =>
    rw [hi, if_pos rfl] at mb
    rw [if_pos (show false = false ∨ sKind S x.toNatClampNeg = 0 ∨ sKind S x.toNatClampNeg = 4 from Or.inl rfl)]
    refine ⟨_, ?_, (H.th 1).bump 1 6, FC.rf.bm⟩
    simp only [ob_s, mb, br_e]
    rfl
  | true =>
    rw [hi, if_neg (by decide)] at mb
    obtain ⟨q, q1, rfl⟩ := isGa_t hgl hi
    have hnat := i32_nat (n := q) (by omega)
    have hq : q < 256 := by omega
    rw [hnat] at mb ⊢
    have ki : hp_I w 606 (2571 + 3 * q) = sKind S q := H.g.ki q hq
    have ta : hp_I w 608 (2571 + 3 * q) = sHeld S q := H.g.ta q hq
    have kl := K_chg (d := d + 6) (y := y) H hq
    simp only [ob_s, mb, br_n, ki, me_78_21, mb_78_21, th0]
    by_cases k0 : sKind S q = 0
    · rw [if_pos k0, if_pos (show true = false ∨ sKind S q = 0 ∨ sKind S q = 4 from Or.inr (Or.inl k0))]
      exact ⟨_, rfl, (H.th 1).bump 1 6, FC.rf.bm⟩
    · rw [if_neg k0]
      by_cases k4 : sKind S q = 4
      · rw [if_pos k4, if_pos (show true = false ∨ sKind S q = 0 ∨ sKind S q = 4 from Or.inr (Or.inr k4))]
        exact ⟨_, rfl, (H.th 1).bump 1 6, FC.rf.bm⟩
      · rw [if_neg k4, if_neg (show ¬ (true = false ∨ sKind S q = 0 ∨ sKind S q = 4) by simp [k0, k4])]
        rcases cur_or S with hc | ⟨t, hc⟩
        · rw [hc] at mc
          have mc' : kx_ev wx_M (d + 7) 24 [kx_r 0 (some 1)] w = some (.inr 0, hp_bump w 1 6) := mc
          rw [if_pos hc]
          refine ⟨_, ?_, (H.th 2).bump 1 6, FC.rf.bm⟩
          simp only [mc', br_e]
          rfl
        · rw [hc] at mc
          have mc' : kx_ev wx_M (d + 7) 24 [kx_r 0 (some 1)] w = some (.inl (some (.inr (.inr (6, some (524 + 2 * t))))), w) := mc
          rw [if_neg (show ¬ S.cur = none by rw [hc]; simp)]
          have k3 : sKind S q = 1 ∨ sKind S q = 2 ∨ sKind S q = 3 := by
            rcases J.kd q q1 with h | h | h | h | h
            · exact absurd h k0
            · exact Or.inl h
            · exact Or.inr (Or.inl h)
            · exact Or.inr (Or.inr h)
            · exact absurd h k4
          have hcond : ((sKind S q = 1 ∧ sHeld S q ≤ 0) ∨ (sKind S q = 2 ∧ ((sHeld S q).toInt64 + y.toInt64 < 0 ∨ 1000000000 < (sHeld S q).toInt64 + y.toInt64))) ↔ gChg S q y = false := by
            unfold gChg
            rcases k3 with h | h | h
            · rw [h, if_pos rfl]
              simp
            · rw [h, if_neg (by decide), if_pos rfl, decide_eq_false_iff_not, Classical.not_not]
              constructor
              · rintro (h2 | h2)
                · exact absurd h2.1 (by decide)
                · exact h2.2
              · intro h2
                exact Or.inr ⟨rfl, h2⟩
            · rw [h, if_neg (by decide), if_neg (by decide), decide_eq_false_iff_not]
              constructor
              · rintro (h2 | h2)
                · exact absurd h2.1 (by decide)
                · exact absurd h2.1 (by decide)
              · intro h2
                exact absurd rfl h2
          simp only [mc', br_n, ob_s, kl, bi_n]
          cases hgc : gChg S q y with
          | false =>
            rw [if_pos (hcond.mpr hgc), kx_b_f, if_pos rfl, th0]
            exact ⟨_, rfl, (H.th 3).bump 1 6, FC.rf.bm⟩
          | true =>
            have hnc : ¬ ((sKind S q = 1 ∧ sHeld S q ≤ 0) ∨ (sKind S q = 2 ∧ ((sHeld S q).toInt64 + y.toInt64 < 0 ∨ 1000000000 < (sHeld S q).toInt64 + y.toInt64))) := fun h => by rw [hcond.mp h] at hgc; cases hgc
            rw [if_neg hnc, kx_b_t, if_neg (show ¬ (1 : Int32) = 0 by decide)]
            simp only [ki, ta, me_78_99, mb_78_99]
            have H0 : CR w (sTh S 0) n := H.th 0
            rcases k3 with h | h | h
            · obtain ⟨w1, a1, H1, F1⟩ := K_endR (d := d + 2) H0 hq
              rw [if_pos h, if_neg (show ¬ sKind S q = 2 by rw [h]; decide), if_pos h]
              refine ⟨w1, ?_, H1, F1.fb⟩
              have hth : kS.th (if sHeld S q - 1 = 0 then sWriter (stHeld (sTh S 0) q (sHeld S q - 1)) q else stHeld (sTh S 0) q (sHeld S q - 1)) = 0 := by
                split
                · exact writer_th
                · rfl
              rw [if_pos hth, a1, bv_n]
            · have hnr : noR (sTh S 0) q := J.nor (by rw [h]; decide)
              obtain ⟨w1, a1, H1, F1⟩ := K_group (d := d + 2) (x := sHeld S q + y) H0 hq hsn
              rw [if_neg (show ¬ sKind S q = 1 by rw [h]; decide), if_pos h, if_pos h]
              have es : sGrow (sTh S 0) q y = (if sHeld S q + y = 0 then sLetAll (stHeld (sTh S 0) q (sHeld S q + y)) q 0 true else stHeld (sTh S 0) q (sHeld S q + y)) := by
                unfold sGrow
                simp only
                have e1 : sHeld (sTh S 0) q + y = sHeld S q + y := rfl
                rw [e1]
                by_cases hz : sHeld S q + y = 0
                · rw [if_pos hz, if_pos hz]
                  exact letAll_no (S := stHeld (sTh S 0) q (sHeld S q + y)) hnr
                · rw [if_neg hz, if_neg hz]
              rw [es]
              refine ⟨w1, ?_, H1, F1.fb⟩
              have hth : kS.th (if sHeld S q + y = 0 then sLetAll (stHeld (sTh S 0) q (sHeld S q + y)) q 0 true else stHeld (sTh S 0) q (sHeld S q + y)) = 0 := by
                split
                · exact letAll_th
                · rfl
              rw [if_pos hth, a1, bv_n]
            · have hnr : noR (sTh S 0) q := J.nor (by rw [h]; decide)
              obtain ⟨lk, l1, l2, l3⟩ := I.lk q q1 h
              obtain ⟨w1, a1, H1, F1⟩ := K_sigs (d := d + 2) (S := sTh S 0) H0 hq q1 h (show lk < 256 by omega) l2 hnr hsn
              rw [if_neg (show ¬ sKind S q = 1 by rw [h]; decide), if_neg (show ¬ sKind S q = 2 by rw [h]; decide), if_neg (show ¬ sKind S q = 2 by rw [h]; decide), if_neg (show ¬ sKind S q = 1 by rw [h]; decide)]
              refine ⟨w1, ?_, H1, F1.fb⟩
              have hth : (sSigs (sWait S q) (sTh S 0) q).th = 0 := sigs_th _ _
              rw [if_pos hth, a1, bv_n]
end CEN
