/-! the class's gates: signals, books, what a gate lets -/
section CSI
variable {w w' : kx_H} {S S' : kS} {t g n d c l : Nat} {x how : Int32} {v val : Int64} {f b : Bool} {Q : List kQ} {fp tp fv ft : List Nat} {V : List (Nat × Int64 × Nat)} {A : List (Nat × kMe)}
theorem sNot_sn0 (H : CX w S n Q fp tp V fv A ft) {e : kMs} (he : e ∈ S.sn) : sNot S e.1 = sOut S e.1 := by
  have h0 := st_sn H he
  have h1 : S.rd.filter (fun q => q != e.1) = S.rd := fl_no (fun h => by
    have := st_rd H h
    rw [this] at h0
    revert h0; decide)
  have h2 : S.mo.filter (fun q => q.1 != e.1) = S.mo := by
    rw [List.filter_eq_self]
    intro a ha
    simp
    intro z
    have := st_mo H ha
    rw [z, h0] at this
    revert this; decide
  show ((S.s_rd (S.rd.filter (fun q => q != e.1))).s_mo (S.mo.filter (fun q => q.1 != e.1))).s_sn _ = _
  rw [h1, h2]
  rfl
/-- TaskDesk.wakeFirstOfSignal -/
theorem K_signal (H : CR w S n) (hg : g < 256) (hgg : g < S.gates) (hk : sKind S g = 3) (hl : l < 256) (hlk : sLock S g = i32 l) (hr : noR S g) : ∃ w', kx_ev wx_M (d + 4) 77 [kx_r 0 (some 1), kx_r 3 (some (2571 + 3 * g))] w = some (.inl none, w') ∧ CR w' (sSignal S g) n ∧ FC w w' := by
  have k2 := (H.k.g g hg).2.2.1
  have lo := H.g.lo g l hgg hk hlk hl
  have ta : hp_I w 608 (2571 + 3 * l) = sHeld S l := H.g.ta l hl
  unfold sSignal
  rw [stg_no hr, hlk, i32_nat (by omega)]
  cases hf : sStg S g 0 with
  | none =>
    have h1 : hp_R w 1000 (2572 + 3 * g) = none := C_noneG (how := 0) H hg (Or.inl rfl) hf
    refine ⟨w, ?_, H, FC.rf⟩
    obtain ⟨ψ, hψ⟩ := kx_fu
    rw [mE_77 hψ]
    unfold mb_77_0
    simp only [ob_s, k2, h1, if_true, me_77_21, mb_77_21]
  | some e =>
    by_cases hh : sHeld S l = 0
    · obtain ⟨H0, F0⟩ := CR_held H hl 1
      have hf' : sStg (stHeld S l 1) g 0 = some e := hf
      obtain ⟨p, h1, h2, h4⟩ := C_lets (d := d) (how := 0) H0 hg (Or.inl rfl) hf'
      have h1' : hp_R w 1000 (2572 + 3 * g) = some p := h1
      obtain ⟨w1, a1, H1, F1⟩ := h4 true
      rw [kx_b_t, kx_b_f] at a1
      simp only [if_pos hh]
      refine ⟨w1, ?_, H1, F0.tr F1⟩
      obtain ⟨ψ, hψ⟩ := kx_fu
      rw [mE_77 hψ]
      unfold mb_77_0
      simp only [ob_s, k2, h1', reduceCtorEq, if_false, lo, ta, if_pos hh, a1, bv_n, me_77_73, mb_77_73]
    · simp only [if_neg hh]
      obtain ⟨Q, fp, tp, V, fv, A, ft, HX⟩ := H
      obtain ⟨p, h1, h2, h3, h4, ht, hem⟩ := (hd_sn HX hg (Or.inl rfl)).2 e hf
      have h1' : hp_R w 1000 (2572 + 3 * g) = some p := h1
      have h6 := st_sn HX hem
      obtain ⟨w1, a1, H1, h8, F1⟩ := C_so (d := d + 2) (t := e.1) HX ht (fun q hq hqt => by
        rcases HX.q.pl q hq with h | ⟨h5, y, hy⟩
        · rw [qIs_f]; exact h.1
        · exfalso
          have := (HX.q.loc q hq).2.2
          rw [hy, hqt, h6] at this
          have this2 : (6 : Int32) = 2 ∨ (6 : Int32) = 3 ∨ (6 : Int32) = 4 ∨ (6 : Int32) = 7 := this
          revert this2
          decide)
      obtain ⟨w2, a2, H2, F2⟩ := C_wait (d := d + 1) (l := some (.inr (l, false))) (st := 6) (x := i32 l) (val := 0) H1 ht hl rfl h8 (fun q hq => not_mem_fl (p := qIs) q hq) (fun h => by cases h)
      rw [sAdd_ga, sNot_sn0 HX hem] at H2
      have e6 : hp_sI (sOut S e.1).m 8731 e.1 6 = (sOut S e.1).m := hp_same h6
      rw [e6] at H2
      refine ⟨w2, ?_, H2.cr, (FC.of F1 (by decide) (by decide) (by decide) (by decide)).tr (FC.of F2 (by decide) (by decide) (by decide) (by decide))⟩
      have g800 : hp_R w1 800 p = some (524 + 2 * e.1) := by rw [F1.R 800 (by decide)]; exact h2
      have g602 : hp_R w1 602 (2571 + 3 * l) = some (2572 + 3 * l) := (H1.k.g l hl).2.2.1
      have g600 : hp_I w1 600 (2571 + 3 * l) = i32 l := (H1.k.g l hl).2.1
      have a2' : kx_ev wx_M (d + 3) 27 [kx_r 6 (some (524 + 2 * e.1)), kx_r 5 (some (2572 + 3 * l)), kx_i 6, kx_i (i32 l)] w1 = some (.inl none, w2) := a2
      rw [← h4] at a1
      obtain ⟨ψ, hψ⟩ := kx_fu
      rw [mE_77 hψ]
      unfold mb_77_0
      simp only [ob_s, k2, h1', reduceCtorEq, if_false, lo, ta, if_neg hh, h2, a1, bv_n, g800, g602, g600, a2', me_77_73, mb_77_73]
theorem sig_gates : (sSignal S g).gates = S.gates := by
  unfold sSignal
  cases sStg S g 2 with
  | none => rfl
  | some e =>
    show kS.gates (if _ then _ else _) = _
    split <;> rfl
theorem sig_I {k : Nat} (h1 : k ≠ 8731) (h2 : k ≠ 8733) (h3 : k ≠ 8773) (h4 : k ≠ 8739) : hp_I (sSignal S g).m k = hp_I S.m k := by
  unfold sSignal
  cases sStg S g 2 with
  | none => rfl
  | some e =>
    show hp_I (kS.m (if _ then _ else _)) k = _
    split
    · unfold sLets
      rw [wk_I h1 h2, has_I h4]
      funext j
      show hp_I (hp_sI S.m 8773 _ 1) k j = _
      simp [hI_I, h3]
    · funext j
      show hp_I (hp_sI S.m 8733 _ _) k j = _
      simp [hI_I, h2]
theorem sig_sn (h : noR S g) : noR (sSignal S g) g := by
  unfold sSignal
  cases hs : sStg S g 2 with
  | none => exact h
  | some e =>
    by_cases hh : sHeld S (sLock S g).toNatClampNeg = 0
    · simp only [if_pos hh]
      have h2 : noR (stHeld S (sLock S g).toNatClampNeg 1) g := h
      exact h2.lets
    · simp only [if_neg hh]
      intro q hq hqg
      rcases List.mem_append.mp hq with hq | hq
      · exact h.out q hq hqg
      · obtain rfl := List.mem_singleton.mp hq
        rfl
/-- TaskDesk.wakeAllOfSignal -/
theorem K_sigs_l {C : kx_C} (hC : C = kx_ev wx_M (d + 4)) (hg : g < 256) (hl : l < 256) : ∀ L F w (S : kS), CR w S n → g < S.gates → sKind S g = 3 → sLock S g = i32 l → noR S g → L < 1000 → L + 1 ≤ F →
    ∃ w', kx_ex (wm_81 (d + 4) C) F 8 [(0, kx_r 0 (some 1)), (1, kx_r 3 (some (2571 + 3 * g))), (2, kx_i (i32 L))] [] w = some (.inl none, w') ∧ CR w' (sSigs L S g) n ∧ FC w w' := by
  intro L
  induction L with
  | zero =>
    intro F w S H h1 h2 h3 h4 hL hF
    obtain ⟨F, rfl⟩ : ∃ f', F = f' + 1 := ⟨F - 1, by omega⟩
    refine ⟨w, ?_, H, FC.rf⟩
    rw [me_81_8]
    unfold mb_81_8
    rw [if_pos (show i32 0 ≤ 0 by decide)]
  | succ L ih =>
    intro F w S H h1 h2 h3 h4 hL hF
    obtain ⟨F, rfl⟩ : ∃ f', F = f' + 1 := ⟨F - 1, by omega⟩
    obtain ⟨w1, a1, H1, F1⟩ := K_signal (d := d) H hg h1 h2 hl h3 h4
    obtain ⟨w', r1, r2, r3⟩ := ih F w1 (sSignal S g) H1 (by rw [sig_gates]; exact h1) ((congrFun (sig_I (by decide) (by decide) (by decide) (by decide)) g).trans h2) ((congrFun (sig_I (by decide) (by decide) (by decide) (by decide)) g).trans h3) (sig_sn h4) (by omega) (by omega)
    refine ⟨w', ?_, r2, F1.tr r3⟩
    rw [me_81_8]
    unfold mb_81_8
    rw [if_neg (show ¬ i32 (L + 1) ≤ 0 by rw [i32_p0 (by omega)]; simp)]
    rw [← hC] at a1
    simp only [ob_s, a1, bv_n]
    rw [em1]
    exact r1
theorem wait_no (h : noR S g) : sWait S g = S.sn.countP (gAt g 0) := by
  unfold sWait
  unfold noR at h
  generalize S.sn = L at h
  refine List.countP_congr (fun e he => ?_)
  have := h e he
  unfold gAt
  by_cases hg : e.2.1 = g
  · simp [hg, this hg]
  · simp [hg]
theorem K_sigs (H : CR w S n) (hg : g < 256) (hgg : g < S.gates) (hk : sKind S g = 3) (hl : l < 256) (hlk : sLock S g = i32 l) (hr : noR S g) (hm : S.sn.length < 1000) : ∃ w', kx_ev wx_M (d + 5) 81 [kx_r 0 (some 1), kx_r 3 (some (2571 + 3 * g))] w = some (.inl none, w') ∧ CR w' (sSigs (sWait S g) S g) n ∧ FC w w' := by
  obtain ⟨ψ, hψ⟩ := kx_fl 2000 (by omega)
  have hcl := List.countP_le_length (p := gAt g 0) (l := S.sn)
  have k2 := (H.k.g g hg).2.2.1
  have hlen : hp_I w 1004 (2572 + 3 * g) = i32 (S.sn.countP (gAt g 0)) := len_sn (how := 0) H hg (Or.inl rfl)
  rw [wait_no hr]
  obtain ⟨w', r1, r2, r3⟩ := K_sigs_l (d := d) rfl hg hl (S.sn.countP (gAt g 0)) (ψ + 2000) w S H hgg hk hlk hr (by omega) (by omega)
  refine ⟨w', ?_, r2, r3⟩
  rw [mE_81 hψ]
  unfold mb_81_0
  simp only [ob_s, k2, hlen]
  exact r1
/-- TaskDesk.endReading -/
theorem K_endR (H : CR w S n) (hg : g < 256) : ∃ w', kx_ev wx_M (d + 5) 80 [kx_r 0 (some 1), kx_r 3 (some (2571 + 3 * g))] w = some (.inl none, w') ∧ CR w' (if sHeld S g - 1 = 0 then sWriter (stHeld S g (sHeld S g - 1)) g else stHeld S g (sHeld S g - 1)) n ∧ FC w w' := by
  have ta : hp_I w 608 (2571 + 3 * g) = sHeld S g := H.g.ta g hg
  obtain ⟨H0, F0⟩ := CR_held H hg (sHeld S g - 1)
  have h0 : hp_I (hp_sI w 608 (2571 + 3 * g) (sHeld S g - 1)) 608 (2571 + 3 * g) = sHeld S g - 1 := by simp [hI_I, hI_L, hI_R, hI_B, hI_b, hL_I, hL_L, hL_R, hL_B, hL_b, hR_I, hR_L, hR_R, hR_B, hR_b, hB_I, hB_L, hB_R, hB_B, hB_b, hN_I, hN_L, hN_R, hN_B, hN_b, hT_I, hT_L, hT_R, hT_B, hT_b, hX_I, hX_L, hX_R, hX_B, hX_b, hC_I, hC_L, hC_R, hC_B, hC_b, hU_I, hU_L, hU_R, hU_B, hU_b]
  by_cases hx : sHeld S g - 1 = 0
  · rw [if_pos hx]
    obtain ⟨w1, a1, H1, F1⟩ := K_writer (d := d) H0 hg
    refine ⟨w1, ?_, ?_, F0.tr F1⟩
    · skip
      obtain ⟨ψ, hψ⟩ := kx_fu
      rw [mE_80 hψ]
      unfold mb_80_0
      simp only [ob_s, ta, h0, if_pos hx, a1, bv_n, me_80_22, mb_80_22]
    · unfold sWriter
      cases hs : sStg (stHeld S g (sHeld S g - 1)) g 0 with
      | none =>
        rw [hs] at H1
        have H1' : CR w1 (stHeld (stHeld S g (sHeld S g - 1)) g 0) n := H1
        rw [held_twice, ← hx] at H1'
        exact H1'
      | some e =>
        rw [hs] at H1
        exact H1
  · rw [if_neg hx]
    refine ⟨_, ?_, H0, F0⟩
    obtain ⟨ψ, hψ⟩ := kx_fu
    rw [mE_80 hψ]
    unfold mb_80_0
    simp only [ob_s, ta, h0, if_neg hx, me_80_22, mb_80_22]
theorem letAll_none (h : sStg S g how = none) : sLetAll S g how f = S := by
  unfold sLetAll
  cases S.sn.length with
  | zero => rfl
  | succ k => unfold sLall; rw [h]
/-- TaskDesk.endWriting -/
theorem K_endW (H : CR w S n) (hg : g < 256) (hm : S.sn.length < 1000) : ∃ w', kx_ev wx_M (d + 5) 74 [kx_r 0 (some 1), kx_r 3 (some (2571 + 3 * g))] w = some (.inl none, w') ∧ CR w' (sLetR S g) n ∧ FC w w' := by
  have k4 := (H.k.g g hg).2.2.2
  have hcl := List.countP_le_length (p := gAt g 1) (l := S.sn)
  have hlen : hp_I w 1004 (2573 + 3 * g) = i32 (sReaders S g) := len_sn (how := 1) H hg (Or.inr rfl)
  have hrl : sReaders S g < 1000 := by unfold sReaders; omega
  unfold sLetR
  by_cases hz : sReaders S g = 0
  · simp only [if_pos hz]
    have hn1 : sStg (stHeld S g (i32 (sReaders S g))) g 1 = none := by
      show S.sn.find? (gAt g 1) = none
      rw [List.find?_eq_none]
      exact List.countP_eq_zero.mp hz
    rw [letAll_none hn1, hz]
    obtain ⟨w1, a1, H1, F1⟩ := K_writer (d := d) H hg
    refine ⟨w1, ?_, ?_, F1⟩
    · skip
      obtain ⟨ψ, hψ⟩ := kx_fu
      rw [mE_74 hψ]
      unfold mb_74_0
      simp only [ob_s, k4, hlen, hz, if_pos (show i32 0 ≤ 0 by decide), a1, bv_n, me_74_39, mb_74_39]
    · unfold sWriter
      have e0 : sStg (stHeld S g (i32 0)) g 0 = sStg S g 0 := rfl
      rw [e0]
      cases hs : sStg S g 0 with
      | none =>
        rw [hs] at H1
        exact H1
      | some e =>
        rw [hs] at H1
        have H1' : CR w1 (sLets (stHeld S g (-1)) e true) n := H1
        show CR w1 (sLets (stHeld (stHeld S g (i32 0)) g (-1)) e true) n
        rw [held_twice]
        exact H1'
  · simp only [if_neg hz]
    obtain ⟨H0, F0⟩ := CR_held H hg (i32 (sReaders S g))
    obtain ⟨w1, a1, H1, F1⟩ := C_lall (d := d) (how := 1) (f := true) H0 hg (Or.inr rfl) hm
    have a1' : kx_ev wx_M (d + 4) 54 [kx_r 0 (some 1), kx_r 5 (some (2573 + 3 * g)), kx_i 1, kx_i 0] (hp_sI w 608 (2571 + 3 * g) (i32 (sReaders S g))) = some (.inl none, w1) := a1
    refine ⟨w1, ?_, H1, F0.tr F1⟩
    have k4' : hp_R (hp_sI w 608 (2571 + 3 * g) (i32 (sReaders S g))) 604 (2571 + 3 * g) = some (2573 + 3 * g) := k4
    obtain ⟨ψ, hψ⟩ := kx_fu
    rw [mE_74 hψ]
    unfold mb_74_0
    simp only [ob_s, k4, hlen, if_neg (show ¬ i32 (sReaders S g) ≤ 0 by rw [i32_p0 (by omega)]; omega), k4', a1', bv_n, me_74_39, mb_74_39]
end CSI
