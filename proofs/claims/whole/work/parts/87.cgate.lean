/-! the class's gates: what a gate is held by, who is let in -/
section CGA
variable {w w' : kx_H} {S S' : kS} {t g n d c : Nat} {x how : Int32} {v val : Int64} {f b : Bool} {Q : List kQ} {fp tp fv ft : List Nat} {V : List (Nat × Int64 × Nat)} {A : List (Nat × kMe)} {l : kLoc}
theorem hp_same {m : kx_H} {k t : Nat} {v : Int32} (h : hp_I m k t = v) : hp_sI m k t v = m := by
  refine kx_ext ?_ rfl rfl rfl rfl rfl rfl rfl rfl
  funext b j
  rw [hI_I]
  by_cases hb : b = k ∧ j = t
  · rw [if_pos hb, ← h, hb.1, hb.2]
  · rw [if_neg hb]
theorem hp_twice {m : kx_H} {k t : Nat} {u v : Int32} : hp_sI (hp_sI m k t u) k t v = hp_sI m k t v := by
  refine kx_ext ?_ rfl rfl rfl rfl rfl rfl rfl rfl
  funext b j
  rw [hI_I, hI_I, hI_I]
  by_cases hb : b = k ∧ j = t
  · rw [if_pos hb, if_pos hb]
  · rw [if_neg hb, if_neg hb, if_neg hb]
theorem held_same (h : sHeld S g = x) : stHeld S g x = S := by
  unfold stHeld
  rw [hp_same h]
theorem held_twice {y : Int32} : stHeld (stHeld S g y) g x = stHeld S g x := by
  unfold stHeld
  show S.s_m (hp_sI (hp_sI S.m 8773 g y) 8773 g x) = _
  rw [hp_twice]
/-- a gate's count -/
theorem CR_held (H : CR w S n) (hg : g < 256) (x : Int32) : CR (hp_sI w 608 (2571 + 3 * g) x) (stHeld S g x) n ∧ FC w (hp_sI w 608 (2571 + 3 * g) x) := by
  have F : FR [608] [] [] [] w (hp_sI w 608 (2571 + 3 * g) x) := FR.sI (by decide) FR.rf
  obtain ⟨Q, fp, tp, V, fv, A, ft, H⟩ := H
  have hm : ∀ k, k ≠ 8773 → hp_I (stHeld S g x).m k = hp_I S.m k := fun k hk => by
    funext j
    show hp_I (hp_sI S.m 8773 g x) k j = _
    simp [hI_I, hk]
  refine ⟨CX.cr (Q := Q) (fp := fp) (tp := tp) (V := V) (fv := fv) (A := A) (ft := ft) ⟨H.k.fr F (by decide) (by decide) (by decide) (by decide), ?_, (H.s.fr F (by decide) (by decide) (by decide) (by decide)).sc rfl rfl rfl rfl rfl rfl rfl rfl rfl, (H.c.fr F (by decide) (by decide) (by decide) (by decide)).sc rfl rfl (hm 8749 (by decide)) rfl rfl, ?_, ?_, H.o.fr F (by decide) (by decide) (by decide) (by decide), H.rd, H.mo, H.sn, H.v.fr F (by decide) (by decide) (by decide) (by decide), H.a.imp id (fun h => h.fr F (by decide) (by decide) (by decide) (by decide))⟩, FC.of F (by decide) (by decide) (by decide) (by decide)⟩
  · have h := H.t.fr F (by decide) (by decide) (by decide) (by decide)
    exact ⟨h.al, fun q hq => (h.st q hq).trans (congrFun (hm 8731 (by decide)) q).symm, fun q hq => (h.at q hq).trans (congrFun (hm 8733 (by decide)) q).symm, h.re, h.fl, fun q hq => (h.ca q hq).trans (congrFun (hm 8739 (by decide)) q).symm, h.br⟩
  · refine ⟨fun q hq => ?_, fun q hq => ?_, fun q y h1 h2 h3 h4 => ?_⟩
    · rw [hm 8771 (by decide), F.I 606 (by decide)]
      exact H.g.ki q hq
    · have := H.g.ta q hq
      show _ = hp_I (hp_sI S.m 8773 g x) 8773 q
      by_cases hqg : q = g
      · subst hqg; simp [hI_I, hI_L, hI_R, hI_B, hI_b, hL_I, hL_L, hL_R, hL_B, hL_b, hR_I, hR_L, hR_R, hR_B, hR_b, hB_I, hB_L, hB_R, hB_B, hB_b, hN_I, hN_L, hN_R, hN_B, hN_b, hT_I, hT_L, hT_R, hT_B, hT_b, hX_I, hX_L, hX_R, hX_B, hX_b, hC_I, hC_L, hC_R, hC_B, hC_b, hU_I, hU_L, hU_R, hU_B, hU_b]
      · have h9 : ¬ 3 * q = 3 * g := by omega
        simp [hI_I, hI_L, hI_R, hI_B, hI_b, hL_I, hL_L, hL_R, hL_B, hL_b, hR_I, hR_L, hR_R, hR_B, hR_b, hB_I, hB_L, hB_R, hB_B, hB_b, hN_I, hN_L, hN_R, hN_B, hN_b, hT_I, hT_L, hT_R, hT_B, hT_b, hX_I, hX_L, hX_R, hX_B, hX_b, hC_I, hC_L, hC_R, hC_B, hC_b, hU_I, hU_L, hU_R, hU_B, hU_b, hqg, h9]
        exact this
    · have h5 : sKind S q = 3 := (congrFun (hm 8771 (by decide)) q).symm.trans h2
      have h6 : sLock S q = i32 y := (congrFun (hm 8775 (by decide)) q).symm.trans h3
      rw [F.R 610 (by decide)]
      exact H.g.lo q y h1 h5 h6 h4
  · have : stt (stHeld S g x) = stt S := hm 8731 (by decide)
    rw [this]
    exact H.q.fr F (by decide) (by decide) (by decide) (by decide)
/-- none reads there -/
def noR (S : kS) (g : Nat) : Prop := ∀ e ∈ S.sn, e.2.1 = g → e.2.2 = false
theorem gAt_no {e : kMs} (h : e.2.1 = g → e.2.2 = false) : gAt g 2 e = gAt g 0 e := by
  unfold gAt
  by_cases hg : e.2.1 = g
  · simp [hg, h hg]
  · simp [hg]
theorem stg_no (h : noR S g) : sStg S g 2 = sStg S g 0 := by
  unfold sStg
  revert h
  unfold noR
  generalize S.sn = L
  intro h
  induction L with
  | nil => rfl
  | cons a L ih =>
    rw [List.find?_cons, List.find?_cons, gAt_no (h a List.mem_cons_self), ih (fun e he => h e (List.mem_cons_of_mem _ he))]
theorem noR.out (h : noR S g) : noR (sOut S t) g := fun e he => h e (List.mem_filter.mp he).1
theorem noR.lets {e : kMs} (h : noR S g) : noR (sLets S e f) g := fun q hq => h q (List.mem_filter.mp hq).1
theorem lall_no : ∀ (k : Nat) (S : kS), noR S g → sLall k S g 2 f = sLall k S g 0 f := by
  intro k
  induction k with
  | zero => intro S h; rfl
  | succ k ih =>
    intro S h
    unfold sLall
    rw [stg_no h]
    cases hs : sStg S g 0 with
    | none => rfl
    | some e => exact ih (sLets S e f) h.lets
theorem letAll_no (h : noR S g) : sLetAll S g 2 f = sLetAll S g 0 f := lall_no _ S h
theorem SJ.nor (J : SJ S n) (h : sKind S g ≠ 1) : noR S g := fun e he hg => by
  cases hr : e.2.2 with
  | false => rfl
  | true => exact absurd (hg ▸ J.rk e he hr) h
theorem lets_lt {e : kMs} (he : e ∈ S.sn) : (sLets S e f).sn.length < S.sn.length := by
  show (S.sn.filter (fun q => q.1 != e.1)).length < _
  refine List.length_filter_lt_length_iff_exists.mpr ⟨e, he, by simp⟩
theorem cnt_lts {l : List kMs} {e : kMs} {p : kMs → Bool} (he : e ∈ l) (hp : p e = true) : (l.filter (fun q => q.1 != e.1)).countP p < l.countP p := by
  induction l with
  | nil => simp at he
  | cons a l ih =>
    by_cases hae : a.1 = e.1
    · rw [List.filter_cons_of_neg (by simp [hae])]
      have h1 : (l.filter (fun q => q.1 != e.1)).countP p ≤ l.countP p := (List.filter_sublist).countP_le
      by_cases ha : p a = true
      · rw [List.countP_cons_of_pos ha]
        omega
      · rw [List.countP_cons_of_neg ha]
        rcases List.mem_cons.mp he with rfl | he
        · exact absurd hp ha
        · exact ih he
    · rw [List.filter_cons_of_pos (by simp [hae])]
      rcases List.mem_cons.mp he with rfl | he
      · exact absurd rfl hae
      · have := ih he
        rw [List.countP_cons, List.countP_cons]
        omega
/-- TaskDesk.wakeAll at a gate -/
theorem C_lall_l {C : kx_C} (hC : C = kx_ev wx_M (d + 3)) (hg : g < 256) (hh : how = 0 ∨ how = 1) : ∀ L F w (S : kS) k, CR w S n → S.sn.countP (gAt g how) ≤ L → L < 1000 → S.sn.length ≤ k → L + 2 ≤ F →
    ∃ w', kx_ex (wm_54 (d + 3) C) F 6 [(0, kx_r 0 (some 1)), (1, kx_r 5 (some (lrw (some (.inr (g, how == 1)))))), (2, kx_i (kx_b f)), (3, kx_i (kx_b false)), (4, kx_i (i32 L))] [] w = some (.inl none, w') ∧ CR w' (sLall k S g how f) n ∧ FC w w' := by
  have stop : ∀ (S : kS) k, sStg S g how = none → sLall k S g how f = S := by
    intro S k h
    cases k with
    | zero => rfl
    | succ k => unfold sLall; rw [h]
  intro L
  induction L with
  | zero =>
    intro F w S k H hL hL2 hk hF
    obtain ⟨F, rfl⟩ : ∃ f', F = f' + 1 + 1 := ⟨F - 2, by omega⟩
    have hn : sStg S g how = none := by
      unfold sStg
      rw [List.find?_eq_none]
      have : S.sn.countP (gAt g how) = 0 := by omega
      exact List.countP_eq_zero.mp this
    rw [stop S k hn]
    refine ⟨w, ?_, H, FC.rf⟩
    rw [me_54_6]
    unfold mb_54_6
    rw [if_pos (show i32 0 ≤ 0 by decide), me_54_35]
    unfold mb_54_35
    rfl
  | succ L ih =>
    intro F w S k H hL hL2 hk hF
    obtain ⟨F, rfl⟩ : ∃ f', F = f' + 1 + 1 := ⟨F - 2, by omega⟩
    cases hf : sStg S g how with
    | none =>
      rw [stop S k hf]
      refine ⟨w, ?_, H, FC.rf⟩
      have h1 := C_noneG H hg hh hf
      rw [me_54_6]
      unfold mb_54_6
      simp only [ob_s, h1, if_true, ite_self, me_54_35, mb_54_35]
    | some e =>
      have hem : e ∈ S.sn := List.mem_of_find?_eq_some hf
      have hep : gAt g how e = true := List.find?_some hf
      have hlt : 0 < S.sn.length := List.length_pos_of_mem hem
      obtain ⟨k, rfl⟩ : ∃ k', k = k' + 1 := ⟨k - 1, by omega⟩
      obtain ⟨p, h1, -, h4⟩ := C_lets (d := d) H hg hh hf
      obtain ⟨w1, a1, H1, F1⟩ := h4 f
      have hcl := cnt_lts (p := gAt g how) hem hep
      have hml := lets_lt (S := S) (f := f) hem
      obtain ⟨w', r1, r2, r3⟩ := ih (F + 1) w1 (sLets S e f) k H1 (by show (S.sn.filter (fun q => q.1 != e.1)).countP (gAt g how) ≤ L; omega) (by omega) (by omega) (by omega)
      have es : sLall (k + 1) S g how f = sLall k (sLets S e f) g how f := by
        conv => lhs; unfold sLall
        rw [hf]
      rw [es]
      refine ⟨w', ?_, r2, F1.tr r3⟩
      rw [me_54_6]
      unfold mb_54_6
      rw [if_neg (show ¬ i32 (L + 1) ≤ 0 by rw [i32_p0 (by omega)]; simp)]
      rw [← hC] at a1
      simp only [ob_s, h1, reduceCtorEq, if_false, a1, bv_n]
      rw [em1]
      exact r1
theorem C_lall (H : CR w S n) (hg : g < 256) (hh : how = 0 ∨ how = 1) (hm : S.sn.length < 1000) : ∃ w', kx_ev wx_M (d + 4) 54 [kx_r 0 (some 1), kx_r 5 (some (lrw (some (.inr (g, how == 1))))), kx_i (kx_b f), kx_i (kx_b false)] w = some (.inl none, w') ∧ CR w' (sLetAll S g how f) n ∧ FC w w' := by
  obtain ⟨ψ, hψ⟩ := kx_fl 2000 (by omega)
  have hl := List.countP_le_length (p := gAt g how) (l := S.sn)
  obtain ⟨w', r1, r2, r3⟩ := C_lall_l (d := d) (f := f) rfl hg hh (S.sn.countP (gAt g how)) (ψ + 2000) w S S.sn.length H (Nat.le_refl _) (by omega) (Nat.le_refl _) (by omega)
  refine ⟨w', ?_, r2, r3⟩
  rw [mE_54 hψ]
  unfold mb_54_0
  simp only [ob_s, len_sn H hg hh]
  exact r1
/-- TaskDesk.giveLockBack -/
theorem K_unlock (H : CR w S n) (hg : g < 256) (hr : noR S g) : ∃ w', kx_ev wx_M (d + 4) 68 [kx_r 0 (some 1), kx_r 3 (some (2571 + 3 * g))] w = some (.inl none, w') ∧ CR w' (sUnlock S g) n ∧ FC w w' := by
  have k2 := (H.k.g g hg).2.2.1
  unfold sUnlock
  rw [stg_no hr]
  cases hf : sStg S g 0 with
  | none =>
    obtain ⟨H1, F1⟩ := CR_held H hg 0
    have h1 : hp_R w 1000 (2572 + 3 * g) = none := C_noneG (how := 0) H hg (Or.inl rfl) hf
    refine ⟨_, ?_, H1, F1⟩
    obtain ⟨ψ, hψ⟩ := kx_fu
    rw [mE_68 hψ]
    unfold mb_68_0
    simp only [ob_s, k2, h1, if_true, me_68_28, mb_68_28]
  | some e =>
    obtain ⟨p, h1, h2, h4⟩ := C_lets (d := d) (how := 0) H hg (Or.inl rfl) hf
    have h1' : hp_R w 1000 (2572 + 3 * g) = some p := h1
    obtain ⟨w1, a1, H1, F1⟩ := h4 true
    rw [kx_b_t, kx_b_f] at a1
    refine ⟨w1, ?_, H1, F1⟩
    obtain ⟨ψ, hψ⟩ := kx_fu
    rw [mE_68 hψ]
    unfold mb_68_0
    simp only [ob_s, k2, h1', reduceCtorEq, if_false, a1, bv_n, me_68_28, mb_68_28]
/-- TaskDesk.letWriterIn -/
theorem K_writer (H : CR w S n) (hg : g < 256) : ∃ w', kx_ev wx_M (d + 4) 75 [kx_r 0 (some 1), kx_r 3 (some (2571 + 3 * g))] w = some (.inl none, w') ∧ CR w' (match sStg S g 0 with | none => stHeld S g 0 | some e => sLets (stHeld S g (-1)) e true) n ∧ FC w w' := by
  have k2 := (H.k.g g hg).2.2.1
  cases hf : sStg S g 0 with
  | none =>
    obtain ⟨H1, F1⟩ := CR_held H hg 0
    have h1 : hp_R w 1000 (2572 + 3 * g) = none := C_noneG (how := 0) H hg (Or.inl rfl) hf
    refine ⟨_, ?_, H1, F1⟩
    obtain ⟨ψ, hψ⟩ := kx_fu
    rw [mE_75 hψ]
    unfold mb_75_0
    simp only [ob_s, k2, h1, if_true, me_75_33, mb_75_33]
  | some e =>
    obtain ⟨H0, F0⟩ := CR_held H hg (-1)
    have hf' : sStg (stHeld S g (-1)) g 0 = some e := hf
    obtain ⟨p, h1, h2, h4⟩ := C_lets (d := d) (how := 0) H0 hg (Or.inl rfl) hf'
    have h1' : hp_R w 1000 (2572 + 3 * g) = some p := h1
    obtain ⟨w1, a1, H1, F1⟩ := h4 true
    rw [kx_b_t, kx_b_f] at a1
    refine ⟨w1, ?_, H1, F0.tr F1⟩
    obtain ⟨ψ, hψ⟩ := kx_fu
    rw [mE_75 hψ]
    unfold mb_75_0
    simp only [ob_s, k2, h1', reduceCtorEq, if_false, a1, bv_n, me_75_33, mb_75_33]
/-- TaskDesk.setGroup -/
theorem K_group (H : CR w S n) (hg : g < 256) (hm : S.sn.length < 1000) : ∃ w', kx_ev wx_M (d + 5) 76 [kx_r 0 (some 1), kx_r 3 (some (2571 + 3 * g)), kx_i x] w = some (.inl none, w') ∧ CR w' (if x = 0 then sLetAll (stHeld S g x) g 0 true else stHeld S g x) n ∧ FC w w' := by
  obtain ⟨H0, F0⟩ := CR_held H hg x
  have k2 : hp_R (hp_sI w 608 (2571 + 3 * g) x) 602 (2571 + 3 * g) = some (2572 + 3 * g) := (H.k.g g hg).2.2.1
  by_cases hx : x = 0
  · rw [if_pos hx]
    obtain ⟨w1, a1, H1, F1⟩ := C_lall (d := d) (how := 0) (f := true) H0 hg (Or.inl rfl) hm
    have a1' : kx_ev wx_M (d + 4) 54 [kx_r 0 (some 1), kx_r 5 (some (2572 + 3 * g)), kx_i 1, kx_i 0] (hp_sI w 608 (2571 + 3 * g) x) = some (.inl none, w1) := a1
    refine ⟨w1, ?_, H1, F0.tr F1⟩
    obtain ⟨ψ, hψ⟩ := kx_fu
    rw [mE_76 hψ]
    unfold mb_76_0
    simp only [ob_s, if_pos hx, k2, a1', bv_n, me_76_19, mb_76_19]
  · rw [if_neg hx]
    refine ⟨_, ?_, H0, F0⟩
    obtain ⟨ψ, hψ⟩ := kx_fu
    rw [mE_76 hψ]
    unfold mb_76_0
    simp only [ob_s, if_neg hx, me_76_19, mb_76_19]
end CGA
