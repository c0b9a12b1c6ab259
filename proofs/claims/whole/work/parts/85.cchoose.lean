/-! the class's calls: choose (the task waits in its cases) -/
section CHW
variable {w w' : kx_H} {S S' : kS} {t g n d c : Nat} {x : Int32} {v val : Int64} {f b : Bool} {Q : List kQ} {fp tp fv ft : List Nat} {V : List (Nat × Int64 × Nat)} {A : List (Nat × kMe)} {l : kLoc}
def qLo (e : kMt) : kLoc := some (.inl (if e.1 < 0 then none else some e.1.toNatClampNeg, e.2.1))
def qN (t i p : Nat) (e : kMt) : kQ := (qLo e, p, t, e.2.2, i32 i)
def qNew (t : Nat) : Nat → List Nat → List kMt → List kQ
  | i, p :: P, e :: E => qN t i p e :: qNew t (i + 1) P E
  | _, _, _ => []
theorem qNew_mo (t : Nat) : ∀ (P : List Nat) (E : List kMt) (j : Nat), P.length = E.length → (qNew t j P E).filterMap qMo = (E.zipIdx j).filterMap (cOf t) := by
  intro P
  induction P with
  | nil =>
    intro E j h
    cases E with
    | nil => rfl
    | cons e E => simp at h
  | cons p P ih =>
    intro E j h
    cases E with
    | nil => simp at h
    | cons e E =>
      have hq : qMo (qN t j p e) = cOf t (e, j) := by
        unfold qN qLo qMo cOf
        by_cases h1 : e.1 < 0
        · simp only [if_pos h1]
        · simp only [if_neg h1]
      rw [List.zipIdx_cons]
      show (qN t j p e :: qNew t (j + 1) P E).filterMap qMo = _
      rw [List.filterMap_cons, List.filterMap_cons, hq, ih E (j + 1) (by simpa using h)]
theorem qNew_no (t : Nat) : ∀ (P : List Nat) (E : List kMt) (j : Nat), (qNew t j P E).filterMap qRd = [] ∧ (qNew t j P E).filterMap qSn = [] := by
  intro P
  induction P with
  | nil => intro E j; exact ⟨rfl, rfl⟩
  | cons p P ih =>
    intro E j
    cases E with
    | nil => exact ⟨rfl, rfl⟩
    | cons e E =>
      obtain ⟨h1, h2⟩ := ih E (j + 1)
      exact ⟨(fm_no (show qRd (qN t j p e) = none from rfl)).trans h1, (fm_no (show qSn (qN t j p e) = none from rfl)).trans h2⟩
/-- a place is put into a row and is the task's -/
theorem C_adopt {st : Nat → Int32} {p j : Nat} {T : List Nat} {e : kMt} (hq : CQ w st Q fp (p :: T) n) (K : CK w) (ht : t < 256) (hs : st t = 4 ∨ st t = 7) (hv : vCh e) (hj : (qCas Q t).length ≤ j) (hj2 : j < 16) (o4 : hp_L w 806 p = e.2.2) (o5 : hp_I w 808 p = i32 j) :
    ∃ w1, kx_ev wx_M (d + 1) 28 [kx_r 5 (some (lrw (qLo e))), kx_r 4 (some p)] w = some (.inl none, w1) ∧ CQ (hp_sR (hp_sR (hp_sR w1 800 p (some (524 + 2 * t))) 816 p (hp_R w1 1210 (524 + 2 * t))) 1210 (524 + 2 * t) (some p)) st (Q ++ [qN t j p e]) fp T n ∧ (qCas (Q ++ [qN t j p e]) t).length ≤ j + 1 ∧ FR [1004] [] [810, 812, 814, 1000, 1002] [] w w1 := by
  have hpm : p ∈ fp ++ p :: T := List.mem_append_right _ List.mem_cons_self
  have hpl := hq.isp p hpm
  obtain ⟨w1, a1, K1, F1⟩ := L_append (d := d) (r := lrw (qLo e)) (p := p) hq.row (hq.freeP hpm)
  have hlo : lok (qLo e) := by
    unfold qLo
    rcases hv with h | ⟨c, hc, h⟩
    · rw [h, if_pos (by decide)]; trivial
    · rw [h, if_neg (show ¬ i32 c < 0 by rw [i32_neg (by omega)]; simp), i32_nat (by omega)]; exact hc
  have K2 : kRow w1 (Qrl (Q ++ [qN t j p e])) := by
    rw [← Qrl_app]
    exact K1
  have hqi : qIs (qN t j p e) = true := qIs_t.mpr (fun h => by
    have h' : p = 523 + 2 * t := h
    unfold isPL at hpl
    omega)
  have hqp := hq.qp hpm
  have nd := hq.nd
  have hpf : p ∉ fp := fun h => by
    rw [List.append_assoc, List.nodup_append] at nd
    exact nd.2.2 p h p (List.mem_append_left _ List.mem_cons_self) rfl
  have c800 : ∀ q, hp_R (hp_sR (hp_sR (hp_sR w1 800 p (some (524 + 2 * t))) 816 p (hp_R w1 1210 (524 + 2 * t))) 1210 (524 + 2 * t) (some p)) 800 q = if q = p then some (524 + 2 * t) else hp_R w 800 q := by
    intro q
    rw [← F1.R 800 (by decide)]
    by_cases h : q = p <;> simp [hI_I, hI_L, hI_R, hI_B, hI_b, hL_I, hL_L, hL_R, hL_B, hL_b, hR_I, hR_L, hR_R, hR_B, hR_b, hB_I, hB_L, hB_R, hB_B, hB_b, hN_I, hN_L, hN_R, hN_B, hN_b, hT_I, hT_L, hT_R, hT_B, hT_b, hX_I, hX_L, hX_R, hX_B, hX_b, hC_I, hC_L, hC_R, hC_B, hC_b, hU_I, hU_L, hU_R, hU_B, hU_b, h]
  have c816 : ∀ q, hp_R (hp_sR (hp_sR (hp_sR w1 800 p (some (524 + 2 * t))) 816 p (hp_R w1 1210 (524 + 2 * t))) 1210 (524 + 2 * t) (some p)) 816 q = if q = p then hp_R w 1210 (524 + 2 * t) else hp_R w 816 q := by
    intro q
    rw [← F1.R 816 (by decide), ← F1.R 1210 (by decide)]
    by_cases h : q = p <;> simp [hI_I, hI_L, hI_R, hI_B, hI_b, hL_I, hL_L, hL_R, hL_B, hL_b, hR_I, hR_L, hR_R, hR_B, hR_b, hB_I, hB_L, hB_R, hB_B, hB_b, hN_I, hN_L, hN_R, hN_B, hN_b, hT_I, hT_L, hT_R, hT_B, hT_b, hX_I, hX_L, hX_R, hX_B, hX_b, hC_I, hC_L, hC_R, hC_B, hC_b, hU_I, hU_L, hU_R, hU_B, hU_b, h]
  have c1210 : ∀ q, hp_R (hp_sR (hp_sR (hp_sR w1 800 p (some (524 + 2 * t))) 816 p (hp_R w1 1210 (524 + 2 * t))) 1210 (524 + 2 * t) (some p)) 1210 q = if q = 524 + 2 * t then some p else hp_R w 1210 q := by
    intro q
    rw [← F1.R 1210 (by decide)]
    by_cases h : q = 524 + 2 * t <;> simp [hI_I, hI_L, hI_R, hI_B, hI_b, hL_I, hL_L, hL_R, hL_B, hL_b, hR_I, hR_L, hR_R, hR_B, hR_b, hB_I, hB_L, hB_R, hB_B, hB_b, hN_I, hN_L, hN_R, hN_B, hN_b, hT_I, hT_L, hT_R, hT_B, hT_b, hX_I, hX_L, hX_R, hX_B, hX_b, hC_I, hC_L, hC_R, hC_B, hC_b, hU_I, hU_L, hU_R, hU_B, hU_b, h]
  have F2 : FR [] [] [800, 816, 1210] [] w1 (hp_sR (hp_sR (hp_sR w1 800 p (some (524 + 2 * t))) 816 p (hp_R w1 1210 (524 + 2 * t))) 1210 (524 + 2 * t) (some p)) := FR.sR (by decide) (FR.sR (by decide) (FR.sR (by decide) FR.rf))
  have ecas : ∀ i, qCas (Q ++ [qN t j p e]) i = if i = t then p :: qCas Q t else qCas Q i := by
    intro i
    unfold qCas
    rw [List.filter_append, List.map_append, List.reverse_append]
    have e2 : (qN t j p e).2.2.1 = t := rfl
    have e3 : (qN t j p e).2.1 = p := rfl
    by_cases h : i = t
    · subst h
      simp [hqi, e2, e3]
    · have h' : ¬ t = i := fun h2 => h h2.symm
      simp [hqi, e2, h, h']
  have epl : qPl (Q ++ [qN t j p e]) = qPl Q ++ [p] := by
    unfold qPl
    rw [List.filter_append]
    simp [hqi]
    rfl
  refine ⟨w1, a1, ?_, ?_, F1⟩
  · refine ⟨?_, fun q hm => ?_, fun q hm => ?_, fun q hm => ?_, fun i hi => ?_, fun i hi => ?_, fun i => ?_, ?_, ?_, ?_, ?_, hq.len⟩
    · exact K2.cong (F2.R _ (by decide)) (F2.R _ (by decide)) (F2.R _ (by decide)) (F2.R _ (by decide)) (F2.R _ (by decide)) (F2.I _ (by decide))
    · rcases List.mem_append.mp hm with hm | hm
      · exact hq.loc q hm
      · obtain rfl := List.mem_singleton.mp hm
        refine ⟨hlo, ht, ?_⟩
        show st t = 2 ∨ st t = 3 ∨ st t = 4 ∨ st t = 7
        rcases hs with h | h
        · exact Or.inr (Or.inr (Or.inl h))
        · exact Or.inr (Or.inr (Or.inr h))
    · rcases List.mem_append.mp hm with hm | hm
      · exact hq.pl q hm
      · obtain rfl := List.mem_singleton.mp hm
        exact Or.inr ⟨hpl, _, rfl⟩
    · rw [F2.I 808 (by decide), F2.L 806 (by decide), F1.I 808 (by decide), F1.L 806 (by decide), c800]
      rcases List.mem_append.mp hm with hm | hm
      · rw [if_neg (hqp q hm)]
        exact hq.own q hm
      · obtain rfl := List.mem_singleton.mp hm
        exact ⟨if_pos rfl, o5, fun _ => o4⟩
    · rw [F2.I 808 (by decide), F1.I 808 (by decide), c800, if_neg (fun h => by unfold isPL at hpl; omega)]
      exact hq.std i hi
    · rw [c1210, ecas]
      have hca : ∀ i, p ∉ qCas Q i := fun i hm => by
        obtain ⟨q2, g1, g2, g3, g4⟩ := hq.cas_m hm
        exact hqp q2 g1 g2
      by_cases h : i = t
      · subst h
        rw [if_pos rfl, if_pos rfl]
        refine ⟨rfl, ?_⟩
        rw [c816, if_pos rfl]
        exact (hq.cas i hi).upd (fun q hm => by rw [c816, if_neg (fun e : q = p => hca i (e ▸ hm))])
      · rw [if_neg (by omega), if_neg h]
        exact (hq.cas i hi).upd (fun q hm => by rw [c816, if_neg (fun e : q = p => hca i (e ▸ hm))])
    · rw [ecas]
      by_cases h : i = t
      · rw [if_pos h]
        simp
        omega
      · rw [if_neg h]
        exact hq.caL i
    · rw [show hp_R (hp_sR (hp_sR (hp_sR w1 800 p (some (524 + 2 * t))) 816 p (hp_R w1 1210 (524 + 2 * t))) 1210 (524 + 2 * t) (some p)) 30 = hp_R w 30 from (F2.R 30 (by decide)).trans (F1.R 30 (by decide))]
      exact hq.fre.upd (fun q hm => by rw [c816, if_neg (fun e : q = p => hpf (e ▸ hm))])
    · rw [epl]
      have hp2 : List.Perm (fp ++ T ++ (qPl Q ++ [p])) (fp ++ p :: T ++ qPl Q) := by
        rw [List.append_assoc, List.append_assoc]
        apply List.Perm.append_left
        rw [← List.append_assoc]
        exact List.perm_append_singleton p (T ++ qPl Q)
      exact hp2.nodup_iff.mpr nd
    · rw [List.map_append, List.nodup_append]
      refine ⟨hq.qn, by simp, fun a ha y hy e2 => ?_⟩
      have hy' : y = p := List.mem_singleton.mp hy
      subst hy'
      subst e2
      obtain ⟨q, h1, h2⟩ := List.mem_map.mp ha
      exact hqp q h1 h2
    · intro q hm
      apply hq.isp q
      rcases List.mem_append.mp hm with h | h
      · exact List.mem_append_left _ h
      · exact List.mem_append_right _ (List.mem_cons_of_mem _ h)
  · rw [ecas, if_pos rfl]
    simp
    omega
theorem row_lo {e : kMt} (K : CK w) (hv : vCh e) : hp_R w (bif e.2.1 then 402 else 404) (chc e.1) = some (lrw (qLo e)) := by
  unfold qLo
  rcases hv with h | ⟨c, hc, h⟩
  · rw [h, if_pos (by decide), show chc (-1) = 518 from by decide]
    cases e.2.1
    · exact K.nw.2.2
    · exact K.nw.2.1
  · have e5 : chc (i32 c) = 1035 + 3 * c := by
      unfold chc
      rw [if_neg (show ¬ i32 c < 0 by rw [i32_neg (by omega)]; simp), i32_nat (by omega)]
    rw [h, if_neg (show ¬ i32 c < 0 by rw [i32_neg (by omega)]; simp), i32_nat (by omega), e5]
    cases e.2.1
    · exact (K.c c hc).2.2.2
    · exact (K.c c hc).2.2.1
def rTx (w : kx_H) (j : Nat) (P : List Nat) (E : List kMt) : Prop := ∀ i p e, P[i]? = some p → E[i]? = some e → hp_R w 1043 (j + i) = some p ∧ hp_R w 802 p = some (chc e.1) ∧ hp_B w 804 p = e.2.1 ∧ hp_L w 806 p = e.2.2 ∧ hp_I w 808 p = i32 (j + i)
theorem rTx.fr {ki kl kr kb : List Nat} {j : Nat} {P : List Nat} {E : List kMt} (h : rTx w j P E) (F : FR ki kl kr kb w w') (h1 : 808 ∉ ki) (h2 : 806 ∉ kl) (h3 : 1043 ∉ kr) (h4 : 802 ∉ kr) (h5 : 804 ∉ kb) : rTx w' j P E := by
  unfold rTx
  rw [F.I 808 h1, F.L 806 h2, F.R 1043 h3, F.R 802 h4, F.B 804 h5]
  exact h
theorem K_wic_l {C : kx_C} (hC : C = kx_ev wx_M (d + 1)) {st : Nat → Int32} {N : Nat} (hN : N ≤ 16) (ht : t < 256) (hs : st t = 4 ∨ st t = 7) : ∀ (P : List Nat) (E : List kMt) (j F : Nat) (w : kx_H) (Q : List kQ), P.length = E.length → CK w → CQ w st Q fp P n → rTx w j P E → hp_I w 28 1 = i32 N → (∀ e ∈ E, vCh e) → (qCas Q t).length ≤ j → j + P.length = N → 5 * P.length + 1 ≤ F →
    ∃ w', kx_ex (wm_61 (d + 1) C) F 8 [(0, kx_r 0 (some 1)), (1, kx_r 6 (some (524 + 2 * t))), (2, kx_i (i32 j))] [] w = some (.inl none, hp_sI w' 28 1 0) ∧ CQ w' st (Q ++ qNew t j P E) fp [] n ∧ FR [1206, 1004] [] [800, 816, 1210, 810, 812, 814, 1000, 1002] [] w w' ∧ ∀ x, hp_I w' 1206 x = if x = 524 + 2 * t ∧ (E.zipIdx j).filterMap (cOf t) ≠ [] then 4 else hp_I w 1206 x := by
  intro P
  induction P with
  | nil =>
    intro E j F w Q hE K hq ht2 h28 hv hcl hj hF
    obtain ⟨F, rfl⟩ : ∃ f', F = f' + 1 := ⟨F - 1, by omega⟩
    obtain rfl : E = [] := List.eq_nil_of_length_eq_zero (by simpa using hE.symm)
    refine ⟨w, ?_, by rw [show qNew t j [] [] = [] from rfl, List.append_nil]; exact hq, FR.rf, fun x => by simp⟩
    rw [me_61_8]
    unfold mb_61_8
    simp at hj
    simp only [ob_s, h28]
    rw [if_pos (by rw [i32_le (by omega) (by omega)]; omega)]
  | cons p P ih =>
    intro E j F w Q hE K hq hto h28 hv hcl hj hF
    cases E with
    | nil => simp at hE
    | cons e E =>
      simp only [List.length_cons] at hE hj hF
      obtain ⟨F, rfl⟩ : ∃ f', F = f' + 1 + 1 + 1 + 1 := ⟨F - 4, by omega⟩
      obtain ⟨o1, o2, o3, o4, o5⟩ := hto 0 p e rfl rfl
      rw [Nat.add_zero] at o1 o5
      have hve := hv e List.mem_cons_self
      have hrow := row_lo K hve
      obtain ⟨w1, a1, q1, l1, F1⟩ := C_adopt (d := d) hq K ht hs hve hcl (by omega) o4 o5
      have a2 : kx_ev wx_M (d + 1) 62 [kx_r 6 (some (524 + 2 * t)), kx_r 4 (some p)] w1 = some (.inl none, hp_sR (hp_sR (hp_sR w1 800 p (some (524 + 2 * t))) 816 p (hp_R w1 1210 (524 + 2 * t))) 1210 (524 + 2 * t) (some p)) := by
        obtain ⟨ψ, hψ⟩ := kx_fu
        rw [mE_62 hψ]
        unfold mb_62_0
        simp only [ob_s, hI_I, hI_L, hI_R, hI_B, hI_b, hL_I, hL_L, hL_R, hL_B, hL_b, hR_I, hR_L, hR_R, hR_B, hR_b, hB_I, hB_L, hB_R, hB_B, hB_b, hN_I, hN_L, hN_R, hN_B, hN_b, hT_I, hT_L, hT_R, hT_B, hT_b, hX_I, hX_L, hX_R, hX_B, hX_b, hC_I, hC_L, hC_R, hC_B, hC_b, hU_I, hU_L, hU_R, hU_B, hU_b, Nat.reduceEqDiff, false_and, if_false]
      have F2 : FR [] [] [800, 816, 1210] [] w1 (hp_sR (hp_sR (hp_sR w1 800 p (some (524 + 2 * t))) 816 p (hp_R w1 1210 (524 + 2 * t))) 1210 (524 + 2 * t) (some p)) := FR.sR (by decide) (FR.sR (by decide) (FR.sR (by decide) FR.rf))
      generalize hp_sR (hp_sR (hp_sR w1 800 p (some (524 + 2 * t))) 816 p (hp_R w1 1210 (524 + 2 * t))) 1210 (524 + 2 * t) (some p) = w2 at a2 q1 F2
      have F12 : FR [1206, 1004] [] [800, 816, 1210, 810, 812, 814, 1000, 1002] [] w w2 := (F1.mono (fun k h => by revert k; decide) (fun _ h => h) (fun k h => by revert k; decide) (fun _ h => h)).tr (F2.mono (fun k h => by cases h) (fun _ h => h) (fun k h => by revert k; decide) (fun _ h => h))
      have g1206 : hp_I w2 1206 = hp_I w 1206 := (F2.I 1206 (by decide)).trans (F1.I 1206 (by decide))
      have F3 : ∀ y, FR [1206] [] [] [] w2 (hp_sI w2 1206 (524 + 2 * t) y) := fun y => FR.sI (by decide) FR.rf
      have FF : ∀ y, FR [1206, 1004] [] [800, 816, 1210, 810, 812, 814, 1000, 1002] [] w (hp_sI w2 1206 (524 + 2 * t) y) := fun y => F12.tr ((F3 y).mono (fun k h => by revert k; decide) (fun _ h => h) (fun k h => by cases h) (fun _ h => h))
      obtain ⟨y, hy⟩ : ∃ y, y = if e.1 < 0 then hp_I w 1206 (524 + 2 * t) else 4 := ⟨_, rfl⟩
      have hto2 : rTx (hp_sI w2 1206 (524 + 2 * t) y) (j + 1) P E := by
        refine rTx.fr (fun i p' e' h1 h2 => ?_) (FF y) (by decide) (by decide) (by decide) (by decide) (by decide)
        have := hto (i + 1) p' e' h1 h2
        rw [show j + (i + 1) = j + 1 + i by omega] at this
        exact this
      obtain ⟨w', r1, r2, r3, r4⟩ := ih E (j + 1) F (hp_sI w2 1206 (524 + 2 * t) y) (Q ++ [qN t j p e]) (by omega) (K.fr (FF y) (by decide) (by decide) (by decide) (by decide)) (q1.fr (F3 y) (by decide) (by decide) (by decide) (by decide)) hto2 (by rw [(FF y).I 28 (by decide)]; exact h28) (fun e' he => hv e' (List.mem_cons_of_mem _ he)) l1 (by omega) (by omega)
      refine ⟨w', ?_, ?_, (FF y).tr r3, fun x => ?_⟩
      · rw [← r1, me_61_8]
        unfold mb_61_8
        have hkk : (16 ≤ j) = False := by simp; omega
        rw [← hC] at a1 a2
        have x802 : hp_R w2 802 p = some (chc e.1) := by rw [F12.R 802 (by decide)]; exact o2
        have x18 : hp_R w2 18 1 = some 518 := by rw [F12.R 18 (by decide)]; exact K.d.2.2.2.2.1
        have hch : (some (chc e.1) = some 518) = (e.1 < 0) := by
          unfold chc
          by_cases h : e.1 < 0
          · simp [h]
          · simp [h]
            omega
        simp only [ob_s, h28, K.d.2.2.2.2.2.1, K.n.2.2.1, i32_nat (n := j) (by omega), i32_neg (n := j) (by omega), hkk, or_self, if_false, o1, reduceCtorEq, o3, kx_b_0, o2, me_61_51, mb_61_51]
        rw [if_neg (by rw [i32_le (by omega) (by omega)]; omega)]
        have hend : (if (some (chc e.1) : Option Nat) = some 518 then kx_ex (wm_61 (d + 1) C) (F + 1 + 1) 84 [(0, kx_r 0 (some 1)), (1, kx_r 6 (some (524 + 2 * t))), (2, kx_i (i32 j))] [kx_i (hp_I w 1206 (524 + 2 * t)), kx_r 6 (some (524 + 2 * t))] w2 else kx_ex (wm_61 (d + 1) C) (F + 1 + 1) 84 [(0, kx_r 0 (some 1)), (1, kx_r 6 (some (524 + 2 * t))), (2, kx_i (i32 j))] [kx_i 4, kx_r 6 (some (524 + 2 * t))] w2) = kx_ex (wm_61 (d + 1) C) F 8 [(0, kx_r 0 (some 1)), (1, kx_r 6 (some (524 + 2 * t))), (2, kx_i (i32 (j + 1)))] [] (hp_sI w2 1206 (524 + 2 * t) y) := by
          rw [hy]
          by_cases h : e.1 < 0
          · rw [if_pos (by rw [hch]; exact h), if_pos h]
            simp only [me_61_84, mb_61_84, me_61_87, mb_61_87, ob_s, i32_add1]
          · rw [if_neg (by rw [hch]; exact h), if_neg h]
            simp only [me_61_84, mb_61_84, me_61_87, mb_61_87, ob_s, i32_add1]
        cases hg : e.2.1 with
        | false =>
          rw [hg] at hrow
          have hrow' : hp_R w 404 (chc e.1) = some (lrw (qLo e)) := hrow
          simp only [eq_self, reduceCtorEq, if_true, if_false, hrow', ob_s, a1, bv_n, a2, x802, x18, g1206]
          exact hend
        | true =>
          rw [hg] at hrow
          have hrow' : hp_R w 402 (chc e.1) = some (lrw (qLo e)) := hrow
          simp only [eq_self, reduceCtorEq, if_true, if_false, hrow', ob_s, a1, bv_n, a2, x802, x18, g1206]
          exact hend
      · rw [List.append_assoc] at r2
        exact r2
      · rw [r4, List.zipIdx_cons]
        by_cases hx : x = 524 + 2 * t
        · subst hx
          have hs1 : hp_I (hp_sI w2 1206 (524 + 2 * t) y) 1206 (524 + 2 * t) = y := by simp [hI_I, hI_L, hI_R, hI_B, hI_b, hL_I, hL_L, hL_R, hL_B, hL_b, hR_I, hR_L, hR_R, hR_B, hR_b, hB_I, hB_L, hB_R, hB_B, hB_b, hN_I, hN_L, hN_R, hN_B, hN_b, hT_I, hT_L, hT_R, hT_B, hT_b, hX_I, hX_L, hX_R, hX_B, hX_b, hC_I, hC_L, hC_R, hC_B, hC_b, hU_I, hU_L, hU_R, hU_B, hU_b]
          rw [hs1, hy]
          by_cases h : e.1 < 0
          · have : cOf t (e, j) = none := by unfold cOf; rw [if_pos h]
            rw [List.filterMap_cons_none this, if_pos h]
          · have : cOf t (e, j) = some (t, e.1.toNatClampNeg, e.2.1, e.2.2, i32 j) := by unfold cOf; rw [if_neg h]
            rw [List.filterMap_cons_some this, if_neg h]
            simp
        · have hs1 : hp_I (hp_sI w2 1206 (524 + 2 * t) y) 1206 x = hp_I w 1206 x := by rw [← g1206]; simp [hI_I, hI_L, hI_R, hI_B, hI_b, hL_I, hL_L, hL_R, hL_B, hL_b, hR_I, hR_L, hR_R, hR_B, hR_b, hB_I, hB_L, hB_R, hB_B, hB_b, hN_I, hN_L, hN_R, hN_B, hN_b, hT_I, hT_L, hT_R, hT_B, hT_b, hX_I, hX_L, hX_R, hX_B, hX_b, hC_I, hC_L, hC_R, hC_B, hC_b, hU_I, hU_L, hU_R, hU_B, hU_b, hx]
          rw [hs1]
          simp [hx]
end CHW
