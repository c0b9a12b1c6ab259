/-! the class's calls: choose (which case is open; the case is done) -/
section CHO
variable {w w' : kx_H} {S S' : kS} {t g n d c : Nat} {x : Int32} {v val : Int64} {f b : Bool} {Q : List kQ} {fp tp fv ft : List Nat} {V : List (Nat × Int64 × Nat)} {A : List (Nat × kMe)} {l : kLoc}
/-- what is told, as openCase reads it -/
def rTo (w : kx_H) (mt : List kMt) : Prop := ∀ k e, mt[k]? = some e → ∃ p, hp_R w 1043 k = some p ∧ hp_R w 802 p = some (chc e.1) ∧ hp_B w 804 p = e.2.1
theorem C_oc_a (H : CR w S n) (hv : S.mv.length ≤ 8192) (hl : S.mt.length ≤ 16) (R : rTo w S.mt) (V : ∀ e ∈ S.mt, vCh e) {C : kx_C} (hC : C = kx_ev wx_M (d + 2)) : ∀ k j F, j + k = S.mt.length → 2 * k + 1 ≤ F →
    ∃ F', F ≤ F' + 2 * k ∧ kx_ex (wm_57 (d + 2) C) F 4 [(0, kx_r 0 (some 1)), (1, kx_i x), (2, kx_i (i32 (nRdy S (S.mt.take j)))), (3, kx_i (i32 j))] [] w =
      kx_ex (wm_57 (d + 2) C) F' 4 [(0, kx_r 0 (some 1)), (1, kx_i x), (2, kx_i (i32 (nRdy S S.mt))), (3, kx_i (i32 S.mt.length))] [] w := by
  intro k
  induction k with
  | zero =>
    intro j F hj hF
    obtain rfl : j = S.mt.length := by omega
    refine ⟨F, by omega, ?_⟩
    rw [List.take_of_length_le (Nat.le_refl _)]
  | succ k ih =>
    intro j F hj hF
    obtain ⟨F, rfl⟩ : ∃ f', F = f' + 1 + 1 := ⟨F - 2, by omega⟩
    obtain ⟨y, hy⟩ : ∃ y, S.mt[j]? = some y := ⟨S.mt[j], List.getElem?_eq_getElem (by omega)⟩
    have hym := List.mem_of_getElem? hy
    obtain ⟨p, p1, p2, p3⟩ := R j y hy
    have a := K_isOpen (d := d) H hv (V y hym) p2 p3
    obtain ⟨F', h1, h2⟩ := ih (j + 1) F (by omega) (by omega)
    refine ⟨F', by omega, ?_⟩
    rw [← h2, me_57_4]
    unfold mb_57_4
    unfold nRdy
    rw [cp_take hy]
    rw [← hC] at a
    have hkk : (16 ≤ j) = False := by simp; omega
    simp only [ob_s, H.s.to, H.k.d.2.2.2.2.2.1, H.k.n.2.2.1, i32_nat (n := j) (by omega), i32_neg (n := j) (by omega), hkk, or_self, if_false, p1, a, bi_n, me_57_31, mb_57_31, i32_add1]
    rw [if_neg (by rw [i32_le (by omega) (by omega)]; omega)]
    cases isRdy S y with
    | true => simp only [kx_b_t, i10, eq_self, reduceCtorEq, if_true, if_false, i32_add1]
    | false => simp only [kx_b_f, eq_self, reduceCtorEq, if_true, if_false, Int32.add_zero, Nat.add_zero]
theorem zi_drop {α : Type} {mt : List α} {j : Nat} {y : α} (hy : mt[j]? = some y) : mt.zipIdx.drop j = (y, j) :: mt.zipIdx.drop (j + 1) := by
  obtain ⟨h1, h2⟩ := List.getElem?_eq_some_iff.mp hy
  have hjz : j < mt.zipIdx.length := by simp; omega
  rw [List.drop_eq_getElem_cons hjz]
  congr 1
  rw [List.getElem_zipIdx]
  simp [h2]
theorem C_oc_b (H : CR w S n) (hv : S.mv.length ≤ 8192) (hl : S.mt.length ≤ 16) (R : rTo w S.mt) (V : ∀ e ∈ S.mt, vCh e) {C : kx_C} (hC : C = kx_ev wx_M (d + 2)) : ∀ k j l F, j + k = S.mt.length → 3 * k + 1 ≤ F → l < 1000 →
    kx_ex (wm_57 (d + 2) C) F 54 [(0, kx_r 0 (some 1)), (3, kx_i (i32 l)), (4, kx_i (i32 j))] [] w = some (.inl (some (.inr (.inr (4, (((S.mt.zipIdx.drop j).filter (fun e => isRdy S e.1))[l]?).bind fun e => hp_R w 1043 e.2)))), w) := by
  intro k
  induction k with
  | zero =>
    intro j l F hj hF hl9
    obtain ⟨F, rfl⟩ : ∃ f', F = f' + 1 := ⟨F - 1, by omega⟩
    rw [List.drop_of_length_le (by simp; omega), me_57_54]
    unfold mb_57_54
    simp only [ob_s, H.s.to]
    rw [if_pos (by rw [i32_le (by omega) (by omega)]; omega)]
    rfl
  | succ k ih =>
    intro j l F hj hF hl9
    obtain ⟨F, rfl⟩ : ∃ f', F = f' + 1 + 1 + 1 := ⟨F - 3, by omega⟩
    obtain ⟨y, hy⟩ : ∃ y, S.mt[j]? = some y := ⟨S.mt[j], List.getElem?_eq_getElem (by omega)⟩
    have hym := List.mem_of_getElem? hy
    obtain ⟨p, p1, p2, p3⟩ := R j y hy
    have a := K_isOpen (d := d) H hv (V y hym) p2 p3
    rw [zi_drop hy, me_57_54]
    unfold mb_57_54
    rw [← hC] at a
    have hkk : (16 ≤ j) = False := by simp; omega
    simp only [ob_s, H.s.to, H.k.d.2.2.2.2.2.1, H.k.n.2.2.1, i32_nat (n := j) (by omega), i32_neg (n := j) (by omega), hkk, or_self, if_false, p1, a, bi_n, me_57_92, mb_57_92, i32_add1]
    rw [if_neg (by rw [i32_le (by omega) (by omega)]; omega)]
    cases hr : isRdy S y with
    | false =>
      simp only [kx_b_f, eq_self, reduceCtorEq, if_true, if_false]
      rw [ih (j + 1) l (F + 1) (by omega) (by omega) hl9, List.filter_cons_of_neg (by simp [hr])]
    | true =>
      simp only [kx_b_t, i10, if_false]
      rw [List.filter_cons_of_pos (by simp [hr])]
      cases l with
      | zero =>
        rw [if_pos (show i32 0 = 0 by rfl)]
        simp only [List.getElem?_cons_zero]
        rw [show (some (y, j)).bind (fun e => hp_R w 1043 e.2) = hp_R w 1043 j from rfl, p1]
      | succ l =>
        rw [if_neg (show ¬ i32 (l + 1) = 0 by rw [show (0 : Int32) = i32 0 from rfl, i32_eq (by omega) (by omega)]; omega), em1, ih (j + 1) l (F + 1) (by omega) (by omega) (by omega)]
        simp only [List.getElem?_cons_succ]
/-- TaskDesk.openCase -/
theorem K_openCase (H : CR w S n) (hv : S.mv.length ≤ 8192) (hl : S.mt.length ≤ 16) (R : rTo w S.mt) (V : ∀ e ∈ S.mt, vCh e) (hx : ¬ x < 0) : kx_ev wx_M (d + 3) 57 [kx_r 0 (some 1), kx_i x] w = some (.inl (some (.inr (.inr (4, ((cRdy S)[x.toNatClampNeg % (cRdy S).length]?).bind fun e => hp_R w 1043 e.2)))), w) := by
  obtain ⟨ψ, hψ⟩ := kx_fl 4000 (by omega)
  obtain ⟨F', hF, e1⟩ := C_oc_a (d := d) (x := x) H hv hl R V (C := kx_ev wx_M (d + 2)) rfl S.mt.length 0 (ψ + 4000) (by omega) (by omega)
  obtain ⟨F', rfl⟩ : ∃ f, F' = f + 1 + 1 := ⟨F' - 2, by omega⟩
  rw [mE_57 hψ]
  unfold mb_57_0
  have e1' : kx_ex (wm_57 (d + 2) (kx_ev wx_M (d + 2))) (ψ + 4000) 4 [(0, kx_r 0 (some 1)), (1, kx_i x), (2, kx_i 0), (3, kx_i 0)] [] w = kx_ex (wm_57 (d + 2) (kx_ev wx_M (d + 2))) (F' + 1 + 1) 4 [(0, kx_r 0 (some 1)), (1, kx_i x), (2, kx_i (i32 (nRdy S S.mt))), (3, kx_i (i32 S.mt.length))] [] w := e1
  rw [e1', me_57_4]
  unfold mb_57_4
  have hnr : nRdy S S.mt ≤ 16 := Nat.le_trans List.countP_le_length hl
  have hcr : (cRdy S).length = nRdy S S.mt := zf_cnt
  simp only [ob_s, H.s.to, me_57_50, mb_57_50]
  rw [if_pos (by rw [i32_le (by omega) (by omega)]; omega)]
  by_cases hz : nRdy S S.mt = 0
  · have hnil : cRdy S = [] := List.eq_nil_of_length_eq_zero (by omega)
    have b := C_oc_b (d := d) H hv hl R V (C := kx_ev wx_M (d + 2)) rfl S.mt.length 0 0 F' (by omega) (by omega) (by omega)
    rw [List.drop_zero, show S.mt.zipIdx.filter (fun e => isRdy S e.1) = cRdy S from rfl, hnil] at b
    rw [hz, if_pos (show i32 0 ≤ 0 by decide), hnil]
    exact b
  · rw [if_neg (show ¬ i32 (nRdy S S.mt) ≤ 0 by rw [i32_p0 (by omega)]; omega), if_neg (show ¬ i32 (nRdy S S.mt) = 0 by rw [show (0 : Int32) = i32 0 from rfl, i32_eq (by omega) (by omega)]; exact hz)]
    obtain ⟨ec, eb⟩ := i32_of hx
    have hlt : x.toNatClampNeg % nRdy S S.mt < nRdy S S.mt := Nat.mod_lt _ (by omega)
    have hmod : x - x / i32 (nRdy S S.mt) * i32 (nRdy S S.mt) = i32 (x.toNatClampNeg % nRdy S S.mt) := by
      conv => lhs; rw [ec]
      exact i32_mod eb (by omega) (by omega)
    have b := C_oc_b (d := d) H hv hl R V (C := kx_ev wx_M (d + 2)) rfl S.mt.length 0 (x.toNatClampNeg % nRdy S S.mt) F' (by omega) (by omega) (by omega)
    rw [List.drop_zero, show S.mt.zipIdx.filter (fun e => isRdy S e.1) = cRdy S from rfl] at b
    rw [hmod, hcr]
    exact b
/-- who is woken, what is passed: the cases' numbers stay -/
theorem C_wake8 {p : Nat} (H : CX w S n Q fp tp V fv A ft) (ht : t < 256) (hp : hp_R w 800 p = some (524 + 2 * t)) : ∃ w', kx_ev wx_M (d + 3) 35 [kx_r 0 (some 1), kx_r 4 (some p), kx_l v, kx_i (kx_b f), kx_i (kx_b b)] w = some (.inl none, w') ∧ hp_I w' 808 = hp_I w 808 := by
  obtain ⟨w1, a1, H1, F1⟩ := C_tell (d := d + 1) (t := t) (v := v) (f := f) (x := hp_I w 808 p) (b := b) H ht
  obtain ⟨w2, a2, H2, h8, F2⟩ := C_out (d := d) H1 ht
  obtain ⟨w3, a3, H3, F3⟩ := C_wait (d := d) (l := none) (st := 1) (x := -1) (val := 0) H2 ht trivial rfl h8 (fun q hq => not_mem_fl (p := qIs) q hq) (fun h => by cases h)
  refine ⟨w3, ?_, by rw [F3.I 808 (by decide), F2.I 808 (by decide), F1.I 808 (by decide)]⟩
  obtain ⟨ψ, hψ⟩ := kx_fu
  rw [mE_35 hψ]
  unfold mb_35_0
  have e4 : hp_R w2 4 1 = some 3 := H2.k.d.2.1
  have a3' : kx_ev wx_M (d + 2) 27 [kx_r 6 (some (524 + 2 * t)), kx_r 5 (some 3), kx_i 1, kx_i (-1)] w2 = some (.inl none, w3) := a3
  simp only [ob_s, hp, reduceCtorEq, if_false, a1, bv_n, a2, e4, a3', me_35_42, mb_35_42]
theorem C_pass8 (H : CR w S n) (hc : c < 512) (hl : S.mv.length < 512) : ∃ w', kx_ev wx_M (d + 4) 34 [kx_r 0 (some 1), kx_r 2 (some (1035 + 3 * c)), kx_l v] w = some (.inl none, w') ∧ hp_I w' 808 = hp_I w 808 := by
  have k4 := (H.k.c c hc).2.2.2
  obtain ⟨Q, fp, tp, V, fv, A, ft, H⟩ := H
  cases hf : sFst S c false with
  | none =>
    have h1 : hp_R w 1000 (1037 + 3 * c) = none := (hd_mo (b := false) H hc).1 hf
    obtain ⟨w', V', fv', a1, H1, F1⟩ := C_put (d := d + 1) (v := v) H hc hl
    refine ⟨w', ?_, F1.I 808 (by decide)⟩
    obtain ⟨ψ, hψ⟩ := kx_fu
    rw [mE_34 hψ]
    unfold mb_34_0
    simp only [ob_s, k4, h1, if_true, a1, bv_n, me_34_32, mb_34_32]
  | some e =>
    obtain ⟨p, h1, h2, h3, h4, h5, h6⟩ := (hd_mo (b := false) H hc).2 e hf
    have h1' : hp_R w 1000 (1037 + 3 * c) = some p := h1
    obtain ⟨w', a1, F1⟩ := C_wake8 (d := d) (v := v) (f := true) (b := false) H h5 h2
    rw [kx_b_t, kx_b_f] at a1
    refine ⟨w', ?_, F1⟩
    obtain ⟨ψ, hψ⟩ := kx_fu
    rw [mE_34 hψ]
    unfold mb_34_0
    simp only [ob_s, k4, h1', reduceCtorEq, if_false, a1, bv_n, me_34_32, mb_34_32]
/-- TaskDesk.doCase -/
theorem K_doCase {e : kMt} {j p q : Nat} (H : CX w S n Q fp tp V fv A ft) (hm : S.mt.length ≤ 16) (hl : S.mv.length < 512) (ht : t < 256) (h0 : stt S t = 0) (r : rmOK w) (hq : q < 512) (he : e.1 = i32 q) (p2 : hp_R w 802 p = some (chc e.1)) (p3 : hp_B w 804 p = e.2.1) (p4 : hp_L w 806 p = e.2.2) (p5 : hp_I w 808 p = i32 j)
    (hj : isPL p) : ∃ w', kx_ev wx_M (d + 5) 59 [kx_r 0 (some 1), kx_r 6 (some (524 + 2 * t)), kx_r 4 (some p)] w = some (if (sDone (kS.s_mt ((kS.s_th S (0))) ([])) t (e, j)).2 = true then .inl none else .inr 2, w') ∧ CR w' (sDone (kS.s_mt ((kS.s_th S (0))) ([])) t (e, j)).1 n ∧ FB w w' := by
  have hnat := i32_nat (n := q) (by omega)
  have ecc : chc e.1 = 1035 + 3 * q := by
    rw [he]
    unfold chc
    rw [if_neg (show ¬ i32 q < 0 by rw [i32_neg (by omega)]; simp), hnat]
  obtain ⟨w1, fp1, a1, H1, F1⟩ := C_forget (d := d + 2) H hm (kS.s_mt ((kS.s_th S (0))) ([])) rfl rfl rfl rfl rfl rfl rfl rfl rfl rfl rfl rfl rfl
  have FC1 := FC.of F1 (by decide) (by decide) (by decide) (by decide)
  have r1 := FC1.rm r
  have x3 : hp_B w1 804 p = e.2.1 := by rw [F1.B 804 (by decide)]; exact p3
  have x4 : hp_L w1 806 p = e.2.2 := by rw [F1.L 806 (by decide)]; exact p4
  have x5 : hp_I w1 808 p = i32 j := by rw [F1.I 808 (by decide)]; exact p5
  have cl : hp_B w1 408 (1035 + 3 * q) = sClosed (kS.s_mt ((kS.s_th S (0))) ([])) q := H1.c.cl q hq
  unfold sDone
  rw [show (e, j).1.1 = i32 q from he, hnat]
  obtain ⟨ψ, hψ⟩ := kx_fu
  rw [mE_59 hψ]
  unfold mb_59_0
  simp only [ob_s, a1, bv_n, x3, kx_b_0, p2, ecc, cl]
  cases hg : e.2.1 with
  | false =>
    simp only [eq_self, reduceCtorEq, if_true, if_false]
    obtain ⟨w2, a2, H2, F2⟩ := C_recvNow (d := d) (k := i32 j) (t := t) H1.cr hq hl ht h0
    refine ⟨w2, ?_, H2, (FC1.tr F2).fb⟩
    rw [x5, a2, bv_n, me_59_66]
    rfl
  | true =>
    simp only [eq_self, reduceCtorEq, if_true, if_false]
    cases hcl : sClosed (kS.s_mt ((kS.s_th S (0))) ([])) q with
    | true =>
      simp only [eq_self, reduceCtorEq, if_true, if_false]
      refine ⟨_, ?_, (H1.cr.th 3).bump 1 6, FC1.bm⟩
      rw [thd_ok (by omega) r1.1 r1.2]
    | false =>
      simp only [eq_self, reduceCtorEq, if_true, if_false]
      obtain ⟨w2, a2, H2, F2⟩ := C_pass (d := d) (v := e.2.2) H1.cr hq hl
      obtain ⟨Q2, fp2, tp2, V2, fv2, A2, ft2, HX2⟩ := H2
      obtain ⟨w3, a3, H3, F3⟩ := C_tell (d := d + 3) (t := t) (v := 0) (f := true) (x := i32 j) (b := false) HX2 ht
      rw [kx_b_t, kx_b_f] at a3
      refine ⟨w3, ?_, H3.cr, ((FC1.tr F2).tr (FC.of F3 (by decide) (by decide) (by decide) (by decide))).fb⟩
      obtain ⟨w2', a2', h808⟩ := C_pass8 (d := d) (v := e.2.2) H1.cr hq hl
      rw [a2] at a2'
      cases a2'
      have x6 : hp_I w2 808 p = i32 j := by rw [h808]; exact x5
      rw [x4, a2]
      simp only [bv_n, x6, a3, me_59_66]
      rfl
end CHO
