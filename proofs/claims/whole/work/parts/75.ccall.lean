/-! the class's calls: what they ask for first -/
theorem CR.th {w : kx_H} {S : kS} {n : Nat} (H : CR w S n) (e : Int32) : CR w (S.s_th e) n := by
  obtain ⟨Q, fp, tp, V, fv, A, ft, H⟩ := H
  exact CX.cr (Q := Q) (fp := fp) (tp := tp) (V := V) (fv := fv) (A := A) (ft := ft) ⟨H.k, H.t, H.s.sc rfl rfl rfl rfl rfl rfl rfl rfl rfl, H.c.sc rfl rfl rfl rfl rfl, H.g.sc rfl rfl rfl rfl, H.q, H.o, H.rd, H.mo, H.sn, H.v, H.a⟩
theorem CR.mono {w : kx_H} {S : kS} {n m : Nat} (H : CR w S n) (h : n ≤ m) : CR w S m := by
  obtain ⟨Q, fp, tp, V, fv, A, ft, H⟩ := H
  obtain ⟨q1, q2, q3, q4, q5, q6, q7, q8, q9, q10, q11, q12⟩ := H.q
  exact CX.cr (Q := Q) (fp := fp) (tp := tp) (V := V) (fv := fv) (A := A) (ft := ft) ⟨H.k, H.t, H.s, H.c, H.g, ⟨q1, q2, q3, q4, q5, q6, q7, q8, q9, q10, q11, by omega⟩, H.o, H.rd, H.mo, H.sn, H.v, H.a⟩
theorem CR.bump {w : kx_H} {S : kS} {n : Nat} (H : CR w S n) (a b : Nat) : CR (hp_bump w a b) S n := by
  obtain ⟨Q, fp, tp, V, fv, A, ft, H⟩ := H
  exact CX.cr (Q := Q) (fp := fp) (tp := tp) (V := V) (fv := fv) (A := A) (ft := ft) H
/-- what a call leaves as it is -/
def FB (w w' : kx_H) : Prop := (∀ k, 1800 ≤ k ∨ k = 1 → hp_I w' k = hp_I w k) ∧ (∀ k, 1800 ≤ k ∨ k = 1 → hp_L w' k = hp_L w k) ∧ (∀ k, 1800 ≤ k ∨ k = 1 → hp_R w' k = hp_R w k) ∧ (∀ k, 1800 ≤ k ∨ k = 1 → hp_B w' k = hp_B w k) ∧ hp_T w' = hp_T w ∧ hp_N w' = hp_N w ∧ hp_X w' = hp_X w ∧ hp_C w' ≤ hp_C w + 1 ∧ hp_U w' ≤ hp_U w + 6
theorem FC.fb {w w' : kx_H} (h : FC w w') : FB w w' := by
  obtain ⟨a1, a2, a3, a4, a5, a6, a7, a8, a9⟩ := h
  exact ⟨a1, a2, a3, a4, a5, a6, a7, by omega, by omega⟩
theorem FC.bm {w w' : kx_H} (h : FC w w') : FB w (hp_bump w' 1 6) := by
  obtain ⟨a1, a2, a3, a4, a5, a6, a7, a8, a9⟩ := h
  refine ⟨a1, a2, a3, a4, a5, a6, a7, ?_, ?_⟩
  · rw [hC_b]; omega
  · rw [hU_b]; omega
def rmOK (w : kx_H) : Prop := hp_C w + 1 ≤ kx_cc ∧ hp_U w + 6 ≤ kx_cs
theorem FC.rm {w w' : kx_H} (h : FC w w') (r : rmOK w) : rmOK w' := by
  obtain ⟨a1, a2, a3, a4, a5, a6, a7, a8, a9⟩ := h
  exact ⟨by rw [a8]; exact r.1, by rw [a9]; exact r.2⟩
def e3 (t : Int32) : Nat := if t = 1 then 1 else if t = 2 then 0 else 2
section CCL
variable {w w' : kx_H} {S S' : kS} {t g n d c : Nat} {x : Int32} {v val : Int64} {Q : List kQ} {fp tp fv ft : List Nat} {V : List (Nat × Int64 × Nat)} {A : List (Nat × kMe)} {l : kLoc}
theorem K_cur (H : CR w S n) (r : rmOK w) (hd : 4 ≤ d) : kx_ev wx_M (d + 1) 24 [kx_r 0 (some 1)] w = (match S.cur with | none => some (.inr 0, hp_bump w 1 6) | some t => some (.inl (some (.inr (.inr (6, some (524 + 2 * t))))), w)) := by
  have h := H.s.ru
  obtain ⟨ψ, hψ⟩ := kx_fu
  rw [mE_24 hψ]
  unfold mb_24_0
  cases hc : S.cur with
  | none =>
    rw [hc] at h
    have h' : hp_R w 6 1 = none := h
    simp only [ob_s, h', if_true]
    exact thd_ok hd r.1 r.2
  | some t =>
    rw [hc] at h
    have h' : hp_R w 6 1 = some (524 + 2 * t) := h
    simp only [ob_s, h', reduceCtorEq, if_false]
theorem K_current (H : CR w S n) (ht : ∀ t, S.cur = some t → t < 256) : kx_ev wx_M (d + 1) 19 [kx_r 0 (some 1)] w = some (.inl (some (.inl (fidx S.cur))), w) := by
  have h := H.s.ru
  obtain ⟨ψ, hψ⟩ := kx_fu
  rw [mE_19 hψ]
  unfold mb_19_0
  cases hc : S.cur with
  | none =>
    rw [hc] at h
    have h' : hp_R w 6 1 = none := h
    simp only [ob_s, h', if_true, me_19_18, mb_19_18]
    rfl
  | some t =>
    rw [hc] at h
    have h' : hp_R w 6 1 = some (524 + 2 * t) := h
    simp only [ob_s, h', reduceCtorEq, if_false, me_19_18, mb_19_18, (H.k.t t (ht t hc)).2.1]
    rfl
def chR (S : kS) (x : Int32) : Option Nat := if isCh S x = true then some (1035 + 3 * x.toNatClampNeg) else none
theorem K_chAt (H : CR w S n) : kx_ev wx_M (d + 1) 14 [kx_r 0 (some 1), kx_i x] w = some (.inl (some (.inr (.inr (2, chR S x)))), w) := by
  unfold chR
  obtain ⟨ψ, hψ⟩ := kx_fu
  rw [mE_14 hψ]
  unfold mb_14_0
  simp only [me_14_23, mb_14_23]
  by_cases h1 : x < 0
  · rw [if_pos h1, if_neg (fun h => by
      obtain ⟨k, k1, rfl, -⟩ := isCh_t h
      rw [i32_neg (by omega)] at h1
      exact h1)]
  · rw [if_neg h1]
    by_cases h2 : (512 : Int32) ≤ x
    · rw [if_pos h2, if_neg (fun h => by
        obtain ⟨k, k1, rfl, -⟩ := isCh_t h
        rw [show (512 : Int32) = i32 512 from rfl, i32_le (by omega) (by omega)] at h2
        omega)]
    · rw [if_neg h2]
      obtain ⟨h3, h4⟩ := i32_ltl (k := 512) (by omega) h1 h2
      obtain ⟨k, hk⟩ : ∃ k, x.toNatClampNeg = k := ⟨_, rfl⟩
      rw [hk] at h3 h4 ⊢
      subst h4
      have hkk : (512 ≤ k) = False := by simp; omega
      have th := H.c.th k h3
      simp only [ob_s, H.k.d.2.2.2.1, H.k.n.2.1, i32_nat (n := k) (by omega), i32_neg (n := k) (by omega), hkk, or_self, if_false, (H.k.c k h3).1, th, kx_b_0]
      by_cases hb : hp_B S.m 8745 k = true
      · have hi : isCh S (i32 k) = true := by
          unfold isCh
          rw [decide_eq_true_eq, i32_nat (by omega), i32_ge (by omega)]
          refine ⟨trivial, ?_, hb⟩
          rw [show (512 : Int32) = i32 512 from rfl, i32_lt (by omega) (by omega)]
          exact h3
        rw [if_neg (by simp [hb]), if_pos hi]
      · have hb' : hp_B S.m 8745 k = false := by simpa using hb
        rw [if_pos hb', if_neg (fun h => by
          obtain ⟨j, j1, j2, j3⟩ := isCh_t h
          have := i32_inj (by omega) (by omega) j2
          rw [← this] at j3
          exact hb j3)]
def chM (S : kS) (x : Int32) : Option Nat := if x = -1 then some 518 else chR S x
theorem K_mbCh (H : CR w S n) (r : rmOK w) (hd : 4 ≤ d) : kx_ev wx_M (d + 2) 49 [kx_r 0 (some 1), kx_i x] w = (if x ≠ -1 ∧ isCh S x = false then some (.inr 1, hp_bump w 1 6) else some (.inl (some (.inr (.inr (2, some (chc x))))), w)) := by
  have a := K_chAt (d := d) (x := x) H
  have k18 := H.k.d.2.2.2.2.1
  obtain ⟨ψ, hψ⟩ := kx_fu
  rw [mE_49 hψ]
  unfold mb_49_0
  by_cases h1 : x = -1
  · rw [if_pos h1, if_neg (fun h => h.1 h1)]
    simp only [ob_s, k18, me_49_17, mb_49_17, reduceCtorEq, if_false, h1]
    rfl
  · rw [if_neg h1]
    simp only [ob_s, a, br_n, me_49_17, mb_49_17]
    unfold chR
    cases hi : isCh S x with
    | false =>
      rw [if_pos (show x ≠ -1 ∧ (false = false) from ⟨h1, rfl⟩)]
      simp only [reduceCtorEq, if_false, if_true]
      exact thd_ok (Nat.le_succ_of_le hd) r.1 r.2
    | true =>
      obtain ⟨k, k1, rfl, -⟩ := isCh_t hi
      rw [if_neg (show ¬ (i32 k ≠ -1 ∧ true = false) by simp)]
      simp only [if_true, reduceCtorEq, if_false]
      unfold chc
      rw [if_neg (show ¬ i32 k < 0 by rw [i32_neg (by omega)]; simp)]
def gaR (S : kS) (x : Int32) : Option Nat := if isGa S x = true then some (2571 + 3 * x.toNatClampNeg) else none
theorem K_gaAt (H : CR w S n) (hg : S.gates ≤ 256) : kx_ev wx_M (d + 1) 64 [kx_r 0 (some 1), kx_i x] w = some (.inl (some (.inr (.inr (3, gaR S x)))), w) := by
  unfold gaR
  have gc := H.s.gc
  obtain ⟨ψ, hψ⟩ := kx_fu
  rw [mE_64 hψ]
  unfold mb_64_0
  simp only [me_64_12, mb_64_12, me_64_22, mb_64_22]
  by_cases h1 : x < 0
  · rw [if_pos h1, if_neg (fun h => by
      obtain ⟨k, k1, rfl⟩ := isGa_t hg h
      rw [i32_neg (by omega)] at h1
      exact h1)]
  · rw [if_neg h1]
    simp only [ob_s, gc]
    by_cases h2 : x < i32 S.gates
    · have hi : isGa S x = true := by
        unfold isGa
        rw [decide_eq_true_eq]
        exact ⟨by rw [← nlt_le]; exact h1, h2⟩
      obtain ⟨k, k1, rfl⟩ := isGa_t hg hi
      have hkk : (256 ≤ k) = False := by simp; omega
      rw [if_pos h2, if_pos hi]
      simp only [H.k.d.2.2.2.2.2.2, ob_s, H.k.n.2.2.2, i32_nat (n := k) (by omega), i32_neg (n := k) (by omega), hkk, or_self, if_false, (H.k.g k (by omega)).1]
    · rw [if_neg h2, if_neg (fun h => h2 (by
        unfold isGa at h
        rw [decide_eq_true_eq] at h
        exact h.2))]
theorem K_mbGa (H : CR w S n) (hg : S.gates ≤ 256) (r : rmOK w) (hd : 4 ≤ d) : kx_ev wx_M (d + 2) 66 [kx_r 0 (some 1), kx_i x] w = (if isGa S x = false then some (.inr 1, hp_bump w 1 6) else some (.inl (some (.inr (.inr (3, some (2571 + 3 * x.toNatClampNeg))))), w)) := by
  have a := K_gaAt (d := d) (x := x) H hg
  obtain ⟨ψ, hψ⟩ := kx_fu
  rw [mE_66 hψ]
  unfold mb_66_0
  simp only [ob_s, a, br_n]
  unfold gaR
  cases hi : isGa S x with
  | false =>
    simp only [eq_self, reduceCtorEq, if_true, if_false]
    exact thd_ok (Nat.le_succ_of_le hd) r.1 r.2
  | true => simp only [eq_self, reduceCtorEq, if_true, if_false]
theorem K_mbTa (H : CR w S n) (r : rmOK w) (hd : 4 ≤ d) : kx_ev wx_M (d + 1) 83 [kx_r 0 (some 1), kx_i x] w = (if isTa S x = false then some (.inr 3, hp_bump w 1 6) else some (.inl (some (.inr (.inr (6, some (524 + 2 * x.toNatClampNeg))))), w)) := by
  have th : kx_thd kx_cc kx_cs d 3 [] [] w = some (.inr 3, hp_bump w 1 6) := thd_ok hd r.1 r.2
  obtain ⟨ψ, hψ⟩ := kx_fu
  rw [mE_83 hψ]
  unfold mb_83_0
  simp only [me_83_23, mb_83_23, th]
  by_cases h1 : x < 0
  · rw [if_pos h1, if_pos]
    cases hi : isTa S x with
    | false => rfl
    | true =>
      obtain ⟨k, k1, rfl, -⟩ := isTa_t hi
      rw [i32_neg (by omega)] at h1
      exact h1.elim
  · rw [if_neg h1]
    by_cases h2 : (256 : Int32) ≤ x
    · rw [if_pos h2, if_pos]
      cases hi : isTa S x with
      | false => rfl
      | true =>
        obtain ⟨k, k1, rfl, -⟩ := isTa_t hi
        rw [show (256 : Int32) = i32 256 from rfl, i32_le (by omega) (by omega)] at h2
        omega
    · rw [if_neg h2]
      obtain ⟨h3, h4⟩ := i32_ltl (k := 256) (by omega) h1 h2
      obtain ⟨k, hk⟩ : ∃ k, x.toNatClampNeg = k := ⟨_, rfl⟩
      rw [hk] at h3 h4 ⊢
      subst h4
      have hkk : (256 ≤ k) = False := by simp; omega
      have al := H.t.al k h3
      simp only [ob_s, H.k.d.1, H.k.n.1, i32_nat (n := k) (by omega), i32_neg (n := k) (by omega), hkk, or_self, if_false, (H.k.t k h3).1, al, kx_b_0]
      by_cases hb : hp_B S.m 8729 k = true
      · have hi : isTa S (i32 k) = true := by
          unfold isTa
          rw [decide_eq_true_eq, i32_nat (by omega), i32_ge (by omega)]
          refine ⟨trivial, ?_, hb⟩
          rw [show (256 : Int32) = i32 256 from rfl, i32_lt (by omega) (by omega)]
          exact h3
        rw [if_neg (by simp [hb]), if_neg (by simp [hi])]
      · have hb' : hp_B S.m 8729 k = false := by simpa using hb
        rw [if_pos hb', if_pos]
        cases hi : isTa S (i32 k) with
        | false => rfl
        | true =>
          obtain ⟨j, j1, j2, j3⟩ := isTa_t hi
          have := i32_inj (by omega) (by omega) j2
          rw [← this] at j3
          exact absurd j3 hb
/-- the value that a task sends -/
theorem C_val (H : CX w S n Q fp tp V fv A ft) (ht : t < 256) (hn : ∀ q ∈ Q, q.2.2.1 ≠ t) : CX (hp_sL w 806 (523 + 2 * t) v) S n Q fp tp V fv A ft ∧ FR [] [806] [] [] w (hp_sL w 806 (523 + 2 * t) v) := by
  have F : FR [] [806] [] [] w (hp_sL w 806 (523 + 2 * t) v) := FR.sL (by decide) FR.rf
  refine ⟨⟨H.k.fr F (by decide) (by decide) (by decide) (by decide), H.t.fr F (by decide) (by decide) (by decide) (by decide), H.s.fr F (by decide) (by decide) (by decide) (by decide), H.c.fr F (by decide) (by decide) (by decide) (by decide), H.g.fr F (by decide) (by decide) (by decide) (by decide), ?_, ⟨H.o.len, fun i p e h1 h2 => ?_⟩, H.rd, H.mo, H.sn, H.v.fr F (by decide) (by decide) (by decide) (by decide), H.a.imp id (fun h => h.fr F (by decide) (by decide) (by decide) (by decide))⟩, F⟩
  · obtain ⟨q1, q2, q3, q4, q5, q6⟩ := H.q
    refine ⟨q1, q2, q3, fun q hq => ?_, q5, q6⟩
    obtain ⟨o1, o2, o3⟩ := q4 q hq
    refine ⟨o1, o2, fun hg => ?_⟩
    have hne : q.2.1 ≠ 523 + 2 * t := fun e => hn q hq (H.q.stP hq ht e).1
    simp [hI_I, hI_L, hI_R, hI_B, hI_b, hL_I, hL_L, hL_R, hL_B, hL_b, hR_I, hR_L, hR_R, hR_B, hR_b, hB_I, hB_L, hB_R, hB_B, hB_b, hN_I, hN_L, hN_R, hN_B, hN_b, hT_I, hT_L, hT_R, hT_B, hT_b, hX_I, hX_L, hX_R, hX_B, hX_b, hC_I, hC_L, hC_R, hC_B, hC_b, hU_I, hU_L, hU_R, hU_B, hU_b, hne]
    exact o3 hg
  · obtain ⟨o1, o2, o3, o4, o5⟩ := H.o.e i p e h1 h2
    have hpl := H.q.isp p (List.mem_append_right _ (List.mem_of_getElem? h1))
    have hne : p ≠ 523 + 2 * t := fun e => by unfold isPL at hpl; omega
    refine ⟨o1, o2, o3, ?_, o5⟩
    simp [hI_I, hI_L, hI_R, hI_B, hI_b, hL_I, hL_L, hL_R, hL_B, hL_b, hR_I, hR_L, hR_R, hR_B, hR_b, hB_I, hB_L, hB_R, hB_B, hB_b, hN_I, hN_L, hN_R, hN_B, hN_b, hT_I, hT_L, hT_R, hT_B, hT_b, hX_I, hX_L, hX_R, hX_B, hX_b, hC_I, hC_L, hC_R, hC_B, hC_b, hU_I, hU_L, hU_R, hU_B, hU_b, hne]
    exact o4
theorem sAdd_ch (S : kS) (t c : Nat) (b : Bool) (st x : Int32) (v : Int64) : sAdd S t (some (.inl (some c, b))) st x v = (kS.s_mo ((kS.s_m S (hp_sI (hp_sI S.m 8731 t st) 8733 t x))) (S.mo ++ [(t, c, b, v, -1)])) := by
  unfold sAdd
  have e1 : qRd ((some (.inl (some c, b)) : kLoc), 523 + 2 * t, t, v, (-1 : Int32)) = none := rfl
  have e2 : qMo ((some (.inl (some c, b)) : kLoc), 523 + 2 * t, t, v, (-1 : Int32)) = some (t, c, b, v, -1) := rfl
  have e3 : qSn ((some (.inl (some c, b)) : kLoc), 523 + 2 * t, t, v, (-1 : Int32)) = none := rfl
  rw [e1, e2, e3]
  simp only [Option.toList_some, Option.toList_none, List.append_nil]
theorem sAdd_nw (S : kS) (t : Nat) (b : Bool) (st x : Int32) (v : Int64) : sAdd S t (some (.inl (none, b))) st x v = (kS.s_m S (hp_sI (hp_sI S.m 8731 t st) 8733 t x)) := by
  unfold sAdd
  have e1 : qRd ((some (.inl (none, b)) : kLoc), 523 + 2 * t, t, v, (-1 : Int32)) = none := rfl
  have e2 : qMo ((some (.inl (none, b)) : kLoc), 523 + 2 * t, t, v, (-1 : Int32)) = none := rfl
  have e3 : qSn ((some (.inl (none, b)) : kLoc), 523 + 2 * t, t, v, (-1 : Int32)) = none := rfl
  rw [e1, e2, e3]
  simp only [Option.toList_none, List.append_nil]
theorem sAdd_ga (S : kS) (t g : Nat) (b : Bool) (st x : Int32) (v : Int64) : sAdd S t (some (.inr (g, b))) st x v = (kS.s_sn ((kS.s_m S (hp_sI (hp_sI S.m 8731 t st) 8733 t x))) (S.sn ++ [(t, g, b)])) := by
  unfold sAdd
  have e1 : qRd ((some (.inr (g, b)) : kLoc), 523 + 2 * t, t, v, (-1 : Int32)) = none := rfl
  have e2 : qMo ((some (.inr (g, b)) : kLoc), 523 + 2 * t, t, v, (-1 : Int32)) = none := rfl
  have e3 : qSn ((some (.inr (g, b)) : kLoc), 523 + 2 * t, t, v, (-1 : Int32)) = some (t, g, b) := rfl
  rw [e1, e2, e3]
  simp only [Option.toList_some, Option.toList_none, List.append_nil]
end CCL
