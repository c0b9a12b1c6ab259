/-! the class's calls: what is asked -/
section CQY
variable {w w' : kx_H} {S S' : kS} {t g n d c l : Nat} {x y how : Int32} {v val : Int64} {f b : Bool} {Q : List kQ} {fp tp fv ft : List Nat} {V : List (Nat × Int64 × Nat)} {A : List (Nat × kMe)}
theorem rl_rd (H : CX w S n Q fp tp V fv A ft) : Qrl Q 3 = S.rd.map (fun t => 523 + 2 * t) := by
  have h1 : Qrl Q 3 = (Q.filter (fun q => decide (q.1 = none))).map (·.2.1) := Qrl_l (l := none) H.lk trivial
  have hp : ∀ q ∈ Q, q.1 = none → q.2.1 = 523 + 2 * q.2.2.1 := by
    intro q hq h
    rcases H.q.pl q hq with h2 | ⟨-, y, h2⟩
    · exact h2.1
    · rw [h] at h2; cases h2
  rw [h1, H.rd]
  clear h1 H
  induction Q with
  | nil => rfl
  | cons q Q ih =>
    have hq := hp q List.mem_cons_self
    obtain ⟨ql, qp, qt, qv, qk⟩ := q
    rcases ql with _ | a
    · rw [List.filterMap_cons_some (f := qRd) (a := (none, qp, qt, qv, qk)) (b := qt) rfl, List.filter_cons_of_pos (by simp), List.map_cons, List.map_cons, ih (fun q hm => hp q (List.mem_cons_of_mem _ hm)), hq rfl]
    · rw [fm_no rfl, List.filter_cons_of_neg (by simp)]
      exact ih (fun q hm => hp q (List.mem_cons_of_mem _ hm))
theorem K_cb_l {C : kx_C} {rl : Nat → List Nat} {r : Nat} (K : kRow w rl) : ∀ (m : Nat) (xs : List Nat) (p : Nat) (ys : List Nat) (k F : Nat), xs.length = m → rl r = xs ++ p :: ys → m + 1 ≤ F →
    kx_ex (wm_84 d C) F 7 [(2, kx_i (i32 k)), (3, kx_r 4 (hp_R w 812 p))] [] w = some (.inl (some (.inl (i32 (k + m)))), w) := by
  intro m
  induction m with
  | zero =>
    intro xs p ys k F hm hl hF
    obtain ⟨F, rfl⟩ : ∃ f', F = f' + 1 := ⟨F - 1, by omega⟩
    obtain rfl : xs = [] := List.eq_nil_of_length_eq_zero hm
    have := (K.2.1 r [] p ys hl).2.1
    rw [this, me_84_7]
    unfold mb_84_7
    rfl
  | succ m ih =>
    intro xs p ys k F hm hl hF
    obtain ⟨F, rfl⟩ : ∃ f', F = f' + 1 := ⟨F - 1, by omega⟩
    rcases List.eq_nil_or_concat xs with rfl | ⟨zs, z, rfl⟩
    · simp at hm
    · have h1 := (K.2.1 r _ p ys hl).2.1
      rw [List.concat_eq_append, List.getLast?_concat] at h1
      have h2 := ih zs z (p :: ys) (k + 1) F (by simpa using hm) (by rw [hl]; simp) (by omega)
      rw [h1, me_84_7]
      unfold mb_84_7
      simp only [reduceCtorEq, if_false, ob_s, i32_add1, h2]
      rw [show k + 1 + m = k + (m + 1) by omega]
theorem K_cb (H : CR w S n) (hrn : S.rd.Nodup) (hrl : S.rd.length ≤ 256) (ht : t ∈ S.rd) : kx_ev wx_M (d + 1) 84 [kx_r 0 (some 1), kx_r 4 (some (523 + 2 * t))] w = some (.inl (some (.inl (fidx (S.rd.findIdx? (fun x => x == t))))), w) := by
  obtain ⟨Q, fp, tp, V, fv, A, ft, H⟩ := H
  have hl := rl_rd H
  obtain ⟨as, bs, e⟩ := List.append_of_mem ht
  have hta : t ∉ as := fun h => by
    rw [e, List.nodup_append] at hrn
    exact hrn.2.2 t h t List.mem_cons_self rfl
  have hix : S.rd.findIdx? (fun x => x == t) = some as.length := by
    rw [e, List.findIdx?_append, List.findIdx?_eq_none_iff.mpr (fun x hx => by simp; exact fun h => hta (h ▸ hx))]
    simp [List.findIdx?_cons]
  rw [hix]
  rw [e, List.map_append, List.map_cons] at hl
  have hal : as.length ≤ 256 := by rw [e] at hrl; simp at hrl; omega
  obtain ⟨ψ, hψ⟩ := kx_fl 1000 (by omega)
  have := K_cb_l (d := d) (C := kx_ev wx_M d) H.q.row as.length (as.map (fun t => 523 + 2 * t)) (523 + 2 * t) (bs.map (fun t => 523 + 2 * t)) 0 (ψ + 1000) (by simp) hl (by omega)
  rw [mE_84 hψ]
  unfold mb_84_0
  simp only [ob_s]
  rw [Nat.zero_add] at this
  exact this
theorem i32_ltb {a b : Nat} (ha : a < 2147483648) (hb : b < 2147483648) : (i32 a < i32 b) = (a < b) := propext (Int32.ofNat_lt_iff_lt (by omega) (by omega))
theorem K_task (H : CR w S n) (I : SI S n) (J : SJ S n) (r : rmOK w) : ∃ w', kx_ev wx_M (d + 8) 82 [kx_r 0 (some 1), kx_i x, kx_i y] w = some (if (pTask S x y).1.th = 0 then .inl (some (.inl (pTask S x y).2)) else .inr 3, w') ∧ CR w' (pTask S x y).1 n ∧ FB w w' := by
  have mb := K_mbTa (d := d + 6) (x := x) H r (by omega)
  have th0 : ∀ e l, kx_thd kx_cc kx_cs (d + 7) e l [] w = some (.inr e, hp_bump w 1 6) := fun e l => thd_ok (by omega) r.1 r.2
  obtain ⟨ψ, hψ⟩ := kx_fu
  rw [mE_82 hψ]
  unfold mb_82_0
  unfold pTask
  cases hi : isTa S x with
  | false =>
    rw [hi, if_pos rfl] at mb
    rw [if_pos (show false = false ∨ y < 0 ∨ 5 < y from Or.inl rfl)]
    refine ⟨_, ?_, (H.th 1).bump 1 6, FC.rf.bm⟩
    simp only [ob_s, mb, br_e]
    rfl
  | true =>
    rw [hi, if_neg (by decide)] at mb
    obtain ⟨q, hq, rfl, hal⟩ := isTa_t hi
    rw [i32_nat (n := q) (by omega)] at mb ⊢
    have st := H.t.st q hq
    have at' := H.t.at q hq
    have ca := H.t.ca q hq
    have fl := H.t.fl q hq
    have br := H.t.br q hq
    have k2 := (H.k.t q hq).2.2
    simp only [ob_s, mb, br_n, st, at', ca, fl, br, k2, kx_b_0, me_82_71, mb_82_71, me_82_84, mb_82_84, me_82_105, mb_82_105, th0]
    have two : ∀ bb : Bool, (if bb = false then some (.inl (some (.inl (0 : Int32))), w) else some (.inl (some (.inl (1 : Int32))), w) : kx_O) = some (.inl (some (.inl (kx_b bb))), w) := fun bb => by cases bb <;> rfl
    simp only [two]
    have H0 : CR w (sTh S 0) n := H.th 0
    by_cases y0 : y = 0
    · subst y0
      rw [if_neg (show ¬ (true = false ∨ (0 : Int32) < 0 ∨ (5 : Int32) < 0) by decide)]
      exact ⟨w, rfl, H0, FC.rf.fb⟩
    · by_cases y1 : y = 1
      · subst y1
        rw [if_neg (show ¬ (true = false ∨ (1 : Int32) < 0 ∨ (5 : Int32) < 1) by decide)]
        refine ⟨w, ?_, H0, FC.rf.fb⟩
        rcases J.wh q hq hal with h | h
        · have h' : hp_I S.m 8731 q = 2 ∨ hp_I S.m 8731 q = 3 ∨ hp_I S.m 8731 q = 6 := h
          simp only [if_pos h']
          rfl
        · simp only [h, ite_self]
          rfl
      · by_cases y2 : y = 2
        · subst y2
          rw [if_neg (show ¬ (true = false ∨ (2 : Int32) < 0 ∨ (5 : Int32) < 2) by decide)]
          exact ⟨w, rfl, H0, FC.rf.fb⟩
        · by_cases y3 : y = 3
          · subst y3
            rw [if_neg (show ¬ (true = false ∨ (3 : Int32) < 0 ∨ (5 : Int32) < 3) by decide)]
            exact ⟨w, rfl, H0, FC.rf.fb⟩
          · by_cases y4 : y = 4
            · subst y4
              rw [if_neg (show ¬ (true = false ∨ (4 : Int32) < 0 ∨ (5 : Int32) < 4) by decide)]
              exact ⟨w, rfl, H0, FC.rf.fb⟩
            · by_cases y5 : y = 5
              · subst y5
                rw [if_neg (show ¬ (true = false ∨ (5 : Int32) < 0 ∨ (5 : Int32) < 5) by decide)]
                have hend : (if hp_I S.m 8731 q = 1 then kx_bi (kx_ev wx_M (d + 7) 84 [kx_r 0 (some 1), kx_r 4 (some (523 + 2 * q))] w) fun y12 w11 => some (.inl (some (.inl y12)), w11) else some (.inl (some (.inl (-1 : Int32))), w) : kx_O) = some (.inl (some (.inl (fidx (S.rd.findIdx? (fun x => x == q))))), w) := by
                  by_cases h1 : hp_I S.m 8731 q = 1
                  · have hm := J.rr q hq hal h1
                    rw [if_pos h1, K_cb (d := d + 6) H I.b.rn (pgh 256 S.rd I.b.rn (fun x hx => (I.b.rs x hx).1)) hm, bi_n]
                  · rw [if_neg h1]
                    have : q ∉ S.rd := fun hm => h1 (I.b.rs q hm).2
                    rw [List.findIdx?_eq_none_iff.mpr (fun x hx => by simp; exact fun h => this (h ▸ hx))]
                    rfl
                refine ⟨w, ?_, H0, FC.rf.fb⟩
                rw [if_pos (show ((sTh S 0, _) : kS × Int32).1.th = 0 from rfl)]
                exact hend
              · have hb : y < 0 ∨ 5 < y := by
                  by_cases h1 : y < 0
                  · exact Or.inl h1
                  · obtain ⟨e1, e2⟩ := i32_of h1
                    right
                    generalize hk : y.toNatClampNeg = k at e1 e2
                    subst e1
                    rw [show (5 : Int32) = i32 5 from rfl, i32_ltb (by omega) e2]
                    have z0 : k ≠ 0 := fun h => y0 (by rw [h]; rfl)
                    have z1 : k ≠ 1 := fun h => y1 (by rw [h]; rfl)
                    have z2 : k ≠ 2 := fun h => y2 (by rw [h]; rfl)
                    have z3 : k ≠ 3 := fun h => y3 (by rw [h]; rfl)
                    have z4 : k ≠ 4 := fun h => y4 (by rw [h]; rfl)
                    have z5 : k ≠ 5 := fun h => y5 (by rw [h]; rfl)
                    omega
                rw [if_pos (show true = false ∨ y < 0 ∨ 5 < y from Or.inr hb)]
                simp only [if_neg y0, if_neg y1, if_neg y2, if_neg y3, if_neg y4, if_neg y5]
                exact ⟨_, rfl, (H.th 1).bump 1 6, FC.rf.bm⟩
theorem K_out (H : CR w S n) (r : rmOK w) : ∃ w', kx_ev wx_M (d + 8) 85 [kx_r 0 (some 1), kx_i x] w = some (if (pOut S x).1.th = 0 then .inl (some (.inr (.inl (pOut S x).2))) else .inr 3, w') ∧ CR w' (pOut S x).1 n ∧ FB w w' := by
  have mb := K_mbTa (d := d + 6) (x := x) H r (by omega)
  obtain ⟨ψ, hψ⟩ := kx_fu
  rw [mE_85 hψ]
  unfold mb_85_0
  unfold pOut
  cases hi : isTa S x with
  | false =>
    rw [hi, if_pos rfl] at mb
    rw [if_neg (show ¬ false = true by decide)]
    refine ⟨_, ?_, (H.th 1).bump 1 6, FC.rf.bm⟩
    simp only [ob_s, mb, br_e]
    rfl
  | true =>
    rw [hi, if_neg (by decide)] at mb
    obtain ⟨q, hq, rfl, hal⟩ := isTa_t hi
    rw [i32_nat (n := q) (by omega)] at mb ⊢
    have re := H.t.re q hq
    rw [if_pos rfl]
    refine ⟨w, ?_, H.th 0, FC.rf.fb⟩
    simp only [ob_s, mb, br_n, re]
    rfl
theorem out_of (m : Nat) (hm : m < 100) (h : ∀ k, k ≤ m → y ≠ i32 k) : y < 0 ∨ i32 m < y := by
  by_cases h1 : y < 0
  · exact Or.inl h1
  · obtain ⟨e1, e2⟩ := i32_of h1
    right
    generalize hk : y.toNatClampNeg = k at e1 e2
    subst e1
    rw [i32_ltb (by omega) e2]
    by_cases hle : k ≤ m
    · exact absurd rfl (h k hle)
    · omega
theorem K_look (H : CR w S n) (r : rmOK w) : ∃ w', kx_ev wx_M (d + 8) 86 [kx_r 0 (some 1), kx_i x, kx_i y] w = some (if (pLook S x y).1.th = 0 then .inl (some (.inl (pLook S x y).2)) else .inr 3, w') ∧ CR w' (pLook S x y).1 n ∧ FB w w' := by
  have ca := K_chAt (d := d + 6) (x := x) H
  have th0 : ∀ e l, kx_thd kx_cc kx_cs (d + 7) e l [] w = some (.inr e, hp_bump w 1 6) := fun e l => thd_ok (by omega) r.1 r.2
  unfold chR at ca
  obtain ⟨ψ, hψ⟩ := kx_fu
  rw [mE_86 hψ]
  unfold mb_86_0
  unfold pLook
  cases hi : isCh S x with
  | false =>
    rw [hi, if_neg (by decide)] at ca
    rw [if_pos (show false = false ∨ y < 0 ∨ 4 < y from Or.inl rfl)]
    refine ⟨_, ?_, (H.th 1).bump 1 6, FC.rf.bm⟩
    simp only [ob_s, ca, br_n, if_true, th0]
    rfl
  | true =>
    rw [hi, if_pos rfl] at ca
    obtain ⟨q, hq, rfl, hb⟩ := isCh_t hi
    rw [i32_nat (n := q) (by omega)] at ca ⊢
    have he := H.c.he q hq
    have ro : hp_I w 410 (1035 + 3 * q) = sRoom S q := H.c.ro q hq
    have cl : hp_B w 408 (1035 + 3 * q) = sClosed S q := H.c.cl q hq
    have k402 := (H.k.c q hq).2.2.1
    have k404 := (H.k.c q hq).2.2.2
    have l1 : hp_I w 1004 (1036 + 3 * q) = i32 (S.mo.countP (oAt q true)) := len_mo (r := true) H hq
    have l2 : hp_I w 1004 (1037 + 3 * q) = i32 (S.mo.countP (oAt q false)) := len_mo (r := false) H hq
    have two : ∀ bb : Bool, (if bb = false then some (.inl (some (.inl (0 : Int32))), w) else some (.inl (some (.inl (1 : Int32))), w) : kx_O) = some (.inl (some (.inl (kx_b bb))), w) := fun bb => by cases bb <;> rfl
    simp only [ob_s, ca, br_n, reduceCtorEq, if_false, he, ro, cl, kx_b_0, k402, k404, l1, l2, me_86_94, mb_86_94, th0, two]
    have H0 : CR w (sTh S 0) n := H.th 0
    by_cases y0 : y = 0
    · subst y0
      rw [if_neg (show ¬ (False ∨ (0 : Int32) < 0 ∨ (4 : Int32) < 0) by decide)]
      exact ⟨w, rfl, H0, FC.rf.fb⟩
    · by_cases y1 : y = 1
      · subst y1
        rw [if_neg (show ¬ (False ∨ (1 : Int32) < 0 ∨ (4 : Int32) < 1) by decide)]
        exact ⟨w, rfl, H0, FC.rf.fb⟩
      · by_cases y2 : y = 2
        · subst y2
          rw [if_neg (show ¬ (False ∨ (2 : Int32) < 0 ∨ (4 : Int32) < 2) by decide)]
          exact ⟨w, rfl, H0, FC.rf.fb⟩
        · by_cases y3 : y = 3
          · subst y3
            rw [if_neg (show ¬ (False ∨ (3 : Int32) < 0 ∨ (4 : Int32) < 3) by decide)]
            exact ⟨w, rfl, H0, FC.rf.fb⟩
          · by_cases y4 : y = 4
            · subst y4
              rw [if_neg (show ¬ (False ∨ (4 : Int32) < 0 ∨ (4 : Int32) < 4) by decide)]
              exact ⟨w, rfl, H0, FC.rf.fb⟩
            · have hb : y < 0 ∨ 4 < y := out_of 4 (by omega) (fun k hk => by
                rcases (by omega : k = 0 ∨ k = 1 ∨ k = 2 ∨ k = 3 ∨ k = 4) with rfl | rfl | rfl | rfl | rfl
                · exact y0
                · exact y1
                · exact y2
                · exact y3
                · exact y4)
              rw [if_pos (show False ∨ y < 0 ∨ 4 < y from Or.inr hb)]
              simp only [if_neg y0, if_neg y1, if_neg y2, if_neg y3, if_neg y4]
              exact ⟨_, rfl, (H.th 1).bump 1 6, FC.rf.bm⟩
theorem wait_split : sWait S g = S.sn.countP (gAt g 0) + S.sn.countP (gAt g 1) := by
  unfold sWait
  generalize S.sn = L
  induction L with
  | nil => rfl
  | cons e L ih =>
    rw [List.countP_cons, List.countP_cons, List.countP_cons, ih]
    obtain ⟨e1, e2, e3⟩ := e
    have g0 : gAt g 0 (e1, e2, e3) = (e2 == g && !e3) := by unfold gAt; cases e3 <;> simp
    have g1 : gAt g 1 (e1, e2, e3) = (e2 == g && e3) := by unfold gAt; cases e3 <;> simp
    rw [g0, g1]
    by_cases hg : e2 = g
    · cases e3 <;> simp [hg] <;> omega
    · simp [hg]
theorem K_watch (H : CR w S n) (I : SI S n) (r : rmOK w) : ∃ w', kx_ev wx_M (d + 8) 87 [kx_r 0 (some 1), kx_i x, kx_i y] w = some (if (pWatch S x y).1.th = 0 then .inl (some (.inl (pWatch S x y).2)) else .inr 3, w') ∧ CR w' (pWatch S x y).1 n ∧ FB w w' := by
  have ca := K_gaAt (d := d + 6) (x := x) H I.gl
  have th0 : ∀ e l, kx_thd kx_cc kx_cs (d + 7) e l [] w = some (.inr e, hp_bump w 1 6) := fun e l => thd_ok (by omega) r.1 r.2
  unfold gaR at ca
  obtain ⟨ψ, hψ⟩ := kx_fu
  rw [mE_87 hψ]
  unfold mb_87_0
  unfold pWatch
  cases hi : isGa S x with
  | false =>
    rw [hi, if_neg (by decide)] at ca
    rw [if_pos (show false = false ∨ y < 0 ∨ 2 < y from Or.inl rfl)]
    refine ⟨_, ?_, (H.th 1).bump 1 6, FC.rf.bm⟩
    simp only [ob_s, ca, br_n, if_true, th0]
    rfl
  | true =>
    rw [hi, if_pos rfl] at ca
    obtain ⟨q, q1, rfl⟩ := isGa_t I.gl hi
    have hgl := I.gl
    have hq : q < 256 := by omega
    rw [i32_nat (n := q) (by omega)] at ca ⊢
    have ki : hp_I w 606 (2571 + 3 * q) = sKind S q := H.g.ki q hq
    have ta : hp_I w 608 (2571 + 3 * q) = sHeld S q := H.g.ta q hq
    have k602 := (H.k.g q hq).2.2.1
    have k604 := (H.k.g q hq).2.2.2
    have l1 : hp_I w 1004 (2572 + 3 * q) = i32 (S.sn.countP (gAt q 0)) := len_sn (how := 0) H hq (Or.inl rfl)
    have l2 : hp_I w 1004 (2573 + 3 * q) = i32 (S.sn.countP (gAt q 1)) := len_sn (how := 1) H hq (Or.inr rfl)
    have lw : i32 (S.sn.countP (gAt q 0)) + i32 (S.sn.countP (gAt q 1)) = i32 (sWait S q) := by rw [wait_split]; exact (Int32.ofNat_add _ _).symm
    simp only [ob_s, ca, br_n, reduceCtorEq, if_false, ki, ta, k602, k604, l1, l2, lw, th0]
    have H0 : CR w (sTh S 0) n := H.th 0
    by_cases y0 : y = 0
    · subst y0
      rw [if_neg (show ¬ (False ∨ (0 : Int32) < 0 ∨ (2 : Int32) < 0) by decide)]
      exact ⟨w, rfl, H0, FC.rf.fb⟩
    · by_cases y1 : y = 1
      · subst y1
        rw [if_neg (show ¬ (False ∨ (1 : Int32) < 0 ∨ (2 : Int32) < 1) by decide)]
        exact ⟨w, rfl, H0, FC.rf.fb⟩
      · by_cases y2 : y = 2
        · subst y2
          rw [if_neg (show ¬ (False ∨ (2 : Int32) < 0 ∨ (2 : Int32) < 2) by decide)]
          exact ⟨w, rfl, H0, FC.rf.fb⟩
        · have hb : y < 0 ∨ 2 < y := out_of 2 (by omega) (fun k hk => by
            rcases (by omega : k = 0 ∨ k = 1 ∨ k = 2) with rfl | rfl | rfl
            · exact y0
            · exact y1
            · exact y2)
          rw [if_pos (show False ∨ y < 0 ∨ 2 < y from Or.inr hb)]
          simp only [if_neg y0, if_neg y1, if_neg y2]
          exact ⟨_, rfl, (H.th 1).bump 1 6, FC.rf.bm⟩
theorem K_clock (H : CR w S n) : kx_ev wx_M (d + 1) 20 [kx_r 0 (some 1)] w = some (.inl (some (.inr (.inl S.clk))), w) := by
  have h := H.s.nw
  obtain ⟨ψ, hψ⟩ := kx_fu
  rw [mE_20 hψ]
  unfold mb_20_0
  simp only [ob_s, h]
theorem K_how (H : CR w S n) (J : SJ S n) : kx_ev wx_M (d + 1) 22 [kx_r 0 (some 1)] w = some (.inl (some (.inl S.std)), w) := by
  have h := H.s.ru
  have ov := H.s.ov
  obtain ⟨ψ, hψ⟩ := kx_fu
  rw [mE_22 hψ]
  unfold mb_22_0
  simp only [ob_s, me_22_21, mb_22_21, ov]
  rcases cur_or S with hc | ⟨t, hc⟩
  · rw [hc] at h
    have h' : hp_R w 6 1 = none := h
    rw [if_pos h']
    rcases J.s2 hc with h2 | h2
    · rw [h2]; rfl
    · rw [h2]; rfl
  · rw [hc] at h
    have h' : hp_R w 6 1 = some (524 + 2 * t) := h
    rw [h', if_neg (by simp), J.sd t hc]
theorem K_count (H : CR w S n) (J : SJ S n) : kx_ev wx_M (d + 2) 21 [kx_r 0 (some 1), kx_i x] w = some (.inl (some (.inl (pCount S x))), w) := by
  have hh := K_how (d := d) H J
  have hs := H.s
  have lr : hp_I w 1004 3 = i32 S.rd.length := by
    obtain ⟨Q, fp, tp, V, fv, A, ft, HX⟩ := id H
    rw [(HX.q.row.1 3).2.2.1, rl_rd HX, List.length_map]
  unfold pCount
  obtain ⟨ψ, hψ⟩ := kx_fu
  rw [mE_21 hψ]
  unfold mb_21_0
  simp only [ob_s, hh, bi_n, hs.tc, hs.cc, hs.ro, hs.gc, hs.ac, hs.to, H.k.d.2.1, lr]
  by_cases h0 : x = 0
  · simp only [if_pos h0]
  · simp only [if_neg h0]
    by_cases h1 : x = 1
    · simp only [if_pos h1]
    · simp only [if_neg h1]
      by_cases h2 : x = 2
      · simp only [if_pos h2]
      · simp only [if_neg h2]
        by_cases h3 : x = 3
        · simp only [if_pos h3]
        · simp only [if_neg h3]
          by_cases h4 : x = 4
          · simp only [if_pos h4]
          · simp only [if_neg h4]
            by_cases h5 : x = 5
            · simp only [if_pos h5]
            · simp only [if_neg h5]
              by_cases h6 : x = 6
              · simp only [if_pos h6]
              · simp only [if_neg h6]
                by_cases h7 : x = 7
                · simp only [if_pos h7]
                · simp only [if_neg h7]
end CQY
