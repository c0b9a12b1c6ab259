/-! the rounds, call by call -/
theorem l01_false : lg_cmp (l01 false) 0 = 0 := (lg_eq _ _).mpr rfl
theorem l01_true : lg_cmp (l01 true) 1 = 0 := (lg_eq _ _).mpr rfl
section OPS
variable {L n f : Nat} {xs : Nat → Int32} {w w' : kx_H} {S S' : kS}
theorem o_spawn (h : LI L xs n w S) (hn : n < 512) (hL : L ≤ 2560) (hi : 5 * n + 4 < L) (K : LK L xs n f) : ∃ hf, mo_0 (kJ (f + 5)) 9 (kx_ev wx_M 9) (some 0) (some 1) (some 4363) (some 4393) (i32 (5 * n)) w = some (.inl (some (.inl 1)), hf) := by
  have o := h.2.2.2.2.2.1
  have hN := h.2.2.2.1
  have hX := h.2.2.2.2.1
  have F := h.2.2.1
  have n1 : (i32 (5 * n + 1)).toNatClampNeg = 5 * n + 1 := i32_nat (by omega)
  have n2 : (i32 (5 * n + 2)).toNatClampNeg = 5 * n + 2 := i32_nat (by omega)
  have n3 : (i32 (5 * n + 3)).toNatClampNeg = 5 * n + 3 := i32_nat (by omega)
  have n4 : (i32 (5 * n + 4)).toNatClampNeg = 5 * n + 4 := i32_nat (by omega)
  have q1 : (i32 (5 * n + 1) < 0 ∨ L ≤ 5 * n + 1) = False := i32_jx (by omega) (by omega)
  have q2 : (i32 (5 * n + 2) < 0 ∨ L ≤ 5 * n + 2) = False := i32_jx (by omega) (by omega)
  have q3 : (i32 (5 * n + 3) < 0 ∨ L ≤ 5 * n + 3) = False := i32_jx (by omega) (by omega)
  have q4 : (i32 (5 * n + 4) < 0 ∨ L ≤ 5 * n + 4) = False := i32_jx (by omega) (by omega)
  obtain ⟨w1, e1, c1, a1, f1⟩ := H_spawn (d := 0) h.1 F.1 F.2 hn (h.rm (by omega)) o
  have N1 : hp_N w1 0 = L := by rw [f1.N]; exact hN
  have X1 : hp_I w1 1 = xs := f1.2.1.trans hX
  obtain ⟨w2, e2, c2, f2⟩ := M_spawn (d := 1) (h.2.1.lm f1.1) F.1 F.2.dd
  have h' := LI.next h c1 (by omega) f1 c2 f2 (F_spawn F)
  have e3 := M_thrown (d := 8) c2
  simp only [Nat.reduceAdd] at e1 e2 e3
  unfold mo_0
  simp only [ob_s]
  rw [e1]
  simp only [bi_n, ob_s, ix1, ix2, ix3, ix4, n1, n2, n3, n4, q1, q2, q3, q4, x0k, if_false, N1, X1]
  rw [e2]
  simp only [bi_n, ob_s]
  rw [e3, bi_n, if_pos rfl]
  by_cases h0 : (pSpawn S).1.th = 0
  · have ho : hp_L w2 8787 0 = (pSpawn S).2.toInt64 := (congrFun (f2.l 8787 (Or.inr (by omega))) 0).trans (a1 h0)
    rw [if_pos h0, if_neg (o_ix h'.2.2.2.2.2.1), k8787, z32, ho]
    rw [if_pos ((lg_eq _ _).mpr rfl)]
    rw [mk_189]
    unfold ml_189
    exact K.j (f' := f + 3) (by omega) h'
  · rw [if_neg h0, mk_189]
    unfold ml_189
    exact K.j (f' := f + 3) (by omega) h'
theorem o_way (h : LI L xs n w S) (hn : n < 512) (hL : L ≤ 2560) (hi : 5 * n + 4 < L) (K : LK L xs n f) : ∃ hf, mo_1 (kJ (f + 5)) 9 (kx_ev wx_M 9) (some 0) (some 1) (some 4363) (some 4393) (i32 (5 * n)) w = some (.inl (some (.inl 1)), hf) := by
  have o := h.2.2.2.2.2.1
  have hN := h.2.2.2.1
  have hX := h.2.2.2.2.1
  have F := h.2.2.1
  have n1 : (i32 (5 * n + 1)).toNatClampNeg = 5 * n + 1 := i32_nat (by omega)
  have n2 : (i32 (5 * n + 2)).toNatClampNeg = 5 * n + 2 := i32_nat (by omega)
  have n3 : (i32 (5 * n + 3)).toNatClampNeg = 5 * n + 3 := i32_nat (by omega)
  have n4 : (i32 (5 * n + 4)).toNatClampNeg = 5 * n + 4 := i32_nat (by omega)
  have q1 : (i32 (5 * n + 1) < 0 ∨ L ≤ 5 * n + 1) = False := i32_jx (by omega) (by omega)
  have q2 : (i32 (5 * n + 2) < 0 ∨ L ≤ 5 * n + 2) = False := i32_jx (by omega) (by omega)
  have q3 : (i32 (5 * n + 3) < 0 ∨ L ≤ 5 * n + 3) = False := i32_jx (by omega) (by omega)
  have q4 : (i32 (5 * n + 4) < 0 ∨ L ≤ 5 * n + 4) = False := i32_jx (by omega) (by omega)
  obtain ⟨w1, e1, c1, a1, f1⟩ := H_way (d := 0) h.1 F.1 F.2 hn (h.rm (by omega)) o
  have N1 : hp_N w1 0 = L := by rw [f1.N]; exact hN
  have X1 : hp_I w1 1 = xs := f1.2.1.trans hX
  obtain ⟨w2, e2, c2, f2⟩ := M_way (d := 2) (h.2.1.lm f1.1) F.1 hn
  have h' := LI.next h c1 (by omega) f1 c2 f2 (F_way F)
  have e3 := M_thrown (d := 8) c2
  simp only [Nat.reduceAdd] at e1 e2 e3
  unfold mo_1
  simp only [ob_s]
  rw [e1]
  simp only [bi_n, ob_s, ix1, ix2, ix3, ix4, n1, n2, n3, n4, q1, q2, q3, q4, x0k, if_false, N1, X1]
  rw [e2]
  simp only [bi_n, ob_s]
  rw [e3, bi_n, if_pos rfl]
  by_cases h0 : (pWay S).1.th = 0
  · have ho : hp_L w2 8787 0 = (pWay S).2.toInt64 := (congrFun (f2.l 8787 (Or.inr (by omega))) 0).trans (a1 h0)
    rw [if_pos h0, if_neg (o_ix h'.2.2.2.2.2.1), k8787, z32, ho]
    rw [if_pos ((lg_eq _ _).mpr rfl)]
    rw [mk_233]
    unfold ml_233
    exact K.j (f' := f + 3) (by omega) h'
  · rw [if_neg h0, mk_233]
    unfold ml_233
    exact K.j (f' := f + 3) (by omega) h'
theorem o_finish (h : LI L xs n w S) (hn : n < 512) (hL : L ≤ 2560) (hi : 5 * n + 4 < L) (K : LK L xs n f) : ∃ hf, mo_2 (kJ (f + 5)) 9 (kx_ev wx_M 9) (some 0) (some 1) (some 4363) (some 4393) (i32 (5 * n)) w = some (.inl (some (.inl 1)), hf) := by
  have o := h.2.2.2.2.2.1
  have hN := h.2.2.2.1
  have hX := h.2.2.2.2.1
  have F := h.2.2.1
  have n1 : (i32 (5 * n + 1)).toNatClampNeg = 5 * n + 1 := i32_nat (by omega)
  have n2 : (i32 (5 * n + 2)).toNatClampNeg = 5 * n + 2 := i32_nat (by omega)
  have n3 : (i32 (5 * n + 3)).toNatClampNeg = 5 * n + 3 := i32_nat (by omega)
  have n4 : (i32 (5 * n + 4)).toNatClampNeg = 5 * n + 4 := i32_nat (by omega)
  have q1 : (i32 (5 * n + 1) < 0 ∨ L ≤ 5 * n + 1) = False := i32_jx (by omega) (by omega)
  have q2 : (i32 (5 * n + 2) < 0 ∨ L ≤ 5 * n + 2) = False := i32_jx (by omega) (by omega)
  have q3 : (i32 (5 * n + 3) < 0 ∨ L ≤ 5 * n + 3) = False := i32_jx (by omega) (by omega)
  have q4 : (i32 (5 * n + 4) < 0 ∨ L ≤ 5 * n + 4) = False := i32_jx (by omega) (by omega)
  obtain ⟨w1, e1, c1, a1, f1⟩ := H_finish (d := 0) h.1 F.1 F.2 hn (h.rm (by omega)) o
  have N1 : hp_N w1 0 = L := by rw [f1.N]; exact hN
  have X1 : hp_I w1 1 = xs := f1.2.1.trans hX
  obtain ⟨w2, e2, c2, f2⟩ := M_finish (d := 1) (h.2.1.lm f1.1) F.1 hn
  have h' := LI.next h c1 (by omega) f1 c2 f2 (F_finish F)
  have e3 := M_thrown (d := 8) c2
  simp only [Nat.reduceAdd] at e1 e2 e3
  unfold mo_2
  simp only [ob_s]
  rw [e1]
  simp only [bi_n, ob_s, ix1, ix2, ix3, ix4, n1, n2, n3, n4, q1, q2, q3, q4, x0k, if_false, N1, X1]
  rw [e2]
  simp only [bi_n, ob_s]
  rw [e3, bi_n, if_pos rfl]
  by_cases h0 : (pFinish S).1.th = 0
  · have ho : hp_L w2 8787 0 = (pFinish S).2.toInt64 := (congrFun (f2.l 8787 (Or.inr (by omega))) 0).trans (a1 h0)
    rw [if_pos h0, if_neg (o_ix h'.2.2.2.2.2.1), k8787, z32, ho]
    rw [if_pos ((lg_eq _ _).mpr rfl)]
    rw [mk_277]
    unfold ml_277
    exact K.j (f' := f + 3) (by omega) h'
  · rw [if_neg h0, mk_277]
    unfold ml_277
    exact K.j (f' := f + 3) (by omega) h'
theorem o_sleep (h : LI L xs n w S) (hn : n < 512) (hL : L ≤ 2560) (hi : 5 * n + 4 < L) (K : LK L xs n f) : ∃ hf, mo_3 (kJ (f + 5)) 9 (kx_ev wx_M 9) (some 0) (some 1) (some 4363) (some 4393) (i32 (5 * n)) w = some (.inl (some (.inl 1)), hf) := by
  have o := h.2.2.2.2.2.1
  have hN := h.2.2.2.1
  have hX := h.2.2.2.2.1
  have F := h.2.2.1
  have n1 : (i32 (5 * n + 1)).toNatClampNeg = 5 * n + 1 := i32_nat (by omega)
  have n2 : (i32 (5 * n + 2)).toNatClampNeg = 5 * n + 2 := i32_nat (by omega)
  have n3 : (i32 (5 * n + 3)).toNatClampNeg = 5 * n + 3 := i32_nat (by omega)
  have n4 : (i32 (5 * n + 4)).toNatClampNeg = 5 * n + 4 := i32_nat (by omega)
  have q1 : (i32 (5 * n + 1) < 0 ∨ L ≤ 5 * n + 1) = False := i32_jx (by omega) (by omega)
  have q2 : (i32 (5 * n + 2) < 0 ∨ L ≤ 5 * n + 2) = False := i32_jx (by omega) (by omega)
  have q3 : (i32 (5 * n + 3) < 0 ∨ L ≤ 5 * n + 3) = False := i32_jx (by omega) (by omega)
  have q4 : (i32 (5 * n + 4) < 0 ∨ L ≤ 5 * n + 4) = False := i32_jx (by omega) (by omega)
  obtain ⟨w1, e1, c1, a1, f1⟩ := H_sleep (d := 0) (v := (((Int32.toInt64 (xs (5 * n + 1))) <<< ((32 : Int32).toInt64 &&& 63)) ||| ((Int32.toInt64 (xs (5 * n + 2))) &&& (4294967295 : Int64)))) h.1 F.1 F.2 hn (h.rm (by omega)) o
  have N1 : hp_N w1 0 = L := by rw [f1.N]; exact hN
  have X1 : hp_I w1 1 = xs := f1.2.1.trans hX
  obtain ⟨w2, e2, c2, f2⟩ := M_sleep (d := 1) (v := (((Int32.toInt64 (xs (5 * n + 1))) <<< ((32 : Int32).toInt64 &&& 63)) ||| ((Int32.toInt64 (xs (5 * n + 2))) &&& (4294967295 : Int64)))) (h.2.1.lm f1.1) F.1 hn
  have h' := LI.next h c1 (by omega) f1 c2 f2 (F_sleep F)
  have e3 := M_thrown (d := 8) c2
  simp only [Nat.reduceAdd] at e1 e2 e3
  unfold mo_3
  simp only [ob_s, ix1, ix2, ix3, ix4, n1, n2, n3, n4, q1, q2, q3, q4, x0k, if_false, hN, hX]
  rw [e1]
  simp only [bi_n, ob_s, ix1, ix2, ix3, ix4, n1, n2, n3, n4, q1, q2, q3, q4, x0k, if_false, N1, X1]
  rw [e2]
  simp only [bi_n, ob_s]
  rw [e3, bi_n, if_pos rfl]
  by_cases h0 : (pSleep S (((Int32.toInt64 (xs (5 * n + 1))) <<< ((32 : Int32).toInt64 &&& 63)) ||| ((Int32.toInt64 (xs (5 * n + 2))) &&& (4294967295 : Int64)))).1.th = 0
  · have ho : hp_L w2 8787 0 = (pSleep S (((Int32.toInt64 (xs (5 * n + 1))) <<< ((32 : Int32).toInt64 &&& 63)) ||| ((Int32.toInt64 (xs (5 * n + 2))) &&& (4294967295 : Int64)))).2.toInt64 := (congrFun (f2.l 8787 (Or.inr (by omega))) 0).trans (a1 h0)
    rw [if_pos h0, if_neg (o_ix h'.2.2.2.2.2.1), k8787, z32, ho]
    rw [if_pos ((lg_eq _ _).mpr rfl)]
    rw [mk_365]
    unfold ml_365
    exact K.j (f' := f + 3) (by omega) h'
  · rw [if_neg h0, mk_365]
    unfold ml_365
    exact K.j (f' := f + 3) (by omega) h'
theorem o_channel (h : LI L xs n w S) (hn : n < 512) (hL : L ≤ 2560) (hi : 5 * n + 4 < L) (K : LK L xs n f) : ∃ hf, mo_4 (kJ (f + 5)) 9 (kx_ev wx_M 9) (some 0) (some 1) (some 4363) (some 4393) (i32 (5 * n)) w = some (.inl (some (.inl 1)), hf) := by
  have o := h.2.2.2.2.2.1
  have hN := h.2.2.2.1
  have hX := h.2.2.2.2.1
  have F := h.2.2.1
  have n1 : (i32 (5 * n + 1)).toNatClampNeg = 5 * n + 1 := i32_nat (by omega)
  have n2 : (i32 (5 * n + 2)).toNatClampNeg = 5 * n + 2 := i32_nat (by omega)
  have n3 : (i32 (5 * n + 3)).toNatClampNeg = 5 * n + 3 := i32_nat (by omega)
  have n4 : (i32 (5 * n + 4)).toNatClampNeg = 5 * n + 4 := i32_nat (by omega)
  have q1 : (i32 (5 * n + 1) < 0 ∨ L ≤ 5 * n + 1) = False := i32_jx (by omega) (by omega)
  have q2 : (i32 (5 * n + 2) < 0 ∨ L ≤ 5 * n + 2) = False := i32_jx (by omega) (by omega)
  have q3 : (i32 (5 * n + 3) < 0 ∨ L ≤ 5 * n + 3) = False := i32_jx (by omega) (by omega)
  have q4 : (i32 (5 * n + 4) < 0 ∨ L ≤ 5 * n + 4) = False := i32_jx (by omega) (by omega)
  obtain ⟨w1, e1, c1, a1, f1⟩ := H_channel (d := 0) (x := (xs (5 * n + 1))) h.1 F.1 F.2 hn (h.rm (by omega)) o
  have N1 : hp_N w1 0 = L := by rw [f1.N]; exact hN
  have X1 : hp_I w1 1 = xs := f1.2.1.trans hX
  obtain ⟨w2, e2, c2, f2⟩ := M_channel (d := 1) (c := (xs (5 * n + 1))) (h.2.1.lm f1.1) 
  have h' := LI.next h c1 (by omega) f1 c2 f2 (F_channel F hn)
  have e3 := M_thrown (d := 8) c2
  simp only [Nat.reduceAdd] at e1 e2 e3
  unfold mo_4
  simp only [ob_s, ix1, ix2, ix3, ix4, n1, n2, n3, n4, q1, q2, q3, q4, x0k, if_false, hN, hX]
  rw [e1]
  simp only [bi_n, ob_s, ix1, ix2, ix3, ix4, n1, n2, n3, n4, q1, q2, q3, q4, x0k, if_false, N1, X1]
  rw [e2]
  simp only [bi_n, ob_s]
  rw [e3, bi_n, if_pos rfl]
  by_cases h0 : (pChannel S (xs (5 * n + 1))).1.th = 0
  · have ho : hp_L w2 8787 0 = (pChannel S (xs (5 * n + 1))).2.toInt64 := (congrFun (f2.l 8787 (Or.inr (by omega))) 0).trans (a1 h0)
    rw [if_pos h0, if_neg (o_ix h'.2.2.2.2.2.1), k8787, z32, ho]
    rw [if_pos ((lg_eq _ _).mpr rfl)]
    rw [mk_421]
    unfold ml_421
    exact K.j (f' := f + 3) (by omega) h'
  · rw [if_neg h0, mk_421]
    unfold ml_421
    exact K.j (f' := f + 3) (by omega) h'
theorem o_alarm (h : LI L xs n w S) (hn : n < 512) (hL : L ≤ 2560) (hi : 5 * n + 4 < L) (K : LK L xs n f) : ∃ hf, mo_6 (kJ (f + 5)) 9 (kx_ev wx_M 9) (some 0) (some 1) (some 4363) (some 4393) (i32 (5 * n)) w = some (.inl (some (.inl 1)), hf) := by
  have o := h.2.2.2.2.2.1
  have hN := h.2.2.2.1
  have hX := h.2.2.2.2.1
  have F := h.2.2.1
  have n1 : (i32 (5 * n + 1)).toNatClampNeg = 5 * n + 1 := i32_nat (by omega)
  have n2 : (i32 (5 * n + 2)).toNatClampNeg = 5 * n + 2 := i32_nat (by omega)
  have n3 : (i32 (5 * n + 3)).toNatClampNeg = 5 * n + 3 := i32_nat (by omega)
  have n4 : (i32 (5 * n + 4)).toNatClampNeg = 5 * n + 4 := i32_nat (by omega)
  have q1 : (i32 (5 * n + 1) < 0 ∨ L ≤ 5 * n + 1) = False := i32_jx (by omega) (by omega)
  have q2 : (i32 (5 * n + 2) < 0 ∨ L ≤ 5 * n + 2) = False := i32_jx (by omega) (by omega)
  have q3 : (i32 (5 * n + 3) < 0 ∨ L ≤ 5 * n + 3) = False := i32_jx (by omega) (by omega)
  have q4 : (i32 (5 * n + 4) < 0 ∨ L ≤ 5 * n + 4) = False := i32_jx (by omega) (by omega)
  obtain ⟨w1, e1, c1, f1⟩ := H_alarm (d := 0) (x := (xs (5 * n + 1))) (v := (((Int32.toInt64 (xs (5 * n + 2))) <<< ((32 : Int32).toInt64 &&& 63)) ||| ((Int32.toInt64 (xs (5 * n + 3))) &&& (4294967295 : Int64)))) h.1 F.1 F.2 hn (h.rm (by omega)) o
  have N1 : hp_N w1 0 = L := by rw [f1.N]; exact hN
  have X1 : hp_I w1 1 = xs := f1.2.1.trans hX
  obtain ⟨w2, e2, c2, f2⟩ := M_alarm (d := 1) (c := (xs (5 * n + 1))) (v := (((Int32.toInt64 (xs (5 * n + 2))) <<< ((32 : Int32).toInt64 &&& 63)) ||| ((Int32.toInt64 (xs (5 * n + 3))) &&& (4294967295 : Int64)))) (h.2.1.lm f1.1) F.1 hn
  have h' := LI.next h c1 (by omega) f1 c2 f2 (F_alarm F)
  have e3 := M_thrown (d := 8) c2
  simp only [Nat.reduceAdd] at e1 e2 e3
  unfold mo_6
  simp only [ob_s, ix1, ix2, ix3, ix4, n1, n2, n3, n4, q1, q2, q3, q4, x0k, if_false, hN, hX]
  rw [e1]
  simp only [bi_n, ob_s, ix1, ix2, ix3, ix4, n1, n2, n3, n4, q1, q2, q3, q4, x0k, if_false, N1, X1]
  rw [e2]
  simp only [bv_n, ob_s]
  rw [e3, bi_n, if_pos rfl]
  exact K.j (f' := f + 4) (by omega) h'
theorem o_send (h : LI L xs n w S) (hn : n < 512) (hL : L ≤ 2560) (hi : 5 * n + 4 < L) (K : LK L xs n f) : ∃ hf, mo_7 (kJ (f + 5)) 9 (kx_ev wx_M 9) (some 0) (some 1) (some 4363) (some 4393) (i32 (5 * n)) w = some (.inl (some (.inl 1)), hf) := by
  have o := h.2.2.2.2.2.1
  have hN := h.2.2.2.1
  have hX := h.2.2.2.2.1
  have F := h.2.2.1
  have n1 : (i32 (5 * n + 1)).toNatClampNeg = 5 * n + 1 := i32_nat (by omega)
  have n2 : (i32 (5 * n + 2)).toNatClampNeg = 5 * n + 2 := i32_nat (by omega)
  have n3 : (i32 (5 * n + 3)).toNatClampNeg = 5 * n + 3 := i32_nat (by omega)
  have n4 : (i32 (5 * n + 4)).toNatClampNeg = 5 * n + 4 := i32_nat (by omega)
  have q1 : (i32 (5 * n + 1) < 0 ∨ L ≤ 5 * n + 1) = False := i32_jx (by omega) (by omega)
  have q2 : (i32 (5 * n + 2) < 0 ∨ L ≤ 5 * n + 2) = False := i32_jx (by omega) (by omega)
  have q3 : (i32 (5 * n + 3) < 0 ∨ L ≤ 5 * n + 3) = False := i32_jx (by omega) (by omega)
  have q4 : (i32 (5 * n + 4) < 0 ∨ L ≤ 5 * n + 4) = False := i32_jx (by omega) (by omega)
  obtain ⟨w1, e1, c1, a1, f1⟩ := H_send (d := 0) (x := (xs (5 * n + 1))) (v := (((Int32.toInt64 (xs (5 * n + 2))) <<< ((32 : Int32).toInt64 &&& 63)) ||| ((Int32.toInt64 (xs (5 * n + 3))) &&& (4294967295 : Int64)))) h.1 F.1 F.2 hn (h.rm (by omega)) o
  have N1 : hp_N w1 0 = L := by rw [f1.N]; exact hN
  have X1 : hp_I w1 1 = xs := f1.2.1.trans hX
  obtain ⟨w2, e2, c2, f2⟩ := M_send (d := 1) (c := (xs (5 * n + 1))) (v := (((Int32.toInt64 (xs (5 * n + 2))) <<< ((32 : Int32).toInt64 &&& 63)) ||| ((Int32.toInt64 (xs (5 * n + 3))) &&& (4294967295 : Int64)))) (h.2.1.lm f1.1) F.1 hn
  have h' := LI.next h c1 (by omega) f1 c2 f2 (F_send F)
  have e3 := M_thrown (d := 8) c2
  simp only [Nat.reduceAdd] at e1 e2 e3
  unfold mo_7
  simp only [ob_s, ix1, ix2, ix3, ix4, n1, n2, n3, n4, q1, q2, q3, q4, x0k, if_false, hN, hX]
  rw [e1]
  simp only [bi_n, ob_s, ix1, ix2, ix3, ix4, n1, n2, n3, n4, q1, q2, q3, q4, x0k, if_false, N1, X1]
  rw [e2]
  simp only [bi_n, ob_s]
  rw [e3, bi_n, if_pos rfl]
  by_cases h0 : (pSend S (xs (5 * n + 1)) (((Int32.toInt64 (xs (5 * n + 2))) <<< ((32 : Int32).toInt64 &&& 63)) ||| ((Int32.toInt64 (xs (5 * n + 3))) &&& (4294967295 : Int64)))).1.th = 0
  · have ho : hp_L w2 8787 0 = l01 (pSend S (xs (5 * n + 1)) (((Int32.toInt64 (xs (5 * n + 2))) <<< ((32 : Int32).toInt64 &&& 63)) ||| ((Int32.toInt64 (xs (5 * n + 3))) &&& (4294967295 : Int64)))).2 := (congrFun (f2.l 8787 (Or.inr (by omega))) 0).trans (a1 h0)
    rw [if_pos h0, if_neg (o_ix h'.2.2.2.2.2.1), k8787, z32, ho]
    cases hb : (pSend S (xs (5 * n + 1)) (((Int32.toInt64 (xs (5 * n + 2))) <<< ((32 : Int32).toInt64 &&& 63)) ||| ((Int32.toInt64 (xs (5 * n + 3))) &&& (4294967295 : Int64)))).2 with
    | false =>
      rw [kx_b_f, if_pos rfl, mk_627]
      unfold ml_627
      rw [if_pos l01_false, mk_633]
      unfold ml_633
      exact K.j (f' := f + 2) (by omega) h'
    | true =>
      rw [kx_b_t, if_neg (by decide), mk_627]
      unfold ml_627
      rw [if_pos l01_true, mk_633]
      unfold ml_633
      exact K.j (f' := f + 2) (by omega) h'
  · rw [if_neg h0, mk_633]
    unfold ml_633
    exact K.j (f' := f + 3) (by omega) h'
theorem o_recv (h : LI L xs n w S) (hn : n < 512) (hL : L ≤ 2560) (hi : 5 * n + 4 < L) (K : LK L xs n f) : ∃ hf, mo_8 (kJ (f + 5)) 9 (kx_ev wx_M 9) (some 0) (some 1) (some 4363) (some 4393) (i32 (5 * n)) w = some (.inl (some (.inl 1)), hf) := by
  have o := h.2.2.2.2.2.1
  have hN := h.2.2.2.1
  have hX := h.2.2.2.2.1
  have F := h.2.2.1
  have n1 : (i32 (5 * n + 1)).toNatClampNeg = 5 * n + 1 := i32_nat (by omega)
  have n2 : (i32 (5 * n + 2)).toNatClampNeg = 5 * n + 2 := i32_nat (by omega)
  have n3 : (i32 (5 * n + 3)).toNatClampNeg = 5 * n + 3 := i32_nat (by omega)
  have n4 : (i32 (5 * n + 4)).toNatClampNeg = 5 * n + 4 := i32_nat (by omega)
  have q1 : (i32 (5 * n + 1) < 0 ∨ L ≤ 5 * n + 1) = False := i32_jx (by omega) (by omega)
  have q2 : (i32 (5 * n + 2) < 0 ∨ L ≤ 5 * n + 2) = False := i32_jx (by omega) (by omega)
  have q3 : (i32 (5 * n + 3) < 0 ∨ L ≤ 5 * n + 3) = False := i32_jx (by omega) (by omega)
  have q4 : (i32 (5 * n + 4) < 0 ∨ L ≤ 5 * n + 4) = False := i32_jx (by omega) (by omega)
  obtain ⟨w1, e1, c1, a1, f1⟩ := H_recv (d := 0) (x := (xs (5 * n + 1))) h.1 F.1 F.2 hn (h.rm (by omega)) o
  have N1 : hp_N w1 0 = L := by rw [f1.N]; exact hN
  have X1 : hp_I w1 1 = xs := f1.2.1.trans hX
  obtain ⟨w2, e2, c2, f2⟩ := M_recv (d := 1) (c := (xs (5 * n + 1))) (h.2.1.lm f1.1) F.1 hn
  have h' := LI.next h c1 (by omega) f1 c2 f2 (F_recv F)
  have e3 := M_thrown (d := 8) c2
  simp only [Nat.reduceAdd] at e1 e2 e3
  unfold mo_8
  simp only [ob_s, ix1, ix2, ix3, ix4, n1, n2, n3, n4, q1, q2, q3, q4, x0k, if_false, hN, hX]
  rw [e1]
  simp only [bi_n, ob_s, ix1, ix2, ix3, ix4, n1, n2, n3, n4, q1, q2, q3, q4, x0k, if_false, N1, X1]
  rw [e2]
  simp only [bi_n, ob_s]
  rw [e3, bi_n, if_pos rfl]
  by_cases h0 : (pRecv S (xs (5 * n + 1))).1.th = 0
  · have ho : hp_L w2 8787 0 = l01 (pRecv S (xs (5 * n + 1))).2 := (congrFun (f2.l 8787 (Or.inr (by omega))) 0).trans (a1 h0)
    rw [if_pos h0, if_neg (o_ix h'.2.2.2.2.2.1), k8787, z32, ho]
    cases hb : (pRecv S (xs (5 * n + 1))).2 with
    | false =>
      rw [kx_b_f, if_pos rfl, mk_690]
      unfold ml_690
      rw [if_pos l01_false, mk_696]
      unfold ml_696
      exact K.j (f' := f + 2) (by omega) h'
    | true =>
      rw [kx_b_t, if_neg (by decide), mk_690]
      unfold ml_690
      rw [if_pos l01_true, mk_696]
      unfold ml_696
      exact K.j (f' := f + 2) (by omega) h'
  · rw [if_neg h0, mk_696]
    unfold ml_696
    exact K.j (f' := f + 3) (by omega) h'
theorem o_close (h : LI L xs n w S) (hn : n < 512) (hL : L ≤ 2560) (hi : 5 * n + 4 < L) (K : LK L xs n f) : ∃ hf, mo_9 (kJ (f + 5)) 9 (kx_ev wx_M 9) (some 0) (some 1) (some 4363) (some 4393) (i32 (5 * n)) w = some (.inl (some (.inl 1)), hf) := by
  have o := h.2.2.2.2.2.1
  have hN := h.2.2.2.1
  have hX := h.2.2.2.2.1
  have F := h.2.2.1
  have n1 : (i32 (5 * n + 1)).toNatClampNeg = 5 * n + 1 := i32_nat (by omega)
  have n2 : (i32 (5 * n + 2)).toNatClampNeg = 5 * n + 2 := i32_nat (by omega)
  have n3 : (i32 (5 * n + 3)).toNatClampNeg = 5 * n + 3 := i32_nat (by omega)
  have n4 : (i32 (5 * n + 4)).toNatClampNeg = 5 * n + 4 := i32_nat (by omega)
  have q1 : (i32 (5 * n + 1) < 0 ∨ L ≤ 5 * n + 1) = False := i32_jx (by omega) (by omega)
  have q2 : (i32 (5 * n + 2) < 0 ∨ L ≤ 5 * n + 2) = False := i32_jx (by omega) (by omega)
  have q3 : (i32 (5 * n + 3) < 0 ∨ L ≤ 5 * n + 3) = False := i32_jx (by omega) (by omega)
  have q4 : (i32 (5 * n + 4) < 0 ∨ L ≤ 5 * n + 4) = False := i32_jx (by omega) (by omega)
  obtain ⟨w1, e1, c1, f1⟩ := H_close (d := 0) (x := (xs (5 * n + 1))) h.1 F.1 F.2 hn (h.rm (by omega)) o
  have N1 : hp_N w1 0 = L := by rw [f1.N]; exact hN
  have X1 : hp_I w1 1 = xs := f1.2.1.trans hX
  obtain ⟨w2, e2, c2, f2⟩ := M_close (d := 1) (c := (xs (5 * n + 1))) (h.2.1.lm f1.1) F.1 hn
  have h' := LI.next h c1 (by omega) f1 c2 f2 (F_close F)
  have e3 := M_thrown (d := 8) c2
  simp only [Nat.reduceAdd] at e1 e2 e3
  unfold mo_9
  simp only [ob_s, ix1, ix2, ix3, ix4, n1, n2, n3, n4, q1, q2, q3, q4, x0k, if_false, hN, hX]
  rw [e1]
  simp only [bi_n, ob_s, ix1, ix2, ix3, ix4, n1, n2, n3, n4, q1, q2, q3, q4, x0k, if_false, N1, X1]
  rw [e2]
  simp only [bv_n, ob_s]
  rw [e3, bi_n, if_pos rfl]
  exact K.j (f' := f + 4) (by omega) h'
theorem o_gate (h : LI L xs n w S) (hn : n < 512) (hL : L ≤ 2560) (hi : 5 * n + 4 < L) (K : LK L xs n f) : ∃ hf, mo_12 (kJ (f + 5)) 9 (kx_ev wx_M 9) (some 0) (some 1) (some 4363) (some 4393) (i32 (5 * n)) w = some (.inl (some (.inl 1)), hf) := by
  have o := h.2.2.2.2.2.1
  have hN := h.2.2.2.1
  have hX := h.2.2.2.2.1
  have F := h.2.2.1
  have n1 : (i32 (5 * n + 1)).toNatClampNeg = 5 * n + 1 := i32_nat (by omega)
  have n2 : (i32 (5 * n + 2)).toNatClampNeg = 5 * n + 2 := i32_nat (by omega)
  have n3 : (i32 (5 * n + 3)).toNatClampNeg = 5 * n + 3 := i32_nat (by omega)
  have n4 : (i32 (5 * n + 4)).toNatClampNeg = 5 * n + 4 := i32_nat (by omega)
  have q1 : (i32 (5 * n + 1) < 0 ∨ L ≤ 5 * n + 1) = False := i32_jx (by omega) (by omega)
  have q2 : (i32 (5 * n + 2) < 0 ∨ L ≤ 5 * n + 2) = False := i32_jx (by omega) (by omega)
  have q3 : (i32 (5 * n + 3) < 0 ∨ L ≤ 5 * n + 3) = False := i32_jx (by omega) (by omega)
  have q4 : (i32 (5 * n + 4) < 0 ∨ L ≤ 5 * n + 4) = False := i32_jx (by omega) (by omega)
  obtain ⟨w1, e1, c1, a1, f1⟩ := H_gate (d := 0) (x := (xs (5 * n + 1))) (y := (xs (5 * n + 2))) h.1 F.1 F.2 hn (h.rm (by omega)) o
  have N1 : hp_N w1 0 = L := by rw [f1.N]; exact hN
  have X1 : hp_I w1 1 = xs := f1.2.1.trans hX
  obtain ⟨w2, e2, c2, f2⟩ := M_gate (d := 1) (c := (xs (5 * n + 1))) (x := (xs (5 * n + 2))) (h.2.1.lm f1.1) F.1
  have h' := LI.next h c1 (by omega) f1 c2 f2 (F_gate F)
  have e3 := M_thrown (d := 8) c2
  simp only [Nat.reduceAdd] at e1 e2 e3
  unfold mo_12
  simp only [ob_s, ix1, ix2, ix3, ix4, n1, n2, n3, n4, q1, q2, q3, q4, x0k, if_false, hN, hX]
  rw [e1]
  simp only [bi_n, ob_s, ix1, ix2, ix3, ix4, n1, n2, n3, n4, q1, q2, q3, q4, x0k, if_false, N1, X1]
  rw [e2]
  simp only [bi_n, ob_s]
  rw [e3, bi_n, if_pos rfl]
  by_cases h0 : (pGate S (xs (5 * n + 1)) (xs (5 * n + 2))).1.th = 0
  · have ho : hp_L w2 8787 0 = (pGate S (xs (5 * n + 1)) (xs (5 * n + 2))).2.toInt64 := (congrFun (f2.l 8787 (Or.inr (by omega))) 0).trans (a1 h0)
    rw [if_pos h0, if_neg (o_ix h'.2.2.2.2.2.1), k8787, z32, ho]
    rw [if_pos ((lg_eq _ _).mpr rfl)]
    rw [mk_1019]
    unfold ml_1019
    exact K.j (f' := f + 3) (by omega) h'
  · rw [if_neg h0, mk_1019]
    unfold ml_1019
    exact K.j (f' := f + 3) (by omega) h'
theorem o_enter (h : LI L xs n w S) (hn : n < 512) (hL : L ≤ 2560) (hi : 5 * n + 4 < L) (K : LK L xs n f) : ∃ hf, mo_13 (kJ (f + 5)) 9 (kx_ev wx_M 9) (some 0) (some 1) (some 4363) (some 4393) (i32 (5 * n)) w = some (.inl (some (.inl 1)), hf) := by
  have o := h.2.2.2.2.2.1
  have hN := h.2.2.2.1
  have hX := h.2.2.2.2.1
  have F := h.2.2.1
  have n1 : (i32 (5 * n + 1)).toNatClampNeg = 5 * n + 1 := i32_nat (by omega)
  have n2 : (i32 (5 * n + 2)).toNatClampNeg = 5 * n + 2 := i32_nat (by omega)
  have n3 : (i32 (5 * n + 3)).toNatClampNeg = 5 * n + 3 := i32_nat (by omega)
  have n4 : (i32 (5 * n + 4)).toNatClampNeg = 5 * n + 4 := i32_nat (by omega)
  have q1 : (i32 (5 * n + 1) < 0 ∨ L ≤ 5 * n + 1) = False := i32_jx (by omega) (by omega)
  have q2 : (i32 (5 * n + 2) < 0 ∨ L ≤ 5 * n + 2) = False := i32_jx (by omega) (by omega)
  have q3 : (i32 (5 * n + 3) < 0 ∨ L ≤ 5 * n + 3) = False := i32_jx (by omega) (by omega)
  have q4 : (i32 (5 * n + 4) < 0 ∨ L ≤ 5 * n + 4) = False := i32_jx (by omega) (by omega)
  obtain ⟨w1, e1, c1, a1, f1⟩ := H_enter (d := 0) (x := (xs (5 * n + 1))) h.1 F.1 F.2 hn (h.rm (by omega)) o
  have N1 : hp_N w1 0 = L := by rw [f1.N]; exact hN
  have X1 : hp_I w1 1 = xs := f1.2.1.trans hX
  obtain ⟨w2, e2, c2, f2⟩ := M_enter (d := 0) (c := (xs (5 * n + 1))) (h.2.1.lm f1.1) F.1 hn
  have h' := LI.next h c1 (by omega) f1 c2 f2 (F_enter F)
  have e3 := M_thrown (d := 8) c2
  simp only [Nat.reduceAdd] at e1 e2 e3
  unfold mo_13
  simp only [ob_s, ix1, ix2, ix3, ix4, n1, n2, n3, n4, q1, q2, q3, q4, x0k, if_false, hN, hX]
  rw [e1]
  simp only [bi_n, ob_s, ix1, ix2, ix3, ix4, n1, n2, n3, n4, q1, q2, q3, q4, x0k, if_false, N1, X1]
  rw [e2]
  simp only [bi_n, ob_s]
  rw [e3, bi_n, if_pos rfl]
  by_cases h0 : (pEnter S (xs (5 * n + 1))).1.th = 0
  · have ho : hp_L w2 8787 0 = l01 (pEnter S (xs (5 * n + 1))).2 := (congrFun (f2.l 8787 (Or.inr (by omega))) 0).trans (a1 h0)
    rw [if_pos h0, if_neg (o_ix h'.2.2.2.2.2.1), k8787, z32, ho]
    cases hb : (pEnter S (xs (5 * n + 1))).2 with
    | false =>
      rw [kx_b_f, if_pos rfl, mk_1076]
      unfold ml_1076
      rw [if_pos l01_false, mk_1082]
      unfold ml_1082
      exact K.j (f' := f + 2) (by omega) h'
    | true =>
      rw [kx_b_t, if_neg (by decide), mk_1076]
      unfold ml_1076
      rw [if_pos l01_true, mk_1082]
      unfold ml_1082
      exact K.j (f' := f + 2) (by omega) h'
  · rw [if_neg h0, mk_1082]
    unfold ml_1082
    exact K.j (f' := f + 3) (by omega) h'
theorem o_read (h : LI L xs n w S) (hn : n < 512) (hL : L ≤ 2560) (hi : 5 * n + 4 < L) (K : LK L xs n f) : ∃ hf, mo_14 (kJ (f + 5)) 9 (kx_ev wx_M 9) (some 0) (some 1) (some 4363) (some 4393) (i32 (5 * n)) w = some (.inl (some (.inl 1)), hf) := by
  have o := h.2.2.2.2.2.1
  have hN := h.2.2.2.1
  have hX := h.2.2.2.2.1
  have F := h.2.2.1
  have n1 : (i32 (5 * n + 1)).toNatClampNeg = 5 * n + 1 := i32_nat (by omega)
  have n2 : (i32 (5 * n + 2)).toNatClampNeg = 5 * n + 2 := i32_nat (by omega)
  have n3 : (i32 (5 * n + 3)).toNatClampNeg = 5 * n + 3 := i32_nat (by omega)
  have n4 : (i32 (5 * n + 4)).toNatClampNeg = 5 * n + 4 := i32_nat (by omega)
  have q1 : (i32 (5 * n + 1) < 0 ∨ L ≤ 5 * n + 1) = False := i32_jx (by omega) (by omega)
  have q2 : (i32 (5 * n + 2) < 0 ∨ L ≤ 5 * n + 2) = False := i32_jx (by omega) (by omega)
  have q3 : (i32 (5 * n + 3) < 0 ∨ L ≤ 5 * n + 3) = False := i32_jx (by omega) (by omega)
  have q4 : (i32 (5 * n + 4) < 0 ∨ L ≤ 5 * n + 4) = False := i32_jx (by omega) (by omega)
  obtain ⟨w1, e1, c1, a1, f1⟩ := H_read (d := 0) (x := (xs (5 * n + 1))) h.1 F.1 F.2 hn (h.rm (by omega)) o
  have N1 : hp_N w1 0 = L := by rw [f1.N]; exact hN
  have X1 : hp_I w1 1 = xs := f1.2.1.trans hX
  obtain ⟨w2, e2, c2, f2⟩ := M_read (d := 0) (c := (xs (5 * n + 1))) (h.2.1.lm f1.1) F.1 hn
  have h' := LI.next h c1 (by omega) f1 c2 f2 (F_read F hn)
  have e3 := M_thrown (d := 8) c2
  simp only [Nat.reduceAdd] at e1 e2 e3
  unfold mo_14
  simp only [ob_s, ix1, ix2, ix3, ix4, n1, n2, n3, n4, q1, q2, q3, q4, x0k, if_false, hN, hX]
  rw [e1]
  simp only [bi_n, ob_s, ix1, ix2, ix3, ix4, n1, n2, n3, n4, q1, q2, q3, q4, x0k, if_false, N1, X1]
  rw [e2]
  simp only [bi_n, ob_s]
  rw [e3, bi_n, if_pos rfl]
  by_cases h0 : (pRead S (xs (5 * n + 1))).1.th = 0
  · have ho : hp_L w2 8787 0 = l01 (pRead S (xs (5 * n + 1))).2 := (congrFun (f2.l 8787 (Or.inr (by omega))) 0).trans (a1 h0)
    rw [if_pos h0, if_neg (o_ix h'.2.2.2.2.2.1), k8787, z32, ho]
    cases hb : (pRead S (xs (5 * n + 1))).2 with
    | false =>
      rw [kx_b_f, if_pos rfl, mk_1139]
      unfold ml_1139
      rw [if_pos l01_false, mk_1145]
      unfold ml_1145
      exact K.j (f' := f + 2) (by omega) h'
    | true =>
      rw [kx_b_t, if_neg (by decide), mk_1139]
      unfold ml_1139
      rw [if_pos l01_true, mk_1145]
      unfold ml_1145
      exact K.j (f' := f + 2) (by omega) h'
  · rw [if_neg h0, mk_1145]
    unfold ml_1145
    exact K.j (f' := f + 3) (by omega) h'
theorem o_leave (h : LI L xs n w S) (hn : n < 512) (hL : L ≤ 2560) (hi : 5 * n + 4 < L) (K : LK L xs n f) : ∃ hf, mo_15 (kJ (f + 5)) 9 (kx_ev wx_M 9) (some 0) (some 1) (some 4363) (some 4393) (i32 (5 * n)) w = some (.inl (some (.inl 1)), hf) := by
  have o := h.2.2.2.2.2.1
  have hN := h.2.2.2.1
  have hX := h.2.2.2.2.1
  have F := h.2.2.1
  have n1 : (i32 (5 * n + 1)).toNatClampNeg = 5 * n + 1 := i32_nat (by omega)
  have n2 : (i32 (5 * n + 2)).toNatClampNeg = 5 * n + 2 := i32_nat (by omega)
  have n3 : (i32 (5 * n + 3)).toNatClampNeg = 5 * n + 3 := i32_nat (by omega)
  have n4 : (i32 (5 * n + 4)).toNatClampNeg = 5 * n + 4 := i32_nat (by omega)
  have q1 : (i32 (5 * n + 1) < 0 ∨ L ≤ 5 * n + 1) = False := i32_jx (by omega) (by omega)
  have q2 : (i32 (5 * n + 2) < 0 ∨ L ≤ 5 * n + 2) = False := i32_jx (by omega) (by omega)
  have q3 : (i32 (5 * n + 3) < 0 ∨ L ≤ 5 * n + 3) = False := i32_jx (by omega) (by omega)
  have q4 : (i32 (5 * n + 4) < 0 ∨ L ≤ 5 * n + 4) = False := i32_jx (by omega) (by omega)
  obtain ⟨w1, e1, c1, f1⟩ := H_leave (d := 0) (x := (xs (5 * n + 1))) h.1 F.1 F.2 hn (h.rm (by omega)) o
  have N1 : hp_N w1 0 = L := by rw [f1.N]; exact hN
  have X1 : hp_I w1 1 = xs := f1.2.1.trans hX
  obtain ⟨w2, e2, c2, f2⟩ := M_leave (d := 0) (c := (xs (5 * n + 1))) (h.2.1.lm f1.1) F.1 hn
  have h' := LI.next h c1 (by omega) f1 c2 f2 (F_leave F)
  have e3 := M_thrown (d := 8) c2
  simp only [Nat.reduceAdd] at e1 e2 e3
  unfold mo_15
  simp only [ob_s, ix1, ix2, ix3, ix4, n1, n2, n3, n4, q1, q2, q3, q4, x0k, if_false, hN, hX]
  rw [e1]
  simp only [bi_n, ob_s, ix1, ix2, ix3, ix4, n1, n2, n3, n4, q1, q2, q3, q4, x0k, if_false, N1, X1]
  rw [e2]
  simp only [bv_n, ob_s]
  rw [e3, bi_n, if_pos rfl]
  exact K.j (f' := f + 4) (by omega) h'
theorem o_change (h : LI L xs n w S) (hn : n < 512) (hL : L ≤ 2560) (hi : 5 * n + 4 < L) (K : LK L xs n f) : ∃ hf, mo_16 (kJ (f + 5)) 9 (kx_ev wx_M 9) (some 0) (some 1) (some 4363) (some 4393) (i32 (5 * n)) w = some (.inl (some (.inl 1)), hf) := by
  have o := h.2.2.2.2.2.1
  have hN := h.2.2.2.1
  have hX := h.2.2.2.2.1
  have F := h.2.2.1
  have n1 : (i32 (5 * n + 1)).toNatClampNeg = 5 * n + 1 := i32_nat (by omega)
  have n2 : (i32 (5 * n + 2)).toNatClampNeg = 5 * n + 2 := i32_nat (by omega)
  have n3 : (i32 (5 * n + 3)).toNatClampNeg = 5 * n + 3 := i32_nat (by omega)
  have n4 : (i32 (5 * n + 4)).toNatClampNeg = 5 * n + 4 := i32_nat (by omega)
  have q1 : (i32 (5 * n + 1) < 0 ∨ L ≤ 5 * n + 1) = False := i32_jx (by omega) (by omega)
  have q2 : (i32 (5 * n + 2) < 0 ∨ L ≤ 5 * n + 2) = False := i32_jx (by omega) (by omega)
  have q3 : (i32 (5 * n + 3) < 0 ∨ L ≤ 5 * n + 3) = False := i32_jx (by omega) (by omega)
  have q4 : (i32 (5 * n + 4) < 0 ∨ L ≤ 5 * n + 4) = False := i32_jx (by omega) (by omega)
  obtain ⟨w1, e1, c1, f1⟩ := H_change (d := 0) (x := (xs (5 * n + 1))) (y := (xs (5 * n + 2))) h.1 F.1 F.2 hn (h.rm (by omega)) o
  have N1 : hp_N w1 0 = L := by rw [f1.N]; exact hN
  have X1 : hp_I w1 1 = xs := f1.2.1.trans hX
  obtain ⟨w2, e2, c2, f2⟩ := M_change (d := 0) (c := (xs (5 * n + 1))) (x := (xs (5 * n + 2))) (h.2.1.lm f1.1) F.1 hn F.2.kd
  have h' := LI.next h c1 (by omega) f1 c2 f2 (F_change F)
  have e3 := M_thrown (d := 8) c2
  simp only [Nat.reduceAdd] at e1 e2 e3
  unfold mo_16
  simp only [ob_s, ix1, ix2, ix3, ix4, n1, n2, n3, n4, q1, q2, q3, q4, x0k, if_false, hN, hX]
  rw [e1]
  simp only [bi_n, ob_s, ix1, ix2, ix3, ix4, n1, n2, n3, n4, q1, q2, q3, q4, x0k, if_false, N1, X1]
  rw [e2]
  simp only [bv_n, ob_s]
  rw [e3, bi_n, if_pos rfl]
  exact K.j (f' := f + 4) (by omega) h'
theorem o_task (h : LI L xs n w S) (hn : n < 512) (hL : L ≤ 2560) (hi : 5 * n + 4 < L) (K : LK L xs n f) : ∃ hf, mo_18 (kJ (f + 5)) 9 (kx_ev wx_M 9) (some 0) (some 1) (some 4363) (some 4393) (i32 (5 * n)) w = some (.inl (some (.inl 1)), hf) := by
  have o := h.2.2.2.2.2.1
  have hN := h.2.2.2.1
  have hX := h.2.2.2.2.1
  have F := h.2.2.1
  have n1 : (i32 (5 * n + 1)).toNatClampNeg = 5 * n + 1 := i32_nat (by omega)
  have n2 : (i32 (5 * n + 2)).toNatClampNeg = 5 * n + 2 := i32_nat (by omega)
  have n3 : (i32 (5 * n + 3)).toNatClampNeg = 5 * n + 3 := i32_nat (by omega)
  have n4 : (i32 (5 * n + 4)).toNatClampNeg = 5 * n + 4 := i32_nat (by omega)
  have q1 : (i32 (5 * n + 1) < 0 ∨ L ≤ 5 * n + 1) = False := i32_jx (by omega) (by omega)
  have q2 : (i32 (5 * n + 2) < 0 ∨ L ≤ 5 * n + 2) = False := i32_jx (by omega) (by omega)
  have q3 : (i32 (5 * n + 3) < 0 ∨ L ≤ 5 * n + 3) = False := i32_jx (by omega) (by omega)
  have q4 : (i32 (5 * n + 4) < 0 ∨ L ≤ 5 * n + 4) = False := i32_jx (by omega) (by omega)
  obtain ⟨w1, e1, c1, a1, f1⟩ := H_task (d := 0) (x := (xs (5 * n + 1))) (y := (xs (5 * n + 2))) h.1 F.1 F.2 (h.rm (by omega)) o
  have N1 : hp_N w1 0 = L := by rw [f1.N]; exact hN
  have X1 : hp_I w1 1 = xs := f1.2.1.trans hX
  obtain ⟨w2, e2, c2, f2⟩ := M_task (d := 7) (c := (xs (5 * n + 1))) (x := (xs (5 * n + 2))) (h.2.1.lm f1.1) F.1
  have h' := LI.next h c1 (by omega) f1 c2 f2 (F_task F)
  have e3 := M_thrown (d := 8) c2
  simp only [Nat.reduceAdd] at e1 e2 e3
  unfold mo_18
  simp only [ob_s, ix1, ix2, ix3, ix4, n1, n2, n3, n4, q1, q2, q3, q4, x0k, if_false, hN, hX]
  rw [e1]
  simp only [bi_n, ob_s, ix1, ix2, ix3, ix4, n1, n2, n3, n4, q1, q2, q3, q4, x0k, if_false, N1, X1]
  rw [e2]
  simp only [bi_n, ob_s]
  rw [e3, bi_n, if_pos rfl]
  by_cases h0 : (pTask S (xs (5 * n + 1)) (xs (5 * n + 2))).1.th = 0
  · have ho : hp_L w2 8787 0 = (pTask S (xs (5 * n + 1)) (xs (5 * n + 2))).2.toInt64 := (congrFun (f2.l 8787 (Or.inr (by omega))) 0).trans (a1 h0)
    rw [if_pos h0, if_neg (o_ix h'.2.2.2.2.2.1), k8787, z32, ho]
    rw [if_pos ((lg_eq _ _).mpr rfl)]
    rw [mk_1310]
    unfold ml_1310
    exact K.j (f' := f + 3) (by omega) h'
  · rw [if_neg h0, mk_1310]
    unfold ml_1310
    exact K.j (f' := f + 3) (by omega) h'
theorem o_out (h : LI L xs n w S) (hn : n < 512) (hL : L ≤ 2560) (hi : 5 * n + 4 < L) (K : LK L xs n f) : ∃ hf, mo_19 (kJ (f + 5)) 9 (kx_ev wx_M 9) (some 0) (some 1) (some 4363) (some 4393) (i32 (5 * n)) w = some (.inl (some (.inl 1)), hf) := by
  have o := h.2.2.2.2.2.1
  have hN := h.2.2.2.1
  have hX := h.2.2.2.2.1
  have F := h.2.2.1
  have n1 : (i32 (5 * n + 1)).toNatClampNeg = 5 * n + 1 := i32_nat (by omega)
  have n2 : (i32 (5 * n + 2)).toNatClampNeg = 5 * n + 2 := i32_nat (by omega)
  have n3 : (i32 (5 * n + 3)).toNatClampNeg = 5 * n + 3 := i32_nat (by omega)
  have n4 : (i32 (5 * n + 4)).toNatClampNeg = 5 * n + 4 := i32_nat (by omega)
  have q1 : (i32 (5 * n + 1) < 0 ∨ L ≤ 5 * n + 1) = False := i32_jx (by omega) (by omega)
  have q2 : (i32 (5 * n + 2) < 0 ∨ L ≤ 5 * n + 2) = False := i32_jx (by omega) (by omega)
  have q3 : (i32 (5 * n + 3) < 0 ∨ L ≤ 5 * n + 3) = False := i32_jx (by omega) (by omega)
  have q4 : (i32 (5 * n + 4) < 0 ∨ L ≤ 5 * n + 4) = False := i32_jx (by omega) (by omega)
  obtain ⟨w1, e1, c1, a1, f1⟩ := H_out (d := 0) (x := (xs (5 * n + 1))) h.1 (h.rm (by omega)) o
  have N1 : hp_N w1 0 = L := by rw [f1.N]; exact hN
  have X1 : hp_I w1 1 = xs := f1.2.1.trans hX
  obtain ⟨w2, e2, c2, f2⟩ := M_outcome (d := 7) (x := (xs (5 * n + 1))) (h.2.1.lm f1.1) 
  have h' := LI.next h c1 (by omega) f1 c2 f2 (F_outc F)
  have e3 := M_thrown (d := 8) c2
  simp only [Nat.reduceAdd] at e1 e2 e3
  unfold mo_19
  simp only [ob_s, ix1, ix2, ix3, ix4, n1, n2, n3, n4, q1, q2, q3, q4, x0k, if_false, hN, hX]
  rw [e1]
  simp only [bi_n, ob_s, ix1, ix2, ix3, ix4, n1, n2, n3, n4, q1, q2, q3, q4, x0k, if_false, N1, X1]
  rw [e2]
  simp only [bl_n, ob_s]
  rw [e3, bi_n, if_pos rfl]
  by_cases h0 : (pOut S (xs (5 * n + 1))).1.th = 0
  · have ho : hp_L w2 8787 0 = (pOut S (xs (5 * n + 1))).2 := (congrFun (f2.l 8787 (Or.inr (by omega))) 0).trans (a1 h0)
    rw [if_pos h0, if_neg (o_ix h'.2.2.2.2.2.1), k8787, z32, ho]
    rw [if_pos ((lg_eq _ _).mpr rfl)]
    rw [mk_1365]
    unfold ml_1365
    exact K.j (f' := f + 3) (by omega) h'
  · rw [if_neg h0, mk_1365]
    unfold ml_1365
    exact K.j (f' := f + 3) (by omega) h'
theorem o_look (h : LI L xs n w S) (hn : n < 512) (hL : L ≤ 2560) (hi : 5 * n + 4 < L) (K : LK L xs n f) : ∃ hf, mo_20 (kJ (f + 5)) 9 (kx_ev wx_M 9) (some 0) (some 1) (some 4363) (some 4393) (i32 (5 * n)) w = some (.inl (some (.inl 1)), hf) := by
  have o := h.2.2.2.2.2.1
  have hN := h.2.2.2.1
  have hX := h.2.2.2.2.1
  have F := h.2.2.1
  have n1 : (i32 (5 * n + 1)).toNatClampNeg = 5 * n + 1 := i32_nat (by omega)
  have n2 : (i32 (5 * n + 2)).toNatClampNeg = 5 * n + 2 := i32_nat (by omega)
  have n3 : (i32 (5 * n + 3)).toNatClampNeg = 5 * n + 3 := i32_nat (by omega)
  have n4 : (i32 (5 * n + 4)).toNatClampNeg = 5 * n + 4 := i32_nat (by omega)
  have q1 : (i32 (5 * n + 1) < 0 ∨ L ≤ 5 * n + 1) = False := i32_jx (by omega) (by omega)
  have q2 : (i32 (5 * n + 2) < 0 ∨ L ≤ 5 * n + 2) = False := i32_jx (by omega) (by omega)
  have q3 : (i32 (5 * n + 3) < 0 ∨ L ≤ 5 * n + 3) = False := i32_jx (by omega) (by omega)
  have q4 : (i32 (5 * n + 4) < 0 ∨ L ≤ 5 * n + 4) = False := i32_jx (by omega) (by omega)
  obtain ⟨w1, e1, c1, a1, f1⟩ := H_look (d := 0) (x := (xs (5 * n + 1))) (y := (xs (5 * n + 2))) h.1 (h.rm (by omega)) o
  have N1 : hp_N w1 0 = L := by rw [f1.N]; exact hN
  have X1 : hp_I w1 1 = xs := f1.2.1.trans hX
  obtain ⟨w2, e2, c2, f2⟩ := M_look (d := 7) (c := (xs (5 * n + 1))) (x := (xs (5 * n + 2))) (h.2.1.lm f1.1) (by have := F.1.l.2; omega) (by have := F.1.l.1; omega)
  have h' := LI.next h c1 (by omega) f1 c2 f2 (F_look F)
  have e3 := M_thrown (d := 8) c2
  simp only [Nat.reduceAdd] at e1 e2 e3
  unfold mo_20
  simp only [ob_s, ix1, ix2, ix3, ix4, n1, n2, n3, n4, q1, q2, q3, q4, x0k, if_false, hN, hX]
  rw [e1]
  simp only [bi_n, ob_s, ix1, ix2, ix3, ix4, n1, n2, n3, n4, q1, q2, q3, q4, x0k, if_false, N1, X1]
  rw [e2]
  simp only [bi_n, ob_s]
  rw [e3, bi_n, if_pos rfl]
  by_cases h0 : (pLook S (xs (5 * n + 1)) (xs (5 * n + 2))).1.th = 0
  · have ho : hp_L w2 8787 0 = (pLook S (xs (5 * n + 1)) (xs (5 * n + 2))).2.toInt64 := (congrFun (f2.l 8787 (Or.inr (by omega))) 0).trans (a1 h0)
    rw [if_pos h0, if_neg (o_ix h'.2.2.2.2.2.1), k8787, z32, ho]
    rw [if_pos ((lg_eq _ _).mpr rfl)]
    rw [mk_1433]
    unfold ml_1433
    exact K.j (f' := f + 3) (by omega) h'
  · rw [if_neg h0, mk_1433]
    unfold ml_1433
    exact K.j (f' := f + 3) (by omega) h'
theorem o_watch (h : LI L xs n w S) (hn : n < 512) (hL : L ≤ 2560) (hi : 5 * n + 4 < L) (K : LK L xs n f) : ∃ hf, mo_21 (kJ (f + 5)) 9 (kx_ev wx_M 9) (some 0) (some 1) (some 4363) (some 4393) (i32 (5 * n)) w = some (.inl (some (.inl 1)), hf) := by
  have o := h.2.2.2.2.2.1
  have hN := h.2.2.2.1
  have hX := h.2.2.2.2.1
  have F := h.2.2.1
  have n1 : (i32 (5 * n + 1)).toNatClampNeg = 5 * n + 1 := i32_nat (by omega)
  have n2 : (i32 (5 * n + 2)).toNatClampNeg = 5 * n + 2 := i32_nat (by omega)
  have n3 : (i32 (5 * n + 3)).toNatClampNeg = 5 * n + 3 := i32_nat (by omega)
  have n4 : (i32 (5 * n + 4)).toNatClampNeg = 5 * n + 4 := i32_nat (by omega)
  have q1 : (i32 (5 * n + 1) < 0 ∨ L ≤ 5 * n + 1) = False := i32_jx (by omega) (by omega)
  have q2 : (i32 (5 * n + 2) < 0 ∨ L ≤ 5 * n + 2) = False := i32_jx (by omega) (by omega)
  have q3 : (i32 (5 * n + 3) < 0 ∨ L ≤ 5 * n + 3) = False := i32_jx (by omega) (by omega)
  have q4 : (i32 (5 * n + 4) < 0 ∨ L ≤ 5 * n + 4) = False := i32_jx (by omega) (by omega)
  obtain ⟨w1, e1, c1, a1, f1⟩ := H_watch (d := 0) (x := (xs (5 * n + 1))) (y := (xs (5 * n + 2))) h.1 F.1 (h.rm (by omega)) o
  have N1 : hp_N w1 0 = L := by rw [f1.N]; exact hN
  have X1 : hp_I w1 1 = xs := f1.2.1.trans hX
  obtain ⟨w2, e2, c2, f2⟩ := M_watch (d := 7) (c := (xs (5 * n + 1))) (x := (xs (5 * n + 2))) (h.2.1.lm f1.1) F.1
  have h' := LI.next h c1 (by omega) f1 c2 f2 (F_watch F)
  have e3 := M_thrown (d := 8) c2
  simp only [Nat.reduceAdd] at e1 e2 e3
  unfold mo_21
  simp only [ob_s, ix1, ix2, ix3, ix4, n1, n2, n3, n4, q1, q2, q3, q4, x0k, if_false, hN, hX]
  rw [e1]
  simp only [bi_n, ob_s, ix1, ix2, ix3, ix4, n1, n2, n3, n4, q1, q2, q3, q4, x0k, if_false, N1, X1]
  rw [e2]
  simp only [bi_n, ob_s]
  rw [e3, bi_n, if_pos rfl]
  by_cases h0 : (pWatch S (xs (5 * n + 1)) (xs (5 * n + 2))).1.th = 0
  · have ho : hp_L w2 8787 0 = (pWatch S (xs (5 * n + 1)) (xs (5 * n + 2))).2.toInt64 := (congrFun (f2.l 8787 (Or.inr (by omega))) 0).trans (a1 h0)
    rw [if_pos h0, if_neg (o_ix h'.2.2.2.2.2.1), k8787, z32, ho]
    rw [if_pos ((lg_eq _ _).mpr rfl)]
    rw [mk_1501]
    unfold ml_1501
    exact K.j (f' := f + 3) (by omega) h'
  · rw [if_neg h0, mk_1501]
    unfold ml_1501
    exact K.j (f' := f + 3) (by omega) h'
end OPS
