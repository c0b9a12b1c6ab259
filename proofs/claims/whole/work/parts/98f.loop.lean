/-! the other calls, and the loop -/
section OPT
variable {L n f : Nat} {xs : Nat → Int32} {w w' : kx_H} {S S' : kS}
theorem o_release (h : LI L xs n w S) (hn : n < 512) (hL : L ≤ 2560) (hi : 5 * n + 4 < L) (K : LK L xs n f) : ∃ hf, mo_5 (kJ (f + 5)) 9 (kx_ev wx_M 9) (some 0) (some 1) (some 4363) (some 4393) (i32 (5 * n)) w = some (.inl (some (.inl 1)), hf) := by
  have o := h.2.2.2.2.2.1
  have hN := h.2.2.2.1
  have hX := h.2.2.2.2.1
  have F := h.2.2.1
  have n1 : (i32 (5 * n + 1)).toNatClampNeg = 5 * n + 1 := i32_nat (by omega)
  have n2 : (i32 (5 * n + 2)).toNatClampNeg = 5 * n + 2 := i32_nat (by omega)
  have n3 : (i32 (5 * n + 3)).toNatClampNeg = 5 * n + 3 := i32_nat (by omega)
  have n4 : (i32 (5 * n + 4)).toNatClampNeg = 5 * n + 4 := i32_nat (by omega)
  have q1 : (i32 (5 * n + 1) < 0 ∨ L ≤ 5 * n + 1) = False := i32_jx (by omega) (by omega)
  have q2 : (i32 (5 * n + 2) < 0 ∨ L ≤ 5 * n + 2) = False := i32_jx (by omega) (by omega)
  have q3 : (i32 (5 * n + 3) < 0 ∨ L ≤ 5 * n + 3) = False := i32_jx (by omega) (by omega)
  have q4 : (i32 (5 * n + 4) < 0 ∨ L ≤ 5 * n + 4) = False := i32_jx (by omega) (by omega)
  obtain ⟨w1, e1, c1, f0⟩ := K_release (d := 1) (x := (xs (5 * n + 1))) h.1 F.1 F.2 hn
  have f1 := f0.fo
  have N1 : hp_N w1 0 = L := by rw [f1.N]; exact hN
  have X1 : hp_I w1 1 = xs := f1.2.1.trans hX
  obtain ⟨w2, e2, c2, f2⟩ := M_release (d := 1) (c := (xs (5 * n + 1))) (h.2.1.lm f1.1) F.1 hn
  have h' := LI.next h c1 (by omega) f1 c2 f2 (F_release F hn)
  simp only [Nat.reduceAdd] at e1 e2
  unfold mo_5
  simp only [ob_s, ix1, ix2, ix3, ix4, n1, n2, n3, n4, q1, q2, q3, q4, x0k, if_false, hN, hX]
  rw [e1]
  simp only [bi_n, ob_s, ix1, ix2, ix3, ix4, n1, n2, n3, n4, q1, q2, q3, q4, x0k, if_false, N1, X1]
  rw [e2]
  simp only [bi_n]
  rw [if_pos trivial]
  exact K.j (f' := f + 4) (by omega) h'
theorem o_current (h : LI L xs n w S) (hn : n < 512) (hL : L ≤ 2560) (hi : 5 * n + 4 < L) (K : LK L xs n f) : ∃ hf, mo_17 (kJ (f + 5)) 9 (kx_ev wx_M 9) (some 0) (some 1) (some 4363) (some 4393) (i32 (5 * n)) w = some (.inl (some (.inl 1)), hf) := by
  have o := h.2.2.2.2.2.1
  have hN := h.2.2.2.1
  have hX := h.2.2.2.2.1
  have F := h.2.2.1
  have n1 : (i32 (5 * n + 1)).toNatClampNeg = 5 * n + 1 := i32_nat (by omega)
  have n2 : (i32 (5 * n + 2)).toNatClampNeg = 5 * n + 2 := i32_nat (by omega)
  have n3 : (i32 (5 * n + 3)).toNatClampNeg = 5 * n + 3 := i32_nat (by omega)
  have n4 : (i32 (5 * n + 4)).toNatClampNeg = 5 * n + 4 := i32_nat (by omega)
  have q1 : (i32 (5 * n + 1) < 0 ∨ L ≤ 5 * n + 1) = False := i32_jx (by omega) (by omega)
  have q2 : (i32 (5 * n + 2) < 0 ∨ L ≤ 5 * n + 2) = False := i32_jx (by omega) (by omega)
  have q3 : (i32 (5 * n + 3) < 0 ∨ L ≤ 5 * n + 3) = False := i32_jx (by omega) (by omega)
  have q4 : (i32 (5 * n + 4) < 0 ∨ L ≤ 5 * n + 4) = False := i32_jx (by omega) (by omega)
  have e1 := K_current (d := 8) h.1 F.1.b.1
  obtain ⟨w2, e2, c2, f2⟩ := M_current (d := 8) h.2.1
  have F0 : FO w w := ⟨⟨fun _ _ => rfl, fun _ _ => rfl, fun _ _ => rfl, fun _ _ => rfl, rfl⟩, rfl, by omega, by omega⟩
  have h' := LI.next h (h.1.th 0) (by omega) F0 c2 f2 (F.th (by omega) 0)
  simp only [Nat.reduceAdd] at e1 e2
  unfold mo_17
  simp only [ob_s, ix1, ix2, ix3, ix4, n1, n2, n3, n4, q1, q2, q3, q4, x0k, if_false, hN, hX]
  rw [e1]
  simp only [bi_n, ob_s, ix1, ix2, ix3, ix4, n1, n2, n3, n4, q1, q2, q3, q4, x0k, if_false, hN, hX]
  rw [e2]
  simp only [bi_n]
  rw [if_pos trivial]
  exact K.j (f' := f + 4) (by omega) h'
theorem o_clock (h : LI L xs n w S) (hn : n < 512) (hL : L ≤ 2560) (hi : 5 * n + 4 < L) (K : LK L xs n f) : ∃ hf, mo_22 (kJ (f + 5)) 9 (kx_ev wx_M 9) (some 0) (some 1) (some 4363) (some 4393) (i32 (5 * n)) w = some (.inl (some (.inl 1)), hf) := by
  have o := h.2.2.2.2.2.1
  have hN := h.2.2.2.1
  have hX := h.2.2.2.2.1
  have F := h.2.2.1
  have n1 : (i32 (5 * n + 1)).toNatClampNeg = 5 * n + 1 := i32_nat (by omega)
  have n2 : (i32 (5 * n + 2)).toNatClampNeg = 5 * n + 2 := i32_nat (by omega)
  have n3 : (i32 (5 * n + 3)).toNatClampNeg = 5 * n + 3 := i32_nat (by omega)
  have n4 : (i32 (5 * n + 4)).toNatClampNeg = 5 * n + 4 := i32_nat (by omega)
  have q1 : (i32 (5 * n + 1) < 0 ∨ L ≤ 5 * n + 1) = False := i32_jx (by omega) (by omega)
  have q2 : (i32 (5 * n + 2) < 0 ∨ L ≤ 5 * n + 2) = False := i32_jx (by omega) (by omega)
  have q3 : (i32 (5 * n + 3) < 0 ∨ L ≤ 5 * n + 3) = False := i32_jx (by omega) (by omega)
  have q4 : (i32 (5 * n + 4) < 0 ∨ L ≤ 5 * n + 4) = False := i32_jx (by omega) (by omega)
  have e1 := K_clock (d := 8) h.1
  obtain ⟨w2, e2, c2, f2⟩ := M_clock (d := 8) h.2.1
  have F0 : FO w w := ⟨⟨fun _ _ => rfl, fun _ _ => rfl, fun _ _ => rfl, fun _ _ => rfl, rfl⟩, rfl, by omega, by omega⟩
  have h' := LI.next h (h.1.th 0) (by omega) F0 c2 f2 (F.th (by omega) 0)
  simp only [Nat.reduceAdd] at e1 e2
  unfold mo_22
  simp only [ob_s, ix1, ix2, ix3, ix4, n1, n2, n3, n4, q1, q2, q3, q4, x0k, if_false, hN, hX]
  rw [e1]
  simp only [bl_n, ob_s, ix1, ix2, ix3, ix4, n1, n2, n3, n4, q1, q2, q3, q4, x0k, if_false, hN, hX]
  rw [e2]
  simp only [bl_n]
  rw [if_pos ((lg_eq _ _).mpr rfl)]
  exact K.j (f' := f + 4) (by omega) h'
theorem o_count (h : LI L xs n w S) (hn : n < 512) (hL : L ≤ 2560) (hi : 5 * n + 4 < L) (K : LK L xs n f) : ∃ hf, mo_23 (kJ (f + 5)) 9 (kx_ev wx_M 9) (some 0) (some 1) (some 4363) (some 4393) (i32 (5 * n)) w = some (.inl (some (.inl 1)), hf) := by
  have o := h.2.2.2.2.2.1
  have hN := h.2.2.2.1
  have hX := h.2.2.2.2.1
  have F := h.2.2.1
  have n1 : (i32 (5 * n + 1)).toNatClampNeg = 5 * n + 1 := i32_nat (by omega)
  have n2 : (i32 (5 * n + 2)).toNatClampNeg = 5 * n + 2 := i32_nat (by omega)
  have n3 : (i32 (5 * n + 3)).toNatClampNeg = 5 * n + 3 := i32_nat (by omega)
  have n4 : (i32 (5 * n + 4)).toNatClampNeg = 5 * n + 4 := i32_nat (by omega)
  have q1 : (i32 (5 * n + 1) < 0 ∨ L ≤ 5 * n + 1) = False := i32_jx (by omega) (by omega)
  have q2 : (i32 (5 * n + 2) < 0 ∨ L ≤ 5 * n + 2) = False := i32_jx (by omega) (by omega)
  have q3 : (i32 (5 * n + 3) < 0 ∨ L ≤ 5 * n + 3) = False := i32_jx (by omega) (by omega)
  have q4 : (i32 (5 * n + 4) < 0 ∨ L ≤ 5 * n + 4) = False := i32_jx (by omega) (by omega)
  have e1 := K_count (d := 7) (x := (xs (5 * n + 1))) h.1 F.2
  obtain ⟨w2, e2, c2, f2⟩ := M_count (d := 7) (x := (xs (5 * n + 1))) h.2.1
  have F0 : FO w w := ⟨⟨fun _ _ => rfl, fun _ _ => rfl, fun _ _ => rfl, fun _ _ => rfl, rfl⟩, rfl, by omega, by omega⟩
  have h' := LI.next h (h.1.th 0) (by omega) F0 c2 f2 (F.th (by omega) 0)
  simp only [Nat.reduceAdd] at e1 e2
  unfold mo_23
  simp only [ob_s, ix1, ix2, ix3, ix4, n1, n2, n3, n4, q1, q2, q3, q4, x0k, if_false, hN, hX]
  rw [e1]
  simp only [bi_n, ob_s, ix1, ix2, ix3, ix4, n1, n2, n3, n4, q1, q2, q3, q4, x0k, if_false, hN, hX]
  rw [e2]
  simp only [bi_n]
  rw [if_pos trivial]
  exact K.j (f' := f + 4) (by omega) h'
theorem ob_offer (h : LI L xs n w S) (hn : n < 512) (hL : L ≤ 2560) (hi : 5 * n + 4 < L) (K : LK L xs n f) (b : Bool) (hb : (xs (5 * n + 2) = 0) = (b = false)) : ∃ hf, ml_756 (kJ (f + 4)) 9 (kx_ev wx_M 9) (some 0) (some 1) (some 4363) (some 4393) (i32 (5 * n)) (kx_b b) (xs (5 * n + 1)) (some 1) w = some (.inl (some (.inl 1)), hf) := by
  have o := h.2.2.2.2.2.1
  have hN := h.2.2.2.1
  have hX := h.2.2.2.2.1
  have F := h.2.2.1
  have n1 : (i32 (5 * n + 1)).toNatClampNeg = 5 * n + 1 := i32_nat (by omega)
  have n2 : (i32 (5 * n + 2)).toNatClampNeg = 5 * n + 2 := i32_nat (by omega)
  have n3 : (i32 (5 * n + 3)).toNatClampNeg = 5 * n + 3 := i32_nat (by omega)
  have n4 : (i32 (5 * n + 4)).toNatClampNeg = 5 * n + 4 := i32_nat (by omega)
  have q1 : (i32 (5 * n + 1) < 0 ∨ L ≤ 5 * n + 1) = False := i32_jx (by omega) (by omega)
  have q2 : (i32 (5 * n + 2) < 0 ∨ L ≤ 5 * n + 2) = False := i32_jx (by omega) (by omega)
  have q3 : (i32 (5 * n + 3) < 0 ∨ L ≤ 5 * n + 3) = False := i32_jx (by omega) (by omega)
  have q4 : (i32 (5 * n + 4) < 0 ∨ L ≤ 5 * n + 4) = False := i32_jx (by omega) (by omega)
  obtain ⟨w1, e1, c1, a1, f1⟩ := H_offer (d := 0) (x := (xs (5 * n + 1))) (b := b) (v := (((Int32.toInt64 (xs (5 * n + 3))) <<< ((32 : Int32).toInt64 &&& 63)) ||| ((Int32.toInt64 (xs (5 * n + 4))) &&& (4294967295 : Int64)))) h.1 F.1 F.2 hn (h.rm (by omega)) o
  have N1 : hp_N w1 0 = L := by rw [f1.N]; exact hN
  have X1 : hp_I w1 1 = xs := f1.2.1.trans hX
  obtain ⟨w2, e2, c2, f2⟩ := M_offerP (d := 1) (c := (xs (5 * n + 1))) (b := b) (v := (((Int32.toInt64 (xs (5 * n + 3))) <<< ((32 : Int32).toInt64 &&& 63)) ||| ((Int32.toInt64 (xs (5 * n + 4))) &&& (4294967295 : Int64)))) (h.2.1.lm f1.1) F.1 hn
  have h' := LI.next h c1 (by omega) f1 c2 f2 (F_offer F)
  have e3 := M_thrown (d := 8) c2
  simp only [Nat.reduceAdd] at e1 e2 e3
  have key : ∃ hf, kJ (f + 4) 805 [(0, kx_r 98 (some 0)), (1, kx_r 0 (some 1)), (2, kx_r 9 (some 4363)), (3, kx_r 100 (some 4393)), (4, kx_i (i32 (5 * n))), (5, kx_i (pOffer S (xs (5 * n + 1)) b (((Int32.toInt64 (xs (5 * n + 3))) <<< ((32 : Int32).toInt64 &&& 63)) ||| ((Int32.toInt64 (xs (5 * n + 4))) &&& (4294967295 : Int64)))).1.th)] [kx_i (kx_b b), kx_i (xs (5 * n + 1)), kx_r 9 (some 4363)] w1 = some (.inl (some (.inl 1)), hf) := by
    rw [mk_805]
    unfold ml_805
    simp only [ob_s, ix1, ix2, ix3, ix4, n1, n2, n3, n4, q1, q2, q3, q4, x0k, if_false, N1, X1]
    rw [e2]
    simp only [bi_n, ob_s]
    rw [e3, bi_n, if_pos rfl]
    by_cases h0 : (pOffer S (xs (5 * n + 1)) b (((Int32.toInt64 (xs (5 * n + 3))) <<< ((32 : Int32).toInt64 &&& 63)) ||| ((Int32.toInt64 (xs (5 * n + 4))) &&& (4294967295 : Int64)))).1.th = 0
    · have ho : hp_L w2 8787 0 = (pOffer S (xs (5 * n + 1)) b (((Int32.toInt64 (xs (5 * n + 3))) <<< ((32 : Int32).toInt64 &&& 63)) ||| ((Int32.toInt64 (xs (5 * n + 4))) &&& (4294967295 : Int64)))).2.toInt64 := (congrFun (f2.l 8787 (Or.inr (by omega))) 0).trans (a1 h0)
      rw [if_pos h0, if_neg (o_ix h'.2.2.2.2.2.1), k8787, z32, ho]
      rw [if_pos ((lg_eq _ _).mpr rfl)]
      rw [mk_860]
      unfold ml_860
      exact K.j (f' := f + 1) (by omega) h'
    · rw [if_neg h0, mk_860]
      unfold ml_860
      exact K.j (f' := f + 1) (by omega) h'
  unfold ml_756
  simp only [ob_s, ix1, ix2, ix3, ix4, n1, n2, n3, n4, q1, q2, q3, q4, x0k, if_false, hN, hX]
  rw [e1]
  simp only [bi_n, ob_s, ix1, ix2, ix3, ix4, n1, n2, n3, n4, q1, q2, q3, q4, x0k, if_false, N1, X1]
  cases b with
  | false => rw [if_pos (hb.mpr rfl)]; exact key
  | true => rw [if_neg (fun e => by have := hb.mp e; cases this)]; exact key
theorem o_offer (h : LI L xs n w S) (hn : n < 512) (hL : L ≤ 2560) (hi : 5 * n + 4 < L) (K : LK L xs n f) : ∃ hf, mo_10 (kJ (f + 5)) 9 (kx_ev wx_M 9) (some 0) (some 1) (some 4363) (some 4393) (i32 (5 * n)) w = some (.inl (some (.inl 1)), hf) := by
  have o := h.2.2.2.2.2.1
  have hN := h.2.2.2.1
  have hX := h.2.2.2.2.1
  have F := h.2.2.1
  have n1 : (i32 (5 * n + 1)).toNatClampNeg = 5 * n + 1 := i32_nat (by omega)
  have n2 : (i32 (5 * n + 2)).toNatClampNeg = 5 * n + 2 := i32_nat (by omega)
  have n3 : (i32 (5 * n + 3)).toNatClampNeg = 5 * n + 3 := i32_nat (by omega)
  have n4 : (i32 (5 * n + 4)).toNatClampNeg = 5 * n + 4 := i32_nat (by omega)
  have q1 : (i32 (5 * n + 1) < 0 ∨ L ≤ 5 * n + 1) = False := i32_jx (by omega) (by omega)
  have q2 : (i32 (5 * n + 2) < 0 ∨ L ≤ 5 * n + 2) = False := i32_jx (by omega) (by omega)
  have q3 : (i32 (5 * n + 3) < 0 ∨ L ≤ 5 * n + 3) = False := i32_jx (by omega) (by omega)
  have q4 : (i32 (5 * n + 4) < 0 ∨ L ≤ 5 * n + 4) = False := i32_jx (by omega) (by omega)
  unfold mo_10
  simp only [ob_s, ix1, ix2, ix3, ix4, n1, n2, n3, n4, q1, q2, q3, q4, x0k, if_false, hN, hX]
  by_cases hb : xs (5 * n + 2) = 0
  · rw [if_pos hb, mk_756]
    exact ob_offer h hn hL hi K false (by simp [hb])
  · rw [if_neg hb, mk_756]
    exact ob_offer h hn hL hi K true (by simp [hb])
theorem ob_choose (h : LI L xs n w S) (hn : n < 512) (hL : L ≤ 2560) (hi : 5 * n + 4 < L) (K : LK L xs n f) (b : Bool) (hb : (xs (5 * n + 2) = 0) = (b = false)) : ∃ hf, ml_884 (kJ (f + 4)) 9 (kx_ev wx_M 9) (some 0) (some 1) (some 4363) (some 4393) (i32 (5 * n)) (kx_b b) (xs (5 * n + 1)) (some 1) w = some (.inl (some (.inl 1)), hf) := by
  have o := h.2.2.2.2.2.1
  have hN := h.2.2.2.1
  have hX := h.2.2.2.2.1
  have F := h.2.2.1
  have n1 : (i32 (5 * n + 1)).toNatClampNeg = 5 * n + 1 := i32_nat (by omega)
  have n2 : (i32 (5 * n + 2)).toNatClampNeg = 5 * n + 2 := i32_nat (by omega)
  have n3 : (i32 (5 * n + 3)).toNatClampNeg = 5 * n + 3 := i32_nat (by omega)
  have n4 : (i32 (5 * n + 4)).toNatClampNeg = 5 * n + 4 := i32_nat (by omega)
  have q1 : (i32 (5 * n + 1) < 0 ∨ L ≤ 5 * n + 1) = False := i32_jx (by omega) (by omega)
  have q2 : (i32 (5 * n + 2) < 0 ∨ L ≤ 5 * n + 2) = False := i32_jx (by omega) (by omega)
  have q3 : (i32 (5 * n + 3) < 0 ∨ L ≤ 5 * n + 3) = False := i32_jx (by omega) (by omega)
  have q4 : (i32 (5 * n + 4) < 0 ∨ L ≤ 5 * n + 4) = False := i32_jx (by omega) (by omega)
  obtain ⟨w1, e1, c1, a1, f1⟩ := H_choose (d := 0) (x := (xs (5 * n + 1))) (b := b) h.1 F.1 F.2 hn (h.rm (by omega)) o
  have N1 : hp_N w1 0 = L := by rw [f1.N]; exact hN
  have X1 : hp_I w1 1 = xs := f1.2.1.trans hX
  obtain ⟨w2, e2, c2, f2⟩ := M_choose (d := 1) (c := (xs (5 * n + 1))) (b := b) (h.2.1.lm f1.1) F.1 hn
  have h' := LI.next h c1 (by omega) f1 c2 f2 (F_choose F)
  have e3 := M_thrown (d := 8) c2
  simp only [Nat.reduceAdd] at e1 e2 e3
  have key : ∃ hf, kJ (f + 4) 911 [(0, kx_r 98 (some 0)), (1, kx_r 0 (some 1)), (2, kx_r 9 (some 4363)), (3, kx_r 100 (some 4393)), (4, kx_i (i32 (5 * n))), (5, kx_i (pChoose S (xs (5 * n + 1)) b).1.th)] [kx_i (kx_b b), kx_i (xs (5 * n + 1)), kx_r 9 (some 4363)] w1 = some (.inl (some (.inl 1)), hf) := by
    rw [mk_911]
    unfold ml_911
    simp only [ob_s, ix1, ix2, ix3, ix4, n1, n2, n3, n4, q1, q2, q3, q4, x0k, if_false, N1, X1]
    rw [e2]
    simp only [bi_n, ob_s]
    rw [e3, bi_n, if_pos rfl]
    by_cases h0 : (pChoose S (xs (5 * n + 1)) b).1.th = 0
    · have ho : hp_L w2 8787 0 = l01 (pChoose S (xs (5 * n + 1)) b).2 := (congrFun (f2.l 8787 (Or.inr (by omega))) 0).trans (a1 h0)
      rw [if_pos h0, if_neg (o_ix h'.2.2.2.2.2.1), k8787, z32, ho]
      cases hc : (pChoose S (xs (5 * n + 1)) b).2 with
      | false =>
        rw [kx_b_f, if_pos rfl, mk_945]
        unfold ml_945
        rw [if_pos l01_false, mk_951]
        unfold ml_951
        exact K.j (f' := f) (by omega) h'
      | true =>
        rw [kx_b_t, if_neg (by decide), mk_945]
        unfold ml_945
        rw [if_pos l01_true, mk_951]
        unfold ml_951
        exact K.j (f' := f) (by omega) h'
    · rw [if_neg h0, mk_951]
      unfold ml_951
      exact K.j (f' := f + 1) (by omega) h'
  unfold ml_884
  simp only [ob_s, ix1, ix2, ix3, ix4, n1, n2, n3, n4, q1, q2, q3, q4, x0k, if_false, hN, hX]
  rw [e1]
  simp only [bi_n, ob_s, ix1, ix2, ix3, ix4, n1, n2, n3, n4, q1, q2, q3, q4, x0k, if_false, N1, X1]
  cases b with
  | false => rw [if_pos (hb.mpr rfl)]; exact key
  | true => rw [if_neg (fun e => by have := hb.mp e; cases this)]; exact key
theorem o_choose (h : LI L xs n w S) (hn : n < 512) (hL : L ≤ 2560) (hi : 5 * n + 4 < L) (K : LK L xs n f) : ∃ hf, mo_11 (kJ (f + 5)) 9 (kx_ev wx_M 9) (some 0) (some 1) (some 4363) (some 4393) (i32 (5 * n)) w = some (.inl (some (.inl 1)), hf) := by
  have o := h.2.2.2.2.2.1
  have hN := h.2.2.2.1
  have hX := h.2.2.2.2.1
  have F := h.2.2.1
  have n1 : (i32 (5 * n + 1)).toNatClampNeg = 5 * n + 1 := i32_nat (by omega)
  have n2 : (i32 (5 * n + 2)).toNatClampNeg = 5 * n + 2 := i32_nat (by omega)
  have n3 : (i32 (5 * n + 3)).toNatClampNeg = 5 * n + 3 := i32_nat (by omega)
  have n4 : (i32 (5 * n + 4)).toNatClampNeg = 5 * n + 4 := i32_nat (by omega)
  have q1 : (i32 (5 * n + 1) < 0 ∨ L ≤ 5 * n + 1) = False := i32_jx (by omega) (by omega)
  have q2 : (i32 (5 * n + 2) < 0 ∨ L ≤ 5 * n + 2) = False := i32_jx (by omega) (by omega)
  have q3 : (i32 (5 * n + 3) < 0 ∨ L ≤ 5 * n + 3) = False := i32_jx (by omega) (by omega)
  have q4 : (i32 (5 * n + 4) < 0 ∨ L ≤ 5 * n + 4) = False := i32_jx (by omega) (by omega)
  unfold mo_11
  simp only [ob_s, ix1, ix2, ix3, ix4, n1, n2, n3, n4, q1, q2, q3, q4, x0k, if_false, hN, hX]
  by_cases hb : xs (5 * n + 2) = 0
  · rw [if_pos hb, mk_884]
    exact ob_choose h hn hL hi K false (by simp [hb])
  · rw [if_neg hb, mk_884]
    exact ob_choose h hn hL hi K true (by simp [hb])
theorem o_round (h : LI L xs n w S) (hn : n < 512) (hL : L ≤ 2560) (hi : 5 * n + 4 < L) (K : LK L xs n f) : LG (f + 6) (5 * n) w := by
  have hN := h.2.2.2.1
  have n0 : (i32 (5 * n)).toNatClampNeg = 5 * n := i32_nat (by omega)
  unfold LG
  rw [mk_23]
  rw [ml_sw]
  · rw [n0]
    by_cases z0 : hp_I w 1 (5 * n) &&& 31 = 0
    · rw [if_pos z0]
      exact o_spawn h hn hL hi K
    rw [if_neg z0]
    by_cases z1 : hp_I w 1 (5 * n) &&& 31 = 1
    · rw [if_pos z1]
      exact o_way h hn hL hi K
    rw [if_neg z1]
    by_cases z2 : hp_I w 1 (5 * n) &&& 31 = 2
    · rw [if_pos z2]
      exact o_finish h hn hL hi K
    rw [if_neg z2]
    by_cases z3 : hp_I w 1 (5 * n) &&& 31 = 3
    · rw [if_pos z3]
      exact o_sleep h hn hL hi K
    rw [if_neg z3]
    by_cases z4 : hp_I w 1 (5 * n) &&& 31 = 4
    · rw [if_pos z4]
      exact o_channel h hn hL hi K
    rw [if_neg z4]
    by_cases z5 : hp_I w 1 (5 * n) &&& 31 = 5
    · rw [if_pos z5]
      exact o_release h hn hL hi K
    rw [if_neg z5]
    by_cases z6 : hp_I w 1 (5 * n) &&& 31 = 6
    · rw [if_pos z6]
      exact o_alarm h hn hL hi K
    rw [if_neg z6]
    by_cases z7 : hp_I w 1 (5 * n) &&& 31 = 7
    · rw [if_pos z7]
      exact o_send h hn hL hi K
    rw [if_neg z7]
    by_cases z8 : hp_I w 1 (5 * n) &&& 31 = 8
    · rw [if_pos z8]
      exact o_recv h hn hL hi K
    rw [if_neg z8]
    by_cases z9 : hp_I w 1 (5 * n) &&& 31 = 9
    · rw [if_pos z9]
      exact o_close h hn hL hi K
    rw [if_neg z9]
    by_cases z10 : hp_I w 1 (5 * n) &&& 31 = 10
    · rw [if_pos z10]
      exact o_offer h hn hL hi K
    rw [if_neg z10]
    by_cases z11 : hp_I w 1 (5 * n) &&& 31 = 11
    · rw [if_pos z11]
      exact o_choose h hn hL hi K
    rw [if_neg z11]
    by_cases z12 : hp_I w 1 (5 * n) &&& 31 = 12
    · rw [if_pos z12]
      exact o_gate h hn hL hi K
    rw [if_neg z12]
    by_cases z13 : hp_I w 1 (5 * n) &&& 31 = 13
    · rw [if_pos z13]
      exact o_enter h hn hL hi K
    rw [if_neg z13]
    by_cases z14 : hp_I w 1 (5 * n) &&& 31 = 14
    · rw [if_pos z14]
      exact o_read h hn hL hi K
    rw [if_neg z14]
    by_cases z15 : hp_I w 1 (5 * n) &&& 31 = 15
    · rw [if_pos z15]
      exact o_leave h hn hL hi K
    rw [if_neg z15]
    by_cases z16 : hp_I w 1 (5 * n) &&& 31 = 16
    · rw [if_pos z16]
      exact o_change h hn hL hi K
    rw [if_neg z16]
    by_cases z17 : hp_I w 1 (5 * n) &&& 31 = 17
    · rw [if_pos z17]
      exact o_current h hn hL hi K
    rw [if_neg z17]
    by_cases z18 : hp_I w 1 (5 * n) &&& 31 = 18
    · rw [if_pos z18]
      exact o_task h hn hL hi K
    rw [if_neg z18]
    by_cases z19 : hp_I w 1 (5 * n) &&& 31 = 19
    · rw [if_pos z19]
      exact o_out h hn hL hi K
    rw [if_neg z19]
    by_cases z20 : hp_I w 1 (5 * n) &&& 31 = 20
    · rw [if_pos z20]
      exact o_look h hn hL hi K
    rw [if_neg z20]
    by_cases z21 : hp_I w 1 (5 * n) &&& 31 = 21
    · rw [if_pos z21]
      exact o_watch h hn hL hi K
    rw [if_neg z21]
    by_cases z22 : hp_I w 1 (5 * n) &&& 31 = 22
    · rw [if_pos z22]
      exact o_clock h hn hL hi K
    rw [if_neg z22]
    by_cases z23 : hp_I w 1 (5 * n) &&& 31 = 23
    · rw [if_pos z23]
      exact o_count h hn hL hi K
    rw [if_neg z23]
    have h' : LI L xs (n + 1) w S := by
      obtain ⟨h1, h2, h3, h4, h5, h6, h7, h8⟩ := h
      refine ⟨h1.mono (by omega), h2, ?_, h4, h5, h6, by omega, by omega⟩
      have := h3.th (n' := n + 1) (by omega) S.th
      exact this
    exact K.j (f' := f + 4) (by omega) h'
  · rw [hN]
    show ¬ i32 L - i32 5 < i32 (5 * n)
    rw [i32_sub (by omega), i32_lt (by omega) (by omega)]
    omega
  · rw [hN, n0, i32_jx (by omega) (by omega)]
    exact id
theorem o_end (h : LI L xs n w S) (hn : n ≤ 512) (hL : L ≤ 2560) (hi : L < 5 * n + 5) : LG (f + 1) (5 * n) w := by
  have hN := h.2.2.2.1
  unfold LG
  rw [mk_23]
  unfold ml_23
  rw [ob_s, if_pos]
  · exact ⟨w, rfl⟩
  · rw [hN]
    show i32 L - i32 5 < i32 (5 * n)
    by_cases h5 : 5 ≤ L
    · rw [i32_sub h5, i32_lt (by omega) (by omega)]
      omega
    · have hz : L = 0 ∨ L = 1 ∨ L = 2 ∨ L = 3 ∨ L = 4 := by omega
      have hlt : i32 L - i32 5 < 0 := by
        rcases hz with rfl | rfl | rfl | rfl | rfl <;> decide
      have hge := i32_ge (n := 5 * n) (by omega)
      have hge' : (0 : Int32) ≤ i32 (5 * n) := by rw [hge]; trivial
      rw [Int32.lt_iff_toInt_lt] at hlt ⊢
      rw [Int32.le_iff_toInt_le] at hge'
      omega
/-- every script ends well, from a good start -/
theorem o_loop (hL : L ≤ 2560) : ∀ (k n f : Nat) (w : kx_H) (S : kS), n + k = 512 → 6 * k + 1 ≤ f → LI L xs n w S → LG f (5 * n) w := by
  intro k
  induction k with
  | zero =>
    intro n f w S hk hf h
    obtain ⟨g, rfl⟩ : ∃ g, f = g + 1 := ⟨f - 1, by omega⟩
    exact o_end h (by omega) hL (by omega)
  | succ k ih =>
    intro n f w S hk hf h
    by_cases hi : 5 * n + 4 < L
    · obtain ⟨g, rfl⟩ : ∃ g, f = g + 6 := ⟨f - 6, by omega⟩
      refine o_round h (by omega) hL hi (fun f' w' S' hf' h' => ?_)
      exact ih (n + 1) f' w' S' (by omega) (by omega) h'
    · obtain ⟨g, rfl⟩ : ∃ g, f = g + 1 := ⟨f - 1, by omega⟩
      exact o_end h (by omega) hL (by omega)
end OPT
