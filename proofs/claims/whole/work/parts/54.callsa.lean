/-! the model's calls: channels -/
theorem isCh_t {S : kS} {c : Int32} (h : isCh S c = true) : ∃ k, k < 512 ∧ c = i32 k ∧ hp_B S.m 8745 k = true := by
  unfold isCh at h
  rw [decide_eq_true_eq] at h
  obtain ⟨h1, h2, h3⟩ := h
  obtain ⟨k, h4, rfl⟩ := i32_of_lt (n := 512) (by omega) (by rw [nlt_le]; exact h1) h2
  rw [i32_nat (by omega)] at h3
  exact ⟨k, h4, rfl, h3⟩
theorem isTa_t {S : kS} {c : Int32} (h : isTa S c = true) : ∃ k, k < 256 ∧ c = i32 k ∧ hp_B S.m 8729 k = true := by
  unfold isTa at h
  rw [decide_eq_true_eq] at h
  obtain ⟨h1, h2, h3⟩ := h
  obtain ⟨k, h4, rfl⟩ := i32_of_lt (n := 256) (by omega) (by rw [nlt_le]; exact h1) h2
  rw [i32_nat (by omega)] at h3
  exact ⟨k, h4, rfl, h3⟩
theorem isGa_t {S : kS} {c : Int32} (hg : S.gates ≤ 256) (h : isGa S c = true) : ∃ k, k < S.gates ∧ c = i32 k := by
  unfold isGa at h
  rw [decide_eq_true_eq] at h
  obtain ⟨h1, h2⟩ := h
  obtain ⟨k, h4, rfl⟩ := i32_of_lt (n := S.gates) (by omega) (by rw [nlt_le]; exact h1) h2
  exact ⟨k, h4, rfl⟩
section CA
variable {w : kx_H} {d n : Nat} {S : kS} {c x : Int32} {v : Int64} {b : Bool}
theorem cu_n (M : MR w S) (h : S.cur = none) : hp_I w 1802 4363 = -1 := by rw [M.cu, h]; rfl
theorem cu_s {t : Nat} (M : MR w S) (h : S.cur = some t) : hp_I w 1802 4363 = i32 t := by rw [M.cu, h]; rfl
theorem kx_b_ok (b : Bool) : (kx_b b = 0 ∨ kx_b b = 1) := by cases b <;> simp [kx_b]
theorem M_send (M : MR w S) (I : SI S n) (hn : n < 512) : ∃ w', kx_ev wx_M (d + 8) 98 [kx_r 9 (some 4363), kx_i c, kx_l v] w = some (.inl (some (.inl (kx_b (pSend S c v).2))), w') ∧ MR w' (pSend S c v).1 ∧ FM w w' := by
  obtain ⟨M0, F0⟩ := M_th (x := 0) M
  obtain ⟨r1808, r1810, r1812, r1814, r1816, r1818, r1820, r1824, r1826, r1828, r1830, r1836, r1838, r1842, r1844, r1846, r1848, r1850, r1854, r1856, r1858, r1862, r1864, r1866, r1870, r1872, r1874, r1878, r1880, n4364, n4365, n4366, n4367, n4368, n4369, n4370, n4371, n4372, n4373, n4374, n4375, n4376, n4377, n4378, n4379, n4380, n4381, n4382, n4383, n4384, n4385, n4386, n4387, n4388, n4389, n4390, n4391, n4392⟩ := id M.sh
  have ch := M_isCh (d := d + 6) (x := c) M0
  have ch' : isCh (sTh S 0) c = isCh S c := rfl
  rw [ch'] at ch
  have hl1 := I.l.1
  have hl2 := I.l.2
  unfold pSend
  by_cases hA : c ≠ -1 ∧ isCh S c = false
  · rw [if_pos hA]
    obtain ⟨w1, a1, M1, F1⟩ := M_no (d := d + 6) (x := 1) M0
    refine ⟨w1, ?_, M1, F0.tr F1⟩
    obtain ⟨ψ, hψ⟩ := kx_fu
    rw [mE_98 hψ]
    unfold mb_98_0
    rw [hA.2] at ch
    simp only [ob_s, if_neg hA.1, ch, bi_n, kx_b_f, if_true, a1]
    rfl
  · rw [if_neg hA]
    obtain ⟨ψ, hψ⟩ := kx_fu
    have hv : c = -1 ∨ isCh S c = true := by
      by_cases h1 : c = -1
      · exact Or.inl h1
      · right
        cases h2 : isCh S c with
        | true => rfl
        | false => exact absurd ⟨h1, h2⟩ hA
    have st : kx_ev wx_M (d + 8) 98 [kx_r 9 (some 4363), kx_i c, kx_l v] w = kx_ex (wm_98 (d + 7) (kx_ev wx_M (d + 7))) (ψ + 1 + 1 + 1 + 1 + 1 + 1 + 1 + 1 + 1 + 1) 24 [(0, kx_r 9 (some 4363)), (1, kx_i c), (2, kx_l v)] [] (hp_sI w 1800 4363 0) := by
      rw [mE_98 hψ]
      unfold mb_98_0
      by_cases h1 : c = -1
      · simp only [ob_s, if_pos h1]
      · have h2 : isCh S c = true := hv.resolve_left h1
        rw [h2] at ch
        simp only [ob_s, if_neg h1, ch, bi_n, kx_b_t]
        rfl
    rw [st, me_98_24]
    unfold mb_98_24
    cases hc : S.cur with
    | none =>
      obtain ⟨w1, a1, M1, F1⟩ := M_no (d := d + 6) (x := 2) M0
      refine ⟨w1, ?_, M1, F0.tr F1⟩
      simp only [ob_s, cu_n M0 hc, a1, bi_n]
      rfl
    | some t =>
      have ht := I.b.cu t hc
      have h0 := I.cs t hc
      have hnin := I.b.nin0 h0
      simp only [ob_s, cu_s M0 hc, i32_ge (n := t) (by omega), if_true]
      have my : kx_ev wx_M (d + 7) 100 [kx_r 9 (some 4363), kx_i c] (hp_sI w 1800 4363 0) = some (.inl (some (.inl (kx_b (maySend S c)))), hp_sI w 1800 4363 0) := by
        refine M_mayS (d := d + 5) (S := sTh S 0) M0 (by show S.mo.length ≤ 4352; omega) (by show S.mv.length ≤ 8192; omega) ?_
        rcases hv with rfl | h2
        · exact Or.inl (by decide)
        · obtain ⟨k, h3, h4, -⟩ := isCh_t h2
          exact Or.inr ⟨k, h3, h4⟩
      rcases hv with rfl | h2
      · rw [if_pos (show (-1 : Int32) < 0 by decide), me_98_56]
        unfold mb_98_56
        have hms : maySend S (-1) = false := by unfold maySend; exact decide_eq_false (fun h => absurd h.1 (by decide))
        rw [hms] at my
        have BR := SB.rest (how := 7) (place := -1) I.b hnin ht [] [] [] (by simp) (Or.inl rfl) (Or.inl rfl)
        simp only [List.append_nil] at BR
        obtain ⟨w1, a1, M1, F1⟩ := M_rest (d := d) (k := n + 1) (how := 7) (place := -1) (S := sTh S 0) M0 hc ht BR ⟨by show S.mv.length + S.me.length ≤ _; omega, by show S.mo.length + S.mt.length ≤ _; omega⟩ (by omega) I.a
        rw [if_neg (show ¬ ((0 : Int32) ≤ -1 ∧ sClosed S (Int32.toNatClampNeg (-1)) = true) from fun h => absurd h.1 (by decide)), hms, if_neg (show ¬ false = true by simp), if_neg (show ¬ (0 : Int32) ≤ -1 by decide)]
        refine ⟨w1, ?_, And.intro M1 (F0.tr F1)⟩
        simp only [ob_s, my, bi_n, kx_b_f, if_true, if_pos (show (-1 : Int32) < 0 by decide), me_98_100, mb_98_100, if_neg (show ¬ (0 : Int32) ≤ -1 by decide), me_98_111, mb_98_111, a1, bv_n]
        rfl
      · obtain ⟨k, h3, rfl, h4⟩ := isCh_t h2
        have hk : (512 ≤ k) = False := by simp; omega
        have ac := M0.ag.B 8747 (by decide) k
        have ac' : hp_B (sTh S 0).m 8747 k = sClosed S k := rfl
        rw [ac'] at ac
        have hnat := i32_nat (n := k) (by omega)
        have hge := i32_ge (n := k) (by omega)
        simp only [hnat, hge, true_and]
        rw [if_neg (show ¬ i32 k < 0 by rw [i32_neg (by omega)]; simp)]
        simp only [ob_s, hR_I, hR_L, hR_B, hN_I, hN_L, hN_B, r1808, r1810, r1812, r1814, r1816, r1818, r1820, r1824, r1826, r1828, r1830, r1836, r1838, r1842, r1844, r1846, r1848, r1850, r1854, r1856, r1858, r1862, r1864, r1866, r1870, r1872, r1874, r1878, r1880, n4364, n4365, n4366, n4367, n4368, n4369, n4370, n4371, n4372, n4373, n4374, n4375, n4376, n4377, n4378, n4379, n4380, n4381, n4382, n4383, n4384, n4385, n4386, n4387, n4388, n4389, n4390, n4391, n4392, Nat.reduceMul, Nat.reduceAdd, Nat.reduceEqDiff, false_and, if_false, i32_neg (n := k) (by omega), hk, or_self, hnat, ac, kx_b_0]
        cases hcl : sClosed S k with
        | true =>
          obtain ⟨w1, a1, M1, F1⟩ := M_no (d := d + 6) (x := 3) M0
          simp only [eq_self, reduceCtorEq, if_true, if_false]
          refine ⟨w1, ?_, And.intro M1 (F0.tr F1)⟩
          simp only [a1, bi_n]
          rfl
        | false =>
          simp only [eq_self, reduceCtorEq, if_true, if_false]
          rw [me_98_56]
          unfold mb_98_56
          cases hms : maySend S (i32 k) with
          | true =>
            simp only [eq_self, reduceCtorEq, if_true, if_false]
            rw [hms] at my
            obtain ⟨w1, a1, M1, F1⟩ := M_del (d := d + 4) (v := v) (L := S.me) M0 (SB.th I.b) (by show S.mo.length ≤ 4352; omega) (by show S.mv.length < 8192; omega) h3
            have hcu : (sDel (sTh S 0) k v).cur = some t := by
              unfold sDel
              cases sFst (sTh S 0) k false <;> exact hc
            obtain ⟨w2, a2, M2, F2⟩ := M_has (d := d + 6) (t := t) (n := 0) (f := true) (x := -1) (b := false) M1 ht
            rw [kx_b_t, kx_b_f] at a2
            refine ⟨w2, ?_, And.intro M2 ((F0.tr F1).tr F2)⟩
            simp only [ob_s, my, bi_n, kx_b_t, a1, bv_n, cu_s M1 hcu, a2]
            rfl
          | false =>
            simp only [eq_self, reduceCtorEq, if_true, if_false]
            rw [hms] at my
            obtain ⟨w1, a1, M1, F1⟩ := M_offer (d := d + 6) (t := t) (c := k) (b := true) (v := v) (j := -1) M0 ht h3 (by show S.mo.length < 4352; omega)
            have BR := SB.rest (how := 2) (place := i32 k) I.b hnin ht [(t, k, true, v, -1)] [] [] (by simp [h3]) (Or.inl rfl) (Or.inl rfl)
            simp only [List.append_nil] at BR
            obtain ⟨w2, a2, M2, F2⟩ := M_rest (d := d) (k := n + 1) (how := 2) (place := i32 k) (S := (kS.s_mo ((kS.s_th S (0))) (S.mo ++ [(t, k, true, v, -1)]))) M1 hc ht BR ⟨by show S.mv.length + S.me.length ≤ _; omega, by show (S.mo ++ [_]).length + S.mt.length ≤ _; simp; omega⟩ (by omega) I.a
            rw [kx_b_t] at a1
            refine ⟨w2, ?_, And.intro M2 ((F0.tr F1).tr F2)⟩
            simp only [ob_s, my, bi_n, kx_b_f, if_true, if_neg (show ¬ i32 k < 0 by rw [i32_neg (by omega)]; simp), cu_s M0 hc, a1, bv_n, me_98_100, mb_98_100, hge, me_98_111, mb_98_111, a2]
            rfl
end CA
