/-! the model's calls: channels, the others -/
section CB
variable {w : kx_H} {d n : Nat} {S : kS} {c x : Int32} {v : Int64} {b : Bool}
theorem ch_or (hA : ¬ (c ≠ -1 ∧ isCh S c = false)) : c = -1 ∨ isCh S c = true := by
  by_cases h1 : c = -1
  · exact Or.inl h1
  · right
    cases h2 : isCh S c with
    | true => rfl
    | false => exact absurd ⟨h1, h2⟩ hA
theorem cur_or (S : kS) : S.cur = none ∨ ∃ t, S.cur = some t := by
  cases S.cur with
  | none => exact Or.inl rfl
  | some t => exact Or.inr ⟨t, rfl⟩
theorem M_recv (M : MR w S) (I : SI S n) (hn : n < 512) : ∃ w', kx_ev wx_M (d + 8) 112 [kx_r 9 (some 4363), kx_i c] w = some (.inl (some (.inl (kx_b (pRecv S c).2))), w') ∧ MR w' (pRecv S c).1 ∧ FM w w' := by
  obtain ⟨M0, F0⟩ := M_th (x := 0) M
  have ch := M_isCh (d := d + 6) (x := c) M0
  have ch' : isCh (sTh S 0) c = isCh S c := rfl
  rw [ch'] at ch
  have hl1 := I.l.1
  have hl2 := I.l.2
  unfold pRecv
  by_cases hA : c ≠ -1 ∧ isCh S c = false
  · rw [if_pos hA]
    obtain ⟨w1, a1, M1, F1⟩ := M_no (d := d + 6) (x := 1) M0
    refine ⟨w1, ?_, M1, F0.tr F1⟩
    obtain ⟨ψ, hψ⟩ := kx_fu
    rw [mE_112 hψ]
    unfold mb_112_0
    rw [hA.2] at ch
    simp only [ob_s, if_neg hA.1, ch, bi_n, kx_b_f, if_true, a1]
    rfl
  · rw [if_neg hA]
    obtain ⟨ψ, hψ⟩ := kx_fu
    have hv := ch_or hA
    have st : kx_ev wx_M (d + 8) 112 [kx_r 9 (some 4363), kx_i c] w = kx_ex (wm_112 (d + 7) (kx_ev wx_M (d + 7))) (ψ + 1 + 1 + 1 + 1 + 1 + 1 + 1 + 1 + 1 + 1) 24 [(0, kx_r 9 (some 4363)), (1, kx_i c)] [] (hp_sI w 1800 4363 0) := by
      rw [mE_112 hψ]
      unfold mb_112_0
      by_cases h1 : c = -1
      · simp only [ob_s, if_pos h1]
      · have h2 : isCh S c = true := hv.resolve_left h1
        rw [h2] at ch
        simp only [ob_s, if_neg h1, ch, bi_n, kx_b_t]
        rfl
    rw [st, me_112_24]
    unfold mb_112_24
    cases hc : S.cur with
    | none =>
      obtain ⟨w1, a1, M1, F1⟩ := M_no (d := d + 6) (x := 2) M0
      refine ⟨w1, ?_, M1, F0.tr F1⟩
      simp only [ob_s, cu_n M0 hc, a1, bi_n]
      rfl
    | some t =>
      have ht := I.b.cu t hc
      have h0 := I.cs t hc
      have hnin := I.b.nin0 h0
      simp only [ob_s, cu_s M0 hc, i32_ge (n := t) (by omega), if_true]
      have my : kx_ev wx_M (d + 7) 113 [kx_r 9 (some 4363), kx_i c] (hp_sI w 1800 4363 0) = some (.inl (some (.inl (kx_b (mayRecv S c)))), hp_sI w 1800 4363 0) := by
        refine M_mayR (d := d + 5) (S := sTh S 0) M0 (by show S.mo.length ≤ 4352; omega) (by show S.mv.length ≤ 8192; omega) ?_
        rcases hv with rfl | h2
        · exact Or.inl (by decide)
        · obtain ⟨k, h3, h4, -⟩ := isCh_t h2
          exact Or.inr ⟨k, h3, h4⟩
      simp only [my, bi_n]
      rcases hv with rfl | h2
      · have hms : mayRecv S (-1) = false := by unfold mayRecv; exact decide_eq_false (fun h => absurd h.1 (by decide))
        have BR := SB.rest (how := 7) (place := -1) I.b hnin ht [] [] [] (by simp) (Or.inl rfl) (Or.inl rfl)
        simp only [List.append_nil] at BR
        obtain ⟨w1, a1, M1, F1⟩ := M_rest (d := d) (k := n + 1) (how := 7) (place := -1) (S := sTh S 0) M0 hc ht BR ⟨by show S.mv.length + S.me.length ≤ _; omega, by show S.mo.length + S.mt.length ≤ _; omega⟩ (by omega) I.a
        rw [hms, if_neg (show ¬ false = true by simp), if_neg (show ¬ (0 : Int32) ≤ -1 by decide)]
        refine ⟨w1, ?_, And.intro M1 (F0.tr F1)⟩
        simp only [kx_b_f, if_true, if_pos (show (-1 : Int32) < 0 by decide), me_112_69, mb_112_69, if_neg (show ¬ (0 : Int32) ≤ -1 by decide), me_112_80, mb_112_80, ob_s, a1, bv_n]
        rfl
      · obtain ⟨k, h3, rfl, h4⟩ := isCh_t h2
        have hnat := i32_nat (n := k) (by omega)
        have hge := i32_ge (n := k) (by omega)
        simp only [hnat, hge, if_true]
        cases hms : mayRecv S (i32 k) with
        | true =>
          obtain ⟨w1, a1, M1, F1⟩ := M_take (d := d + 4) (x := -1) (L := S.me) M0 (SB.th I.b) (by show S.mo.length ≤ 4352; omega) (by show S.mv.length < 8192; omega) h3 hc
          simp only [eq_self, reduceCtorEq, if_true, if_false]
          refine ⟨w1, ?_, And.intro M1 (F0.tr F1)⟩
          simp only [kx_b_t, a1, bv_n]
          rfl
        | false =>
          obtain ⟨w1, a1, M1, F1⟩ := M_offer (d := d + 6) (t := t) (c := k) (b := false) (v := 0) (j := -1) M0 ht h3 (by show S.mo.length < 4352; omega)
          have BR := SB.rest (how := 3) (place := i32 k) I.b hnin ht [(t, k, false, 0, -1)] [] [] (by simp [h3]) (Or.inl rfl) (Or.inl rfl)
          simp only [List.append_nil] at BR
          obtain ⟨w2, a2, M2, F2⟩ := M_rest (d := d) (k := n + 1) (how := 3) (place := i32 k) (S := (kS.s_mo ((kS.s_th S (0))) (S.mo ++ [(t, k, false, 0, -1)]))) M1 hc ht BR ⟨by show S.mv.length + S.me.length ≤ _; omega, by show (S.mo ++ [_]).length + S.mt.length ≤ _; simp; omega⟩ (by omega) I.a
          rw [kx_b_f] at a1
          simp only [eq_self, reduceCtorEq, if_true, if_false]
          refine ⟨w2, ?_, And.intro M2 ((F0.tr F1).tr F2)⟩
          simp only [kx_b_f, if_true, if_neg (show ¬ i32 k < 0 by rw [i32_neg (by omega)]; simp), cu_s M0 hc, a1, bv_n, me_112_69, mb_112_69, hge, me_112_80, mb_112_80, ob_s, a2]
          rfl
theorem lg_le (a b : Int64) : (lg_cmp a b ≤ 0) = (¬ b < a) := by
  unfold lg_cmp
  have g : (a > b) = (b.toInt < a.toInt) := propext Int64.lt_iff_toInt_lt
  rw [Int64.lt_iff_toInt_lt]
  simp only [g]
  by_cases h : b.toInt < a.toInt
  · simp [h]
  · by_cases h2 : a = b <;> simp [h, h2]
theorem lg_neg (a b : Int64) : (lg_cmp a b < 0) = (a < b) := by
  have h := lg_lt a b
  rw [← nlt_le] at h
  have h2 : (¬ (lg_cmp a b < 0)) ↔ ¬ a < b := by rw [h]
  exact propext ⟨fun q => Classical.byContradiction fun z => (h2.mpr z) q, fun q => Classical.byContradiction fun z => (h2.mp z) q⟩
theorem lg_pos (a b : Int64) : (0 < lg_cmp a b) = (b < a) := by
  have h := lg_le a b
  rw [← nlt_le] at h
  have h2 : (¬ (0 < lg_cmp a b)) ↔ ¬ b < a := by rw [h]
  exact propext ⟨fun q => Classical.byContradiction fun z => (h2.mpr z) q, fun q => Classical.byContradiction fun z => (h2.mp z) q⟩
theorem i32_k {a : Nat} (ha : a < 1000000000) (k : Nat) (hk : k < 1000000000) : (i32 a = Int32.ofNat k) = (a = k) := i32_eq ha hk
theorem M_alarm (M : MR w S) (I : SI S n) (hn : n < 512) : ∃ w', kx_ev wx_M (d + 8) 97 [kx_r 9 (some 4363), kx_i c, kx_l v] w = some (.inl none, w') ∧ MR w' (pAlarm S c v) ∧ FM w w' := by
  obtain ⟨r1808, r1810, r1812, r1814, r1816, r1818, r1820, r1824, r1826, r1828, r1830, r1836, r1838, r1842, r1844, r1846, r1848, r1850, r1854, r1856, r1858, r1862, r1864, r1866, r1870, r1872, r1874, r1878, r1880, n4364, n4365, n4366, n4367, n4368, n4369, n4370, n4371, n4372, n4373, n4374, n4375, n4376, n4377, n4378, n4379, n4380, n4381, n4382, n4383, n4384, n4385, n4386, n4387, n4388, n4389, n4390, n4391, n4392⟩ := id M.sh
  obtain ⟨M0, F0⟩ := M_th (x := 0) M
  have ch := M_isCh (d := d + 6) (x := c) M0
  have ch' : isCh (sTh S 0) c = isCh S c := rfl
  rw [ch'] at ch
  have hl1 := I.l.1
  have hal := I.al
  unfold pAlarm
  have bad : ∀ (e : Int32), e = 1 ∨ e = 2 → ∃ w', kx_ex (wm_97 (d + 7) (kx_ev wx_M (d + 7))) 1000 57 [(0, kx_r 9 (some 4363)), (1, kx_i c), (2, kx_l v)] [] (hp_sI (hp_sI w 1800 4363 0) 1800 4363 e) = some (.inl none, w') ∧ MR w' (sTh S e) ∧ FM w w' := by
    intro e he
    obtain ⟨M1, F1⟩ := M_th (x := e) M0
    refine ⟨_, ?_, And.intro M1 (F0.tr F1)⟩
    rw [show (1000 : Nat) = 999 + 1 from rfl, me_97_57]
    unfold mb_97_57
    have e1 : hp_I (hp_sI (hp_sI w 1800 4363 0) 1800 4363 e) 1800 4363 = e := by simp [hI_I]
    simp only [ob_s, e1]
    rcases he with rfl | rfl
    · rw [if_neg (by decide)]
    · rw [if_neg (by decide)]
  have f57 : ∀ f w1, kx_ex (wm_97 (d + 7) (kx_ev wx_M (d + 7))) (f + 1) 57 [(0, kx_r 9 (some 4363)), (1, kx_i c), (2, kx_l v)] [] w1 = kx_ex (wm_97 (d + 7) (kx_ev wx_M (d + 7))) 1000 57 [(0, kx_r 9 (some 4363)), (1, kx_i c), (2, kx_l v)] [] w1 := by
    intro f w1
    rw [me_97_57, show (1000 : Nat) = 999 + 1 from rfl, me_97_57]
    rfl
  obtain ⟨ψ, hψ⟩ := kx_fu
  rw [mE_97 hψ]
  unfold mb_97_0
  simp only [ob_s, ch, bi_n, kx_b_0, lg_neg, lg_le, me_97_27, mb_97_27, me_97_52, mb_97_52, f57]
  by_cases h1 : isCh S c = false
  · rw [if_pos (Or.inl h1)]
    simp only [h1, if_true]
    exact bad 1 (Or.inl rfl)
  · have h1' : isCh S c = true := by simpa using h1
    simp only [h1', eq_self, reduceCtorEq, if_true, if_false, false_or]
    by_cases h2 : v < 0
    · simp only [h2, true_or, if_true]
      exact bad 1 (Or.inl rfl)
    · simp only [h2, false_or, if_false]
      by_cases h3 : 1000000000 < v
      · simp only [h3, if_true, not_true, if_false]
        exact bad 1 (Or.inl rfl)
      · simp only [h3, not_false_eq_true, if_true, if_false]
        rcases cur_or S with hc | ⟨t, hc⟩
        · rw [if_pos (show S.cur = none ∨ S.al = 256 from Or.inl hc), cu_n M0 hc, if_pos (show (-1 : Int32) < 0 by decide)]
          exact bad 2 (Or.inr rfl)
        · have ht := I.b.cu t hc
          rw [cu_s M0 hc, if_neg (show ¬ i32 t < 0 by rw [i32_neg (by omega)]; simp)]
          have hal1 : hp_I (hp_sI w 1800 4363 0) 1882 4363 = i32 S.al := M0.al
          rw [hal1]
          by_cases h4 : S.al = 256
          · rw [if_pos (show S.cur = none ∨ S.al = 256 from Or.inr h4), if_pos (show i32 S.al = 256 by rw [h4]; rfl)]
            exact bad 2 (Or.inr rfl)
          · rw [if_neg (show ¬ (S.cur = none ∨ S.al = 256) by rw [hc]; simp [h4]), if_neg (show ¬ i32 S.al = 256 by rw [show (256 : Int32) = i32 256 from rfl, i32_eq (by omega) (by omega)]; exact h4)]
            obtain ⟨k, h5, rfl, h6⟩ := isCh_t (S := S) (c := c) (by simpa using h1)
            rw [i32_nat (by omega)]
            have F1 : FR [1876, 8783] [8785] [] [] (hp_sI w 1800 4363 0) (hp_sI (hp_sL (hp_sI (hp_sI w 1800 4363 0) 8783 S.me.length (ecode (.inr k))) 8785 S.me.length (S.clk + v)) 1876 4363 (i32 (S.me.length + 1))) := FR.sI (by decide) (FR.sL (by decide) (FR.sI (by decide) FR.rf))
            have M1 := M0.of_me F1 (Lme.push M0.me)
            have F2 : FR [1882] [] [] [] (hp_sI (hp_sL (hp_sI (hp_sI w 1800 4363 0) 8783 S.me.length (ecode (.inr k))) 8785 S.me.length (S.clk + v)) 1876 4363 (i32 (S.me.length + 1))) (hp_sI (hp_sI (hp_sL (hp_sI (hp_sI w 1800 4363 0) 8783 S.me.length (ecode (.inr k))) 8785 S.me.length (S.clk + v)) 1876 4363 (i32 (S.me.length + 1))) 1882 4363 (i32 (S.al + 1))) := FR.sI (by decide) FR.rf
            have M2 := M1.of_al (v := S.al + 1) F2 (by simp [hI_I])
            refine ⟨_, ?_, And.intro M2 ((F0.tr (FM.of F1 (by decide) (by decide) (by decide))).tr (FM.of F2 (by decide) (by decide) (by decide)))⟩
            rw [show (1000 : Nat) = 999 + 1 from rfl, me_97_57]
            unfold mb_97_57
            have e1 : hp_I (hp_sI w 1800 4363 0) 1800 4363 = 0 := by simp [hI_I]
            have e2 : hp_I w 1876 4363 = i32 S.me.length := M.me.1
            have e3 : hp_L w 1806 4363 = S.clk := M.ck
            have e4 : hp_I w 1882 4363 = i32 S.al := M.al
            simp only [ob_s, hR_I, hR_L, hR_B, hN_I, hN_L, hN_B, r1808, r1810, r1812, r1814, r1816, r1818, r1820, r1824, r1826, r1828, r1830, r1836, r1838, r1842, r1844, r1846, r1848, r1850, r1854, r1856, r1858, r1862, r1864, r1866, r1870, r1872, r1874, r1878, r1880, n4364, n4365, n4366, n4367, n4368, n4369, n4370, n4371, n4372, n4373, n4374, n4375, n4376, n4377, n4378, n4379, n4380, n4381, n4382, n4383, n4384, n4385, n4386, n4387, n4388, n4389, n4390, n4391, n4392, Nat.reduceMul, Nat.reduceAdd, Nat.reduceEqDiff, false_and, if_false, e1, if_pos (show (0 : Int32) ≤ 0 by decide), hI_I, hI_L, hL_I, hL_L, e2, e3, e4, i32_nat (n := S.me.length) (by omega), i32_jx (n := S.me.length) (k := 512) (by omega) (by omega), i32_add1, ecode, and_self, if_true]
theorem M_offerP (M : MR w S) (I : SI S n) (hn : n < 512) : ∃ w', kx_ev wx_M (d + 8) 116 [kx_r 9 (some 4363), kx_i c, kx_i (kx_b b), kx_l v] w = some (.inl (some (.inl (pOffer S c b v).2)), w') ∧ MR w' (pOffer S c b v).1 ∧ FM w w' := by
  obtain ⟨r1808, r1810, r1812, r1814, r1816, r1818, r1820, r1824, r1826, r1828, r1830, r1836, r1838, r1842, r1844, r1846, r1848, r1850, r1854, r1856, r1858, r1862, r1864, r1866, r1870, r1872, r1874, r1878, r1880, n4364, n4365, n4366, n4367, n4368, n4369, n4370, n4371, n4372, n4373, n4374, n4375, n4376, n4377, n4378, n4379, n4380, n4381, n4382, n4383, n4384, n4385, n4386, n4387, n4388, n4389, n4390, n4391, n4392⟩ := id M.sh
  obtain ⟨M0, F0⟩ := M_th (x := 0) M
  have ch := M_isCh (d := d + 6) (x := c) M0
  have ch' : isCh (sTh S 0) c = isCh S c := rfl
  rw [ch'] at ch
  have hml := I.ml
  unfold pOffer
  by_cases hA : c ≠ -1 ∧ isCh S c = false
  · rw [if_pos hA]
    obtain ⟨w1, a1, M1, F1⟩ := M_fail (d := d + 6) (x := 1) M0
    refine ⟨w1, ?_, M1, F0.tr F1⟩
    obtain ⟨ψ, hψ⟩ := kx_fu
    rw [mE_116 hψ]
    unfold mb_116_0
    rw [hA.2] at ch
    simp only [ob_s, if_neg hA.1, ch, bi_n, kx_b_f, if_true, a1]
  · rw [if_neg hA]
    obtain ⟨ψ, hψ⟩ := kx_fu
    have hv := ch_or hA
    have st : kx_ev wx_M (d + 8) 116 [kx_r 9 (some 4363), kx_i c, kx_i (kx_b b), kx_l v] w = kx_ex (wm_116 (d + 7) (kx_ev wx_M (d + 7))) (ψ + 1 + 1 + 1 + 1 + 1 + 1 + 1 + 1 + 1 + 1) 24 [(0, kx_r 9 (some 4363)), (1, kx_i c), (2, kx_i (kx_b b)), (3, kx_l v)] [] (hp_sI w 1800 4363 0) := by
      rw [mE_116 hψ]
      unfold mb_116_0
      by_cases h1 : c = -1
      · simp only [ob_s, if_pos h1]
      · have h2 : isCh S c = true := hv.resolve_left h1
        rw [h2] at ch
        simp only [ob_s, if_neg h1, ch, bi_n, kx_b_t]
        rfl
    rw [st, me_116_24]
    unfold mb_116_24
    obtain ⟨w1, a1, M1, F1⟩ := M_fail (d := d + 6) (x := 2) M0
    simp only [ob_s, me_116_40, mb_116_40, a1, bi_n]
    rcases cur_or S with hc | ⟨t, hc⟩
    · rw [if_pos (show S.cur = none ∨ S.mt.length = 16 from Or.inl hc), cu_n M0 hc, if_pos (show (-1 : Int32) < 0 by decide)]
      exact ⟨w1, rfl, And.intro M1 (F0.tr F1)⟩
    · have ht := I.b.cu t hc
      have hm1 : hp_I (hp_sI w 1800 4363 0) 1852 4363 = i32 S.mt.length := M0.mt.1
      rw [cu_s M0 hc, if_neg (show ¬ i32 t < 0 by rw [i32_neg (by omega)]; simp), hm1]
      by_cases h4 : S.mt.length = 16
      · rw [if_pos (show S.cur = none ∨ S.mt.length = 16 from Or.inr h4), if_pos (show i32 S.mt.length = 16 by rw [h4]; rfl)]
        exact ⟨w1, rfl, And.intro M1 (F0.tr F1)⟩
      · rw [if_neg (show ¬ (S.cur = none ∨ S.mt.length = 16) by rw [hc]; simp [h4]), if_neg (show ¬ i32 S.mt.length = 16 by rw [show (16 : Int32) = i32 16 from rfl, i32_eq (by omega) (by omega)]; exact h4)]
        have F2 : FR [1852, 8765] [8769] [] [8767] (hp_sI w 1800 4363 0) (hp_sI (hp_sL (hp_sB (hp_sI (hp_sI w 1800 4363 0) 8765 S.mt.length c) 8767 S.mt.length b) 8769 S.mt.length v) 1852 4363 (i32 (S.mt.length + 1))) := FR.sI (by decide) (FR.sL (by decide) (FR.sB (by decide) (FR.sI (by decide) FR.rf)))
        have M2 := M0.of_mt F2 (Lmt.push M0.mt)
        refine ⟨_, ?_, And.intro M2 (F0.tr (FM.of F2 (by decide) (by decide) (by decide)))⟩
        have e2 : hp_I w 1852 4363 = i32 S.mt.length := M.mt.1
        simp only [ob_s, hR_I, hR_L, hR_B, hN_I, hN_L, hN_B, r1808, r1810, r1812, r1814, r1816, r1818, r1820, r1824, r1826, r1828, r1830, r1836, r1838, r1842, r1844, r1846, r1848, r1850, r1854, r1856, r1858, r1862, r1864, r1866, r1870, r1872, r1874, r1878, r1880, n4364, n4365, n4366, n4367, n4368, n4369, n4370, n4371, n4372, n4373, n4374, n4375, n4376, n4377, n4378, n4379, n4380, n4381, n4382, n4383, n4384, n4385, n4386, n4387, n4388, n4389, n4390, n4391, n4392, Nat.reduceMul, Nat.reduceAdd, Nat.reduceEqDiff, false_and, if_false, hI_I, hI_L, hI_B, e2, i32_nat (n := S.mt.length) (by omega), i32_jx (n := S.mt.length) (k := 16) (by omega) (by omega), kx_sb_b, i32_add1, and_self, if_true, i32_sub1]
end CB
