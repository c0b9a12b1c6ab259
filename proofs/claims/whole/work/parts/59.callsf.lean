/-! the model's calls: what is asked -/
theorem i10 : ((1 : Int32) = 0) = False := by decide
section CF
variable {w : kx_H} {d n t g k : Nat} {S : kS} {c x : Int32} {v : Int64} {b goes r f : Bool}
theorem M_thrown (M : MR w S) : kx_ev wx_M (d + 1) 89 [kx_r 9 (some 4363)] w = some (.inl (some (.inl S.th)), w) := by
  obtain ⟨ψ, hψ⟩ := kx_fu
  rw [mE_89 hψ]
  unfold mb_89_0
  simp only [ob_s, M.th]
theorem M_current (M : MR w S) : ∃ w', kx_ev wx_M (d + 1) 142 [kx_r 9 (some 4363)] w = some (.inl (some (.inl (fidx S.cur))), w') ∧ MR w' (sTh S 0) ∧ FM w w' := by
  obtain ⟨M0, F0⟩ := M_th (x := 0) M
  refine ⟨_, ?_, And.intro M0 F0⟩
  obtain ⟨ψ, hψ⟩ := kx_fu
  rw [mE_142 hψ]
  unfold mb_142_0
  have e : hp_I (hp_sI w 1800 4363 0) 1802 4363 = fidx S.cur := M0.cu
  simp only [ob_s, e]
theorem M_clock (M : MR w S) : ∃ w', kx_ev wx_M (d + 1) 148 [kx_r 9 (some 4363)] w = some (.inl (some (.inr (.inl S.clk))), w') ∧ MR w' (sTh S 0) ∧ FM w w' := by
  obtain ⟨M0, F0⟩ := M_th (x := 0) M
  refine ⟨_, ?_, And.intro M0 F0⟩
  obtain ⟨ψ, hψ⟩ := kx_fu
  rw [mE_148 hψ]
  unfold mb_148_0
  have e : hp_L (hp_sI w 1800 4363 0) 1806 4363 = S.clk := M0.ck
  simp only [ob_s, e]
theorem cr_succ {p : Nat → Bool} {j : Nat} : (List.range (j + 1)).countP p = (List.range j).countP p + (if p j = true then 1 else 0) := by
  rw [List.range_succ, List.countP_append]
  simp [List.countP_cons]
theorem M_living_l {C : kx_C} (M : MR w S) : ∀ n j F, j + n = 256 → 2 * n + 1 ≤ F →
    kx_ex (wm_150 d C) F 4 [(0, kx_r 9 (some 4363)), (1, kx_i (i32 ((List.range j).countP (fun t => hp_B S.m 8729 t)))), (2, kx_i (i32 j))] [] w = some (.inl (some (.inl (i32 ((List.range 256).countP (fun t => hp_B S.m 8729 t))))), w) := by
  obtain ⟨r1808, r1810, r1812, r1814, r1816, r1818, r1820, r1824, r1826, r1828, r1830, r1836, r1838, r1842, r1844, r1846, r1848, r1850, r1854, r1856, r1858, r1862, r1864, r1866, r1870, r1872, r1874, r1878, r1880, n4364, n4365, n4366, n4367, n4368, n4369, n4370, n4371, n4372, n4373, n4374, n4375, n4376, n4377, n4378, n4379, n4380, n4381, n4382, n4383, n4384, n4385, n4386, n4387, n4388, n4389, n4390, n4391, n4392⟩ := id M.sh
  intro n
  induction n with
  | zero =>
    intro j F hj hF
    obtain ⟨F, rfl⟩ : ∃ f', F = f' + 1 := ⟨F - 1, by omega⟩
    obtain rfl : j = 256 := by omega
    rw [me_150_4]
    unfold mb_150_4
    rw [if_pos (show (256 : Int32) ≤ i32 256 by decide)]
  | succ n ih =>
    intro j F hj hF
    obtain ⟨F, rfl⟩ : ∃ f', F = f' + 1 + 1 := ⟨F - 2, by omega⟩
    have a := M.ag.B 8729 (by decide) j
    have r := ih (j + 1) F (by omega) (by omega)
    rw [cr_succ] at r
    rw [me_150_4]
    unfold mb_150_4
    rw [if_neg (show ¬ (256 : Int32) ≤ i32 j by rw [show (256 : Int32) = i32 256 from rfl, i32_le (by omega) (by omega)]; omega)]
    simp only [ob_s, hR_I, hR_L, hR_B, hN_I, hN_L, hN_B, r1808, r1810, r1812, r1814, r1816, r1818, r1820, r1824, r1826, r1828, r1830, r1836, r1838, r1842, r1844, r1846, r1848, r1850, r1854, r1856, r1858, r1862, r1864, r1866, r1870, r1872, r1874, r1878, r1880, n4364, n4365, n4366, n4367, n4368, n4369, n4370, n4371, n4372, n4373, n4374, n4375, n4376, n4377, n4378, n4379, n4380, n4381, n4382, n4383, n4384, n4385, n4386, n4387, n4388, n4389, n4390, n4391, n4392, Nat.reduceMul, Nat.reduceAdd, Nat.reduceEqDiff, false_and, if_false, i32_nat (n := j) (by omega), i32_jx (n := j) (k := 256) (by omega) (by omega), a, kx_b_0]
    by_cases h : hp_B S.m 8729 j = false
    · rw [if_pos h, me_150_26]
      unfold mb_150_26
      rw [i32_add1, Int32.add_zero]
      simp only [h, reduceCtorEq, if_false, Nat.add_zero] at r
      exact r
    · have h' : hp_B S.m 8729 j = true := by simpa using h
      rw [if_neg h, me_150_26]
      unfold mb_150_26
      rw [i32_add1, i32_add1]
      simp only [h', if_true] at r
      exact r
theorem M_living (M : MR w S) : kx_ev wx_M (d + 1) 150 [kx_r 9 (some 4363)] w = some (.inl (some (.inl (i32 ((List.range 256).countP (fun t => hp_B S.m 8729 t))))), w) := by
  obtain ⟨ψ, hψ⟩ := kx_fl 2000 (by omega)
  rw [mE_150 hψ]
  unfold mb_150_0
  exact M_living_l M 256 0 (ψ + 2000) (by omega) (by omega)
theorem M_chans_l {C : kx_C} (M : MR w S) : ∀ n j F, j + n = 512 → 2 * n + 1 ≤ F →
    kx_ex (wm_151 d C) F 4 [(0, kx_r 9 (some 4363)), (1, kx_i (i32 ((List.range j).countP (fun t => hp_B S.m 8745 t)))), (2, kx_i (i32 j))] [] w = some (.inl (some (.inl (i32 ((List.range 512).countP (fun t => hp_B S.m 8745 t))))), w) := by
  obtain ⟨r1808, r1810, r1812, r1814, r1816, r1818, r1820, r1824, r1826, r1828, r1830, r1836, r1838, r1842, r1844, r1846, r1848, r1850, r1854, r1856, r1858, r1862, r1864, r1866, r1870, r1872, r1874, r1878, r1880, n4364, n4365, n4366, n4367, n4368, n4369, n4370, n4371, n4372, n4373, n4374, n4375, n4376, n4377, n4378, n4379, n4380, n4381, n4382, n4383, n4384, n4385, n4386, n4387, n4388, n4389, n4390, n4391, n4392⟩ := id M.sh
  intro n
  induction n with
  | zero =>
    intro j F hj hF
    obtain ⟨F, rfl⟩ : ∃ f', F = f' + 1 := ⟨F - 1, by omega⟩
    obtain rfl : j = 512 := by omega
    rw [me_151_4]
    unfold mb_151_4
    rw [if_pos (show (512 : Int32) ≤ i32 512 by decide)]
  | succ n ih =>
    intro j F hj hF
    obtain ⟨F, rfl⟩ : ∃ f', F = f' + 1 + 1 := ⟨F - 2, by omega⟩
    have a := M.ag.B 8745 (by decide) j
    have r := ih (j + 1) F (by omega) (by omega)
    rw [cr_succ] at r
    rw [me_151_4]
    unfold mb_151_4
    rw [if_neg (show ¬ (512 : Int32) ≤ i32 j by rw [show (512 : Int32) = i32 512 from rfl, i32_le (by omega) (by omega)]; omega)]
    simp only [ob_s, hR_I, hR_L, hR_B, hN_I, hN_L, hN_B, r1808, r1810, r1812, r1814, r1816, r1818, r1820, r1824, r1826, r1828, r1830, r1836, r1838, r1842, r1844, r1846, r1848, r1850, r1854, r1856, r1858, r1862, r1864, r1866, r1870, r1872, r1874, r1878, r1880, n4364, n4365, n4366, n4367, n4368, n4369, n4370, n4371, n4372, n4373, n4374, n4375, n4376, n4377, n4378, n4379, n4380, n4381, n4382, n4383, n4384, n4385, n4386, n4387, n4388, n4389, n4390, n4391, n4392, Nat.reduceMul, Nat.reduceAdd, Nat.reduceEqDiff, false_and, if_false, i32_nat (n := j) (by omega), i32_jx (n := j) (k := 512) (by omega) (by omega), a, kx_b_0]
    by_cases h : hp_B S.m 8745 j = false
    · rw [if_pos h, me_151_26]
      unfold mb_151_26
      rw [i32_add1, Int32.add_zero]
      simp only [h, reduceCtorEq, if_false, Nat.add_zero] at r
      exact r
    · have h' : hp_B S.m 8745 j = true := by simpa using h
      rw [if_neg h, me_151_26]
      unfold mb_151_26
      rw [i32_add1, i32_add1]
      simp only [h', if_true] at r
      exact r
theorem M_chans (M : MR w S) : kx_ev wx_M (d + 1) 151 [kx_r 9 (some 4363)] w = some (.inl (some (.inl (i32 ((List.range 512).countP (fun t => hp_B S.m 8745 t))))), w) := by
  obtain ⟨ψ, hψ⟩ := kx_fl 2000 (by omega)
  rw [mE_151 hψ]
  unfold mb_151_0
  exact M_chans_l M 512 0 (ψ + 2000) (by omega) (by omega)
theorem M_count (M : MR w S) : ∃ w', kx_ev wx_M (d + 2) 149 [kx_r 9 (some 4363), kx_i x] w = some (.inl (some (.inl (pCount S x))), w') ∧ MR w' (sTh S 0) ∧ FM w w' := by
  obtain ⟨M0, F0⟩ := M_th (x := 0) M
  refine ⟨_, ?_, And.intro M0 F0⟩
  have e0 := M_living (d := d) M0
  have e2 := M_chans (d := d) M0
  have e1 : hp_I (hp_sI w 1800 4363 0) 1822 4363 = i32 S.rd.length := M0.rd.1
  have e3 : hp_I (hp_sI w 1800 4363 0) 1832 4363 = S.rooms := M0.rm
  have e4 : hp_I (hp_sI w 1800 4363 0) 1860 4363 = i32 S.gates := M0.ga
  have e5 : hp_I (hp_sI w 1800 4363 0) 1882 4363 = i32 S.al := M0.al
  have e6 : hp_I (hp_sI w 1800 4363 0) 1852 4363 = i32 S.mt.length := M0.mt.1
  have e7 : hp_I (hp_sI w 1800 4363 0) 1804 4363 = S.std := M0.st
  unfold pCount
  obtain ⟨ψ, hψ⟩ := kx_fu
  rw [mE_149 hψ]
  unfold mb_149_0
  simp only [ob_s, e0, e1, e2, e3, e4, e5, e6, e7, bi_n]
  by_cases h0 : x = 0
  · simp only [if_pos h0]; rfl
  by_cases h1 : x = 1
  · simp only [if_neg h0, if_pos h1]
  by_cases h2 : x = 2
  · simp only [if_neg h0, if_neg h1, if_pos h2]; rfl
  by_cases h3 : x = 3
  · simp only [if_neg h0, if_neg h1, if_neg h2, if_pos h3]
  by_cases h4 : x = 4
  · simp only [if_neg h0, if_neg h1, if_neg h2, if_neg h3, if_pos h4]
  by_cases h5 : x = 5
  · simp only [if_neg h0, if_neg h1, if_neg h2, if_neg h3, if_neg h4, if_pos h5]
  by_cases h6 : x = 6
  · simp only [if_neg h0, if_neg h1, if_neg h2, if_neg h3, if_neg h4, if_neg h5, if_pos h6]
  by_cases h7 : x = 7
  · simp only [if_neg h0, if_neg h1, if_neg h2, if_neg h3, if_neg h4, if_neg h5, if_neg h6, if_pos h7]
  · simp only [if_neg h0, if_neg h1, if_neg h2, if_neg h3, if_neg h4, if_neg h5, if_neg h6, if_neg h7]
theorem M_outcome (M : MR w S) : ∃ w', kx_ev wx_M (d + 2) 145 [kx_r 9 (some 4363), kx_i x] w = some (.inl (some (.inr (.inl (pOut S x).2))), w') ∧ MR w' (pOut S x).1 ∧ FM w w' := by
  obtain ⟨r1808, r1810, r1812, r1814, r1816, r1818, r1820, r1824, r1826, r1828, r1830, r1836, r1838, r1842, r1844, r1846, r1848, r1850, r1854, r1856, r1858, r1862, r1864, r1866, r1870, r1872, r1874, r1878, r1880, n4364, n4365, n4366, n4367, n4368, n4369, n4370, n4371, n4372, n4373, n4374, n4375, n4376, n4377, n4378, n4379, n4380, n4381, n4382, n4383, n4384, n4385, n4386, n4387, n4388, n4389, n4390, n4391, n4392⟩ := id M.sh
  obtain ⟨M0, F0⟩ := M_th (x := 0) M
  have ch := M_isTa (d := d) (x := x) M0
  have ch' : isTa (sTh S 0) x = isTa S x := rfl
  rw [ch'] at ch
  unfold pOut
  obtain ⟨ψ, hψ⟩ := kx_fu
  rw [mE_145 hψ]
  unfold mb_145_0
  simp only [ob_s, ch, bi_n, me_145_28, mb_145_28]
  by_cases hA : isTa S x = true
  · rw [if_pos hA]
    obtain ⟨t, ht, rfl, h3⟩ := isTa_t hA
    refine ⟨_, ?_, And.intro M0 F0⟩
    have e : hp_L w 8735 t = hp_L S.m 8735 t := M.ag.L t
    have htk : (256 ≤ t) = False := by simp; omega
    simp only [hA, kx_b_t, i10, if_false, ob_s, hR_I, hR_L, hR_B, hN_I, hN_L, hN_B, r1808, r1810, r1812, r1814, r1816, r1818, r1820, r1824, r1826, r1828, r1830, r1836, r1838, r1842, r1844, r1846, r1848, r1850, r1854, r1856, r1858, r1862, r1864, r1866, r1870, r1872, r1874, r1878, r1880, n4364, n4365, n4366, n4367, n4368, n4369, n4370, n4371, n4372, n4373, n4374, n4375, n4376, n4377, n4378, n4379, n4380, n4381, n4382, n4383, n4384, n4385, n4386, n4387, n4388, n4389, n4390, n4391, n4392, Nat.reduceMul, Nat.reduceAdd, Nat.reduceEqDiff, false_and, if_false, i32_nat (n := t) (by omega), i32_neg (n := t) (by omega), htk, or_self, hL_I, e]
  · rw [if_neg hA]
    have hA' : isTa S x = false := by simpa using hA
    obtain ⟨w1, a1, M1, F1⟩ := M_fail (d := d) (x := 1) M0
    refine ⟨w1, ?_, And.intro M1 (F0.tr F1)⟩
    simp only [hA', kx_b_f, if_true, a1, bi_n]
    rfl
theorem M_watch (M : MR w S) (I : SI S n) : ∃ w', kx_ev wx_M (d + 2) 147 [kx_r 9 (some 4363), kx_i c, kx_i x] w = some (.inl (some (.inl (pWatch S c x).2)), w') ∧ MR w' (pWatch S c x).1 ∧ FM w w' := by
  obtain ⟨r1808, r1810, r1812, r1814, r1816, r1818, r1820, r1824, r1826, r1828, r1830, r1836, r1838, r1842, r1844, r1846, r1848, r1850, r1854, r1856, r1858, r1862, r1864, r1866, r1870, r1872, r1874, r1878, r1880, n4364, n4365, n4366, n4367, n4368, n4369, n4370, n4371, n4372, n4373, n4374, n4375, n4376, n4377, n4378, n4379, n4380, n4381, n4382, n4383, n4384, n4385, n4386, n4387, n4388, n4389, n4390, n4391, n4392⟩ := id M.sh
  obtain ⟨M0, F0⟩ := M_th (x := 0) M
  have ch := M_isGa (d := d) (x := c) M0
  have ch' : isGa (sTh S 0) c = isGa S c := rfl
  rw [ch'] at ch
  have hgl := I.gl
  obtain ⟨w1, a1, M1, F1⟩ := M_fail (d := d) (x := 1) M0
  unfold pWatch
  obtain ⟨ψ, hψ⟩ := kx_fu
  rw [mE_147 hψ]
  unfold mb_147_0
  simp only [ob_s, ch, bi_n, me_147_22, mb_147_22, a1, me_147_60, mb_147_60]
  rcases ga_or S c with hA | hA
  · rw [if_pos (show isGa S c = false ∨ x < 0 ∨ 2 < x from Or.inl hA)]
    refine ⟨w1, ?_, And.intro M1 (F0.tr F1)⟩
    simp only [hA, kx_b_f, if_true]
  · obtain ⟨g, hg, rfl⟩ := isGa_t hgl hA
    simp only [hA, kx_b_t, i10, if_false]
    by_cases h1 : x < 0
    · rw [if_pos (show true = false ∨ x < 0 ∨ 2 < x from Or.inr (Or.inl h1)), if_pos h1]
      exact ⟨w1, rfl, And.intro M1 (F0.tr F1)⟩
    · rw [if_neg h1]
      by_cases h2 : 2 < x
      · rw [if_pos (show true = false ∨ x < 0 ∨ 2 < x from Or.inr (Or.inr h2)), if_neg (show ¬ x ≤ 2 by rw [nle_lt]; exact h2)]
        exact ⟨w1, rfl, And.intro M1 (F0.tr F1)⟩
      · rw [if_neg (show ¬ (true = false ∨ x < 0 ∨ 2 < x) by simp [h1, h2]), if_pos (show x ≤ 2 by rw [← nlt_le]; exact h2)]
        refine ⟨_, ?_, And.intro M0 F0⟩
        have ak : hp_I w 8771 g = sKind S g := M.ag.I 8771 (by decide) g
        have ah : hp_I w 8773 g = sHeld S g := M.ag.I 8773 (by decide) g
        have aw := M_wAt (d := d) (g := g) M0 I.b.sl2 (by omega)
        have hgk : (256 ≤ g) = False := by simp; omega
        simp only [ob_s, hR_I, hR_L, hR_B, hN_I, hN_L, hN_B, r1808, r1810, r1812, r1814, r1816, r1818, r1820, r1824, r1826, r1828, r1830, r1836, r1838, r1842, r1844, r1846, r1848, r1850, r1854, r1856, r1858, r1862, r1864, r1866, r1870, r1872, r1874, r1878, r1880, n4364, n4365, n4366, n4367, n4368, n4369, n4370, n4371, n4372, n4373, n4374, n4375, n4376, n4377, n4378, n4379, n4380, n4381, n4382, n4383, n4384, n4385, n4386, n4387, n4388, n4389, n4390, n4391, n4392, Nat.reduceMul, Nat.reduceAdd, Nat.reduceEqDiff, false_and, if_false, i32_nat (n := g) (by omega), i32_neg (n := g) (by omega), hgk, or_self, hI_I, ak, ah, aw, bi_n]
        by_cases e0 : x = 0
        · simp only [if_pos e0]
        · by_cases e1 : x = 1
          · simp only [if_neg e0, if_pos e1]
          · simp only [if_neg e0, if_neg e1]
            rfl
theorem M_look_l {C : kx_C} {q : Nat} (M : MR w S) (hm : S.mo.length ≤ 4352) (hq : q < 512) : ∀ n j F, j + n = S.mo.length → 4 * n + 1 ≤ F →
    kx_ex (wm_146 d C) F 77 [(0, kx_r 9 (some 4363)), (1, kx_i (i32 q)), (2, kx_i x), (3, kx_i (i32 ((S.mo.take j).countP (oAt q (decide (x = 2)))))), (4, kx_i (i32 j))] [] w = some (.inl (some (.inl (i32 (S.mo.countP (oAt q (decide (x = 2))))))), w) := by
  obtain ⟨r1808, r1810, r1812, r1814, r1816, r1818, r1820, r1824, r1826, r1828, r1830, r1836, r1838, r1842, r1844, r1846, r1848, r1850, r1854, r1856, r1858, r1862, r1864, r1866, r1870, r1872, r1874, r1878, r1880, n4364, n4365, n4366, n4367, n4368, n4369, n4370, n4371, n4372, n4373, n4374, n4375, n4376, n4377, n4378, n4379, n4380, n4381, n4382, n4383, n4384, n4385, n4386, n4387, n4388, n4389, n4390, n4391, n4392⟩ := id M.sh
  obtain ⟨o1, o2⟩ := id M.mo
  intro n
  induction n with
  | zero =>
    intro j F hj hF
    obtain ⟨F, rfl⟩ : ∃ f', F = f' + 1 := ⟨F - 1, by omega⟩
    rw [me_146_77]
    unfold mb_146_77
    simp only [ob_s, hR_I, hR_L, hR_B, hN_I, hN_L, hN_B, r1808, r1810, r1812, r1814, r1816, r1818, r1820, r1824, r1826, r1828, r1830, r1836, r1838, r1842, r1844, r1846, r1848, r1850, r1854, r1856, r1858, r1862, r1864, r1866, r1870, r1872, r1874, r1878, r1880, n4364, n4365, n4366, n4367, n4368, n4369, n4370, n4371, n4372, n4373, n4374, n4375, n4376, n4377, n4378, n4379, n4380, n4381, n4382, n4383, n4384, n4385, n4386, n4387, n4388, n4389, n4390, n4391, n4392, o1]
    rw [if_pos (by rw [i32_le (by omega) (by omega)]; omega), List.take_of_length_le (by omega)]
  | succ n ih =>
    intro j F hj hF
    obtain ⟨F, rfl⟩ : ∃ f', F = f' + 1 + 1 + 1 + 1 := ⟨F - 4, by omega⟩
    obtain ⟨y, hy⟩ : ∃ y, S.mo[j]? = some y := ⟨S.mo[j], List.getElem?_eq_getElem (by omega)⟩
    obtain ⟨y1, y2, y3, y4, y5, y6, y7⟩ := o2 j y hy
    have r := fun F hF => ih (j + 1) F (by omega) hF
    rw [cp_take hy] at r
    rw [me_146_77]
    unfold mb_146_77
    simp only [ob_s, hR_I, hR_L, hR_B, hN_I, hN_L, hN_B, r1808, r1810, r1812, r1814, r1816, r1818, r1820, r1824, r1826, r1828, r1830, r1836, r1838, r1842, r1844, r1846, r1848, r1850, r1854, r1856, r1858, r1862, r1864, r1866, r1870, r1872, r1874, r1878, r1880, n4364, n4365, n4366, n4367, n4368, n4369, n4370, n4371, n4372, n4373, n4374, n4375, n4376, n4377, n4378, n4379, n4380, n4381, n4382, n4383, n4384, n4385, n4386, n4387, n4388, n4389, n4390, n4391, n4392, Nat.reduceMul, Nat.reduceAdd, Nat.reduceEqDiff, false_and, if_false, o1, i32_nat (n := j) (by omega), i32_jx (n := j) (k := 4352) (by omega) (by omega), y2, y3, i32_eq (a := y.2.1) (b := q) (by omega) (by omega)]
    rw [if_neg (by rw [i32_le (by omega) (by omega)]; omega)]
    simp only [me_146_115, mb_146_115, me_146_122, mb_146_122, me_146_123, mb_146_123, i32_add1, Int32.add_zero]
    by_cases h1 : y.2.1 = q
    · rw [if_pos h1]
      by_cases h2 : x = 2
      · rw [if_pos h2]
        cases hb : y.2.2.1 with
        | true =>
          rw [if_pos (show kx_b true = 1 by rfl)]
          have hp : oAt q (decide (x = 2)) y = true := by simp [oAt, h1, h2, hb]
          simp only [hp, if_true] at r
          exact r _ (by omega)
        | false =>
          rw [if_neg (show ¬ kx_b false = 1 by decide)]
          have hp : oAt q (decide (x = 2)) y = false := by simp [oAt, h2, hb]
          simp only [hp, reduceCtorEq, if_false, Nat.add_zero] at r
          exact r _ (by omega)
      · rw [if_neg h2]
        cases hb : y.2.2.1 with
        | true =>
          rw [if_neg (show ¬ kx_b true = 0 by decide)]
          have hp : oAt q (decide (x = 2)) y = false := by simp [oAt, h2, hb]
          simp only [hp, reduceCtorEq, if_false, Nat.add_zero] at r
          exact r _ (by omega)
        | false =>
          rw [if_pos (show kx_b false = 0 by rfl)]
          have hp : oAt q (decide (x = 2)) y = true := by simp [oAt, h1, h2, hb]
          simp only [hp, if_true] at r
          exact r _ (by omega)
    · rw [if_neg h1]
      have hp : oAt q (decide (x = 2)) y = false := by simp [oAt, h1]
      simp only [hp, reduceCtorEq, if_false, Nat.add_zero] at r
      exact r _ (by omega)
theorem M_look (M : MR w S) (hm : S.mo.length ≤ 4352) (hv : S.mv.length ≤ 8192) : ∃ w', kx_ev wx_M (d + 2) 146 [kx_r 9 (some 4363), kx_i c, kx_i x] w = some (.inl (some (.inl (pLook S c x).2)), w') ∧ MR w' (pLook S c x).1 ∧ FM w w' := by
  obtain ⟨r1808, r1810, r1812, r1814, r1816, r1818, r1820, r1824, r1826, r1828, r1830, r1836, r1838, r1842, r1844, r1846, r1848, r1850, r1854, r1856, r1858, r1862, r1864, r1866, r1870, r1872, r1874, r1878, r1880, n4364, n4365, n4366, n4367, n4368, n4369, n4370, n4371, n4372, n4373, n4374, n4375, n4376, n4377, n4378, n4379, n4380, n4381, n4382, n4383, n4384, n4385, n4386, n4387, n4388, n4389, n4390, n4391, n4392⟩ := id M.sh
  obtain ⟨M0, F0⟩ := M_th (x := 0) M
  have ch := M_isCh (d := d) (x := c) M0
  have ch' : isCh (sTh S 0) c = isCh S c := rfl
  rw [ch'] at ch
  obtain ⟨w1, a1, M1, F1⟩ := M_fail (d := d) (x := 1) M0
  unfold pLook
  obtain ⟨ψ, hψ⟩ := kx_fl 20000 (by omega)
  obtain ⟨φ, h600, hφ⟩ : ∃ φ, 18000 ≤ φ ∧ ψ + 20000 = φ + 1 := ⟨ψ + 19999, by omega, by omega⟩
  rw [mE_146 hψ, hφ]
  unfold mb_146_0
  simp only [ob_s, ch, bi_n, me_146_22, mb_146_22, a1, me_146_51, mb_146_51, me_146_71, mb_146_71]
  cases hA : isCh S c with
  | false =>
    rw [if_pos (show false = false ∨ x < 0 ∨ 4 < x from Or.inl rfl)]
    exact ⟨w1, by simp [kx_b], And.intro M1 (F0.tr F1)⟩
  | true =>
    obtain ⟨q, hq, rfl, h3⟩ := isCh_t hA
    simp only [kx_b_t, i10, if_false]
    by_cases h1 : x < 0
    · rw [if_pos (show true = false ∨ x < 0 ∨ 4 < x from Or.inr (Or.inl h1)), if_pos h1]
      exact ⟨w1, rfl, And.intro M1 (F0.tr F1)⟩
    · rw [if_neg h1]
      by_cases h2 : 4 < x
      · rw [if_pos (show true = false ∨ x < 0 ∨ 4 < x from Or.inr (Or.inr h2)), if_neg (show ¬ x ≤ 4 by rw [nle_lt]; exact h2)]
        exact ⟨w1, rfl, And.intro M1 (F0.tr F1)⟩
      · rw [if_neg (show ¬ (true = false ∨ x < 0 ∨ 4 < x) by simp [h1, h2]), if_pos (show x ≤ 4 by rw [← nlt_le]; exact h2)]
        refine ⟨hp_sI w 1800 4363 0, ?_, And.intro M0 F0⟩
        have ac : hp_B w 8747 q = sClosed S q := M.ag.B 8747 (by decide) q
        have ar : hp_I w 8749 q = sRoom S q := M.ag.I 8749 (by decide) q
        have av := M_cnt (d := d) (c := q) M0 hv hq
        have al := M_look_l (d := d + 1) (C := kx_ev wx_M (d + 1)) (x := x) (q := q) M0 hm hq S.mo.length 0 (φ + 1) (by show 0 + S.mo.length = S.mo.length; omega) (by omega)
        have hqk : (512 ≤ q) = False := by simp; omega
        simp only [ob_s, hR_I, hR_L, hR_B, hN_I, hN_L, hN_B, r1808, r1810, r1812, r1814, r1816, r1818, r1820, r1824, r1826, r1828, r1830, r1836, r1838, r1842, r1844, r1846, r1848, r1850, r1854, r1856, r1858, r1862, r1864, r1866, r1870, r1872, r1874, r1878, r1880, n4364, n4365, n4366, n4367, n4368, n4369, n4370, n4371, n4372, n4373, n4374, n4375, n4376, n4377, n4378, n4379, n4380, n4381, n4382, n4383, n4384, n4385, n4386, n4387, n4388, n4389, n4390, n4391, n4392, Nat.reduceMul, Nat.reduceAdd, Nat.reduceEqDiff, false_and, if_false, i32_nat (n := q) (by omega), i32_neg (n := q) (by omega), hqk, or_self, hI_I, ac, ar, av, bi_n, kx_b_0]
        by_cases e4 : x = 4
        · subst e4
          rw [if_pos (show (2 : Int32) ≤ 4 by decide)]
          simp only [if_pos, if_neg (show ¬ (4 : Int32) = 0 by decide), if_neg (show ¬ (4 : Int32) = 1 by decide)]
          cases hcl : sClosed S q <;> simp [kx_b, hcl, ac, hB_I]
        · by_cases e2 : (2 : Int32) ≤ x
          · rw [if_pos e2, if_neg e4]
            have n0 : ¬ x = 0 := by rintro rfl; revert e2; decide
            have n1 : ¬ x = 1 := by rintro rfl; revert e2; decide
            simp only [if_neg n0, if_neg n1, if_neg e4]
            exact al
          · rw [if_neg e2]
            by_cases e0 : x = 0
            · simp only [if_pos e0]
              rfl
            · have e1 : x = 1 := by
                obtain ⟨e5, e6⟩ := i32_of h1
                have e7 : ¬ (i32 2 ≤ x) := e2
                obtain ⟨e8, e9⟩ := i32_ltl (k := 2) (by omega) h1 e7
                have : x.toNatClampNeg ≠ 0 := fun z => e0 (by rw [e9, z]; rfl)
                rw [e9, show x.toNatClampNeg = 1 by omega]
                rfl
              simp only [if_neg e0, if_pos e1]
theorem M_rdi_l {C : kx_C} {q : Nat} (M : MR w S) (hm : S.rd.length ≤ 256) (hq : q < 256) : ∀ n j F, j + n = S.rd.length → n + 1 ≤ F → (∀ (i : Nat) (y : Nat), i < j → S.rd[i]? = some y → (y == q) = false) →
    kx_ex (wm_143 d C) F 144 [(0, kx_r 9 (some 4363)), (1, kx_i (i32 q)), (3, kx_i (i32 j))] [] w = some (.inl (some (.inl (fidx (S.rd.findIdx? (fun x => x == q))))), w) := by
  obtain ⟨r1808, r1810, r1812, r1814, r1816, r1818, r1820, r1824, r1826, r1828, r1830, r1836, r1838, r1842, r1844, r1846, r1848, r1850, r1854, r1856, r1858, r1862, r1864, r1866, r1870, r1872, r1874, r1878, r1880, n4364, n4365, n4366, n4367, n4368, n4369, n4370, n4371, n4372, n4373, n4374, n4375, n4376, n4377, n4378, n4379, n4380, n4381, n4382, n4383, n4384, n4385, n4386, n4387, n4388, n4389, n4390, n4391, n4392⟩ := id M.sh
  obtain ⟨o1, o2⟩ := id M.rd
  intro n
  induction n with
  | zero =>
    intro j F hj hF hp
    obtain ⟨F, rfl⟩ : ∃ f', F = f' + 1 := ⟨F - 1, by omega⟩
    rw [me_143_144]
    unfold mb_143_144
    rw [fi_none (fun i y hi => hp i y (by have := (List.getElem?_eq_some_iff.mp hi).1; omega) hi)]
    simp only [ob_s, hR_I, hR_L, hR_B, hN_I, hN_L, hN_B, r1808, r1810, r1812, r1814, r1816, r1818, r1820, r1824, r1826, r1828, r1830, r1836, r1838, r1842, r1844, r1846, r1848, r1850, r1854, r1856, r1858, r1862, r1864, r1866, r1870, r1872, r1874, r1878, r1880, n4364, n4365, n4366, n4367, n4368, n4369, n4370, n4371, n4372, n4373, n4374, n4375, n4376, n4377, n4378, n4379, n4380, n4381, n4382, n4383, n4384, n4385, n4386, n4387, n4388, n4389, n4390, n4391, n4392, o1]
    rw [if_pos (by rw [i32_le (by omega) (by omega)]; omega)]
    rfl
  | succ n ih =>
    intro j F hj hF hp
    obtain ⟨F, rfl⟩ : ∃ f', F = f' + 1 := ⟨F - 1, by omega⟩
    rw [me_143_144]
    unfold mb_143_144
    obtain ⟨y, hy⟩ : ∃ y, S.rd[j]? = some y := ⟨S.rd[j], List.getElem?_eq_getElem (by omega)⟩
    obtain ⟨y1, y2⟩ := o2 j y hy
    simp only [ob_s, hR_I, hR_L, hR_B, hN_I, hN_L, hN_B, r1808, r1810, r1812, r1814, r1816, r1818, r1820, r1824, r1826, r1828, r1830, r1836, r1838, r1842, r1844, r1846, r1848, r1850, r1854, r1856, r1858, r1862, r1864, r1866, r1870, r1872, r1874, r1878, r1880, n4364, n4365, n4366, n4367, n4368, n4369, n4370, n4371, n4372, n4373, n4374, n4375, n4376, n4377, n4378, n4379, n4380, n4381, n4382, n4383, n4384, n4385, n4386, n4387, n4388, n4389, n4390, n4391, n4392, Nat.reduceMul, Nat.reduceAdd, Nat.reduceEqDiff, false_and, if_false, o1, i32_nat (n := j) (by omega), i32_jx (n := j) (k := 256) (by omega) (by omega), y1, i32_eq (a := y) (b := q) (by omega) (by omega)]
    rw [if_neg (by rw [i32_le (by omega) (by omega)]; omega)]
    by_cases h1 : y = q
    · rw [if_pos h1, fi_some hp hy (by simp [h1])]
      rfl
    · rw [if_neg h1, i32_add1]
      refine ih (j + 1) F (by omega) (by omega) fun i z hi hz => ?_
      by_cases hij : i = j
      · subst hij
        rw [hy] at hz
        cases hz
        simp [h1]
      · exact hp i z (by omega) hz
theorem M_task (M : MR w S) (I : SI S n) : ∃ w', kx_ev wx_M (d + 2) 143 [kx_r 9 (some 4363), kx_i c, kx_i x] w = some (.inl (some (.inl (pTask S c x).2)), w') ∧ MR w' (pTask S c x).1 ∧ FM w w' := by
  obtain ⟨r1808, r1810, r1812, r1814, r1816, r1818, r1820, r1824, r1826, r1828, r1830, r1836, r1838, r1842, r1844, r1846, r1848, r1850, r1854, r1856, r1858, r1862, r1864, r1866, r1870, r1872, r1874, r1878, r1880, n4364, n4365, n4366, n4367, n4368, n4369, n4370, n4371, n4372, n4373, n4374, n4375, n4376, n4377, n4378, n4379, n4380, n4381, n4382, n4383, n4384, n4385, n4386, n4387, n4388, n4389, n4390, n4391, n4392⟩ := id M.sh
  obtain ⟨M0, F0⟩ := M_th (x := 0) M
  have ch := M_isTa (d := d) (x := c) M0
  have ch' : isTa (sTh S 0) c = isTa S c := rfl
  rw [ch'] at ch
  have hrl : S.rd.length ≤ 256 := pgh 256 S.rd I.b.rn (fun x hx => (I.b.rs x hx).1)
  obtain ⟨w1, a1, M1, F1⟩ := M_fail (d := d) (x := 1) M0
  unfold pTask
  obtain ⟨ψ, hψ⟩ := kx_fl 2000 (by omega)
  obtain ⟨φ, h600, hφ⟩ : ∃ φ, 1800 ≤ φ ∧ ψ + 2000 = φ + 1 + 1 := ⟨ψ + 1998, by omega, by omega⟩
  rw [mE_143 hψ, hφ]
  unfold mb_143_0
  simp only [ob_s, ch, bi_n, me_143_22, mb_143_22, a1, me_143_75, mb_143_75, me_143_85, mb_143_85, me_143_141, mb_143_141]
  cases hA : isTa S c with
  | false =>
    rw [if_pos (show false = false ∨ x < 0 ∨ 5 < x from Or.inl rfl)]
    exact ⟨w1, by simp [kx_b], And.intro M1 (F0.tr F1)⟩
  | true =>
    obtain ⟨q, hq, rfl, h3⟩ := isTa_t hA
    simp only [kx_b_t, i10, if_false]
    by_cases h1 : x < 0
    · rw [if_pos (show true = false ∨ x < 0 ∨ 5 < x from Or.inr (Or.inl h1)), if_pos h1]
      exact ⟨w1, rfl, And.intro M1 (F0.tr F1)⟩
    · rw [if_neg h1]
      by_cases h2 : 5 < x
      · rw [if_pos (show true = false ∨ x < 0 ∨ 5 < x from Or.inr (Or.inr h2)), if_neg (show ¬ x ≤ 5 by rw [nle_lt]; exact h2)]
        exact ⟨w1, rfl, And.intro M1 (F0.tr F1)⟩
      · have h5 : x ≤ 5 := by rw [← nlt_le]; exact h2
        rw [if_neg (show ¬ (true = false ∨ x < 0 ∨ 5 < x) by simp [h1, h2]), if_pos h5]
        refine ⟨hp_sI w 1800 4363 0, ?_, And.intro M0 F0⟩
        have as : hp_I w 8731 q = hp_I S.m 8731 q := M.ag.I 8731 (by decide) q
        have aw : hp_I w 8733 q = hp_I S.m 8733 q := M.ag.I 8733 (by decide) q
        have ac : hp_I w 8739 q = hp_I S.m 8739 q := M.ag.I 8739 (by decide) q
        have af : hp_B w 8737 q = hp_B S.m 8737 q := M.ag.B 8737 (by decide) q
        have ab : hp_B w 8741 q = hp_B S.m 8741 q := M.ag.B 8741 (by decide) q
        have al := M_rdi_l (d := d + 1) (C := kx_ev wx_M (d + 1)) (q := q) M0 hrl hq S.rd.length 0 (φ + 2) (by show 0 + S.rd.length = S.rd.length; omega) (by omega) (fun i y hi => by omega)
        have hqk : (256 ≤ q) = False := by simp; omega
        simp only [ob_s, hR_I, hR_L, hR_B, hN_I, hN_L, hN_B, r1808, r1810, r1812, r1814, r1816, r1818, r1820, r1824, r1826, r1828, r1830, r1836, r1838, r1842, r1844, r1846, r1848, r1850, r1854, r1856, r1858, r1862, r1864, r1866, r1870, r1872, r1874, r1878, r1880, n4364, n4365, n4366, n4367, n4368, n4369, n4370, n4371, n4372, n4373, n4374, n4375, n4376, n4377, n4378, n4379, n4380, n4381, n4382, n4383, n4384, n4385, n4386, n4387, n4388, n4389, n4390, n4391, n4392, Nat.reduceMul, Nat.reduceAdd, Nat.reduceEqDiff, false_and, if_false, i32_nat (n := q) (by omega), i32_neg (n := q) (by omega), hqk, or_self, hI_I, hB_I, as, aw, ac, af, ab, kx_b_0]
        by_cases e0 : x = 0
        · simp only [if_pos e0]
        · by_cases e1 : x = 1
          · simp only [if_neg e0, if_pos e1]
            by_cases s2 : hp_I S.m 8731 q = 2
            · rw [if_pos s2, if_pos (Or.inl s2)]
            · rw [if_neg s2]
              by_cases s3 : hp_I S.m 8731 q = 3
              · rw [if_pos s3, if_pos (Or.inr (Or.inl s3))]
              · rw [if_neg s3]
                by_cases s6 : hp_I S.m 8731 q = 6
                · rw [if_pos s6, if_pos (Or.inr (Or.inr s6))]
                · rw [if_neg s6, if_neg (show ¬ (hp_I S.m 8731 q = 2 ∨ hp_I S.m 8731 q = 3 ∨ hp_I S.m 8731 q = 6) by simp [s2, s3, s6])]
          · simp only [if_neg e0, if_neg e1]
            by_cases e5 : (5 : Int32) ≤ x
            · rw [if_pos e5]
              have n2 : ¬ x = 2 := by rintro rfl; revert e5; decide
              have n3 : ¬ x = 3 := by rintro rfl; revert e5; decide
              have n4 : ¬ x = 4 := by rintro rfl; revert e5; decide
              simp only [if_neg n2, if_neg n3, if_neg n4]
              exact al
            · rw [if_neg e5]
              by_cases e2 : x = 2
              · simp only [if_pos e2]
              · by_cases e3 : x = 3
                · simp only [if_neg e2, if_pos e3]
                  cases hp_B S.m 8737 q <;> simp [kx_b]
                · have e4 : x = 4 := by
                    have e7 : ¬ (i32 5 ≤ x) := e5
                    obtain ⟨e8, e9⟩ := i32_ltl (k := 5) (by omega) h1 e7
                    have z0 : x.toNatClampNeg ≠ 0 := fun z => e0 (by rw [e9, z]; rfl)
                    have z1 : x.toNatClampNeg ≠ 1 := fun z => e1 (by rw [e9, z]; rfl)
                    have z2 : x.toNatClampNeg ≠ 2 := fun z => e2 (by rw [e9, z]; rfl)
                    have z3 : x.toNatClampNeg ≠ 3 := fun z => e3 (by rw [e9, z]; rfl)
                    rw [e9, show x.toNatClampNeg = 4 by omega]
                    rfl
                  simp only [if_neg e2, if_neg e3, if_pos e4]
                  cases hp_B S.m 8741 q <;> simp [kx_b]
end CF
