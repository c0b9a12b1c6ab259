/-! the model's gates -/
section M6
variable {w : kx_H} {d t c g : Nat} {S : kS} {n v : Int64} {f b : Bool} {x j : Int32}
theorem M_lets {k : Nat} {e : kMs} (M : MR w S) (B : SB S) (he : S.sn[k]? = some e) : ∃ w', kx_ev wx_M (d + 2) 131 [kx_r 9 (some 4363), kx_i (i32 k), kx_i (kx_b f)] w = some (.inl none, w') ∧ MR w' (sLets S e f) ∧ FM w w' := by
  have hem := List.mem_of_getElem? he
  have ht := (B.ss e hem).1
  obtain ⟨w1, a1, M1, F1⟩ := M_out (d := d) M B.sl2 he B.nn
  obtain ⟨w2, a2, M2, F2⟩ := M_has (d := d) (n := 0) (f := f) (x := -1) (b := false) M1 ht
  have B2 := SB.has (t := e.1) (n := 0) (f := f) (x := -1) (b := false) (SB.out (t := e.1) B)
  have N2 := B.lets_n (n := 0) (f := f) (x := -1) (b := false) hem
  obtain ⟨w3, a3, M3, F3⟩ := M_wake (d := d) M2 ht (B2.rl ht N2.1)
  refine ⟨w3, ?_, M3, (F1.tr F2).tr F3⟩
  obtain ⟨ψ, hψ⟩ := kx_fu
  rw [mE_131 hψ]
  unfold mb_131_0
  rw [kx_b_f] at a2
  simp only [ob_s, a1, bi_n, a2, bv_n, a3]
theorem stg_some {k : Nat} (h : S.sn.findIdx? (gAt g x) = some k) : ∃ e, S.sn[k]? = some e ∧ sStg S g x = some e ∧ e ∈ S.sn ∧ k < S.sn.length := by
  obtain ⟨y, a1, a2, a3⟩ := fi_find.2 k h
  exact ⟨y, a1, a2, List.mem_of_getElem? a1, (List.getElem?_eq_some_iff.mp a1).1⟩
theorem stg_none (h : S.sn.findIdx? (gAt g x) = none) : sStg S g x = none := fi_find.1 h
theorem M_held1 (M : MR w S) (hg : g < 256) : MR (hp_sI w 8773 g x) (stHeld S g x) ∧ FM w (hp_sI w 8773 g x) := by
  have F : FR [8731, 8733, 8739, 8749, 8771, 8773, 8775] [8735] [] [8729, 8737, 8741, 8745, 8747] w (hp_sI w 8773 g x) := FR.sI (by decide) FR.rf
  exact ⟨M.of_ag F (AG.sI M.ag), FM.of F (by decide) (by decide) (by decide)⟩
theorem M_unlock (M : MR w S) (B : SB S) (hg : g < 256) : ∃ w', kx_ev wx_M (d + 3) 129 [kx_r 9 (some 4363), kx_i (i32 g)] w = some (.inl none, w') ∧ MR w' (sUnlock S g) ∧ FM w w' := by
  obtain ⟨r1808, r1810, r1812, r1814, r1816, r1818, r1820, r1824, r1826, r1828, r1830, r1836, r1838, r1842, r1844, r1846, r1848, r1850, r1854, r1856, r1858, r1862, r1864, r1866, r1870, r1872, r1874, r1878, r1880, n4364, n4365, n4366, n4367, n4368, n4369, n4370, n4371, n4372, n4373, n4374, n4375, n4376, n4377, n4378, n4379, n4380, n4381, n4382, n4383, n4384, n4385, n4386, n4387, n4388, n4389, n4390, n4391, n4392⟩ := id M.sh
  have a0 := M_stg (d := d + 1) (x := 2) M B.sl2 hg
  have hl := B.sl2
  unfold sUnlock
  cases h : S.sn.findIdx? (gAt g 2) with
  | none =>
    rw [stg_none h]
    obtain ⟨M1, F1⟩ := M_held1 (x := 0) M hg
    refine ⟨_, ?_, M1, F1⟩
    obtain ⟨ψ, hψ⟩ := kx_fu
    rw [mE_129 hψ]
    unfold mb_129_0
    rw [h] at a0
    simp only [ob_s, hR_I, hR_L, hR_B, hN_I, hN_L, hN_B, r1808, r1810, r1812, r1814, r1816, r1818, r1820, r1824, r1826, r1828, r1830, r1836, r1838, r1842, r1844, r1846, r1848, r1850, r1854, r1856, r1858, r1862, r1864, r1866, r1870, r1872, r1874, r1878, r1880, n4364, n4365, n4366, n4367, n4368, n4369, n4370, n4371, n4372, n4373, n4374, n4375, n4376, n4377, n4378, n4379, n4380, n4381, n4382, n4383, n4384, n4385, n4386, n4387, n4388, n4389, n4390, n4391, n4392, Nat.reduceMul, Nat.reduceAdd, Nat.reduceEqDiff, false_and, if_false, a0, bi_n, fidx, i32_nat (n := g) (by omega), i32_jx (n := g) (k := 256) (by omega) (by omega), me_129_27, mb_129_27]
    simp
  | some k =>
    obtain ⟨e, e1, e2, e3, e4⟩ := stg_some h
    rw [e2]
    obtain ⟨w1, a1, M1, F1⟩ := M_lets (d := d) (f := true) M B e1
    refine ⟨w1, ?_, M1, F1⟩
    obtain ⟨ψ, hψ⟩ := kx_fu
    rw [mE_129 hψ]
    unfold mb_129_0
    rw [h] at a0
    rw [kx_b_t] at a1
    simp only [ob_s, a0, bi_n, fidx, i32_ge (n := k) (by omega), if_true, a1, bv_n, me_129_27, mb_129_27]
theorem M_writer (M : MR w S) (B : SB S) (hg : g < 256) : ∃ w', kx_ev wx_M (d + 3) 136 [kx_r 9 (some 4363), kx_i (i32 g)] w = some (.inl none, w') ∧ MR w' (sWriter S g) ∧ FM w w' := by
  obtain ⟨r1808, r1810, r1812, r1814, r1816, r1818, r1820, r1824, r1826, r1828, r1830, r1836, r1838, r1842, r1844, r1846, r1848, r1850, r1854, r1856, r1858, r1862, r1864, r1866, r1870, r1872, r1874, r1878, r1880, n4364, n4365, n4366, n4367, n4368, n4369, n4370, n4371, n4372, n4373, n4374, n4375, n4376, n4377, n4378, n4379, n4380, n4381, n4382, n4383, n4384, n4385, n4386, n4387, n4388, n4389, n4390, n4391, n4392⟩ := id M.sh
  have a0 := M_stg (d := d + 1) (x := 0) M B.sl2 hg
  have hl := B.sl2
  unfold sWriter
  cases h : S.sn.findIdx? (gAt g 0) with
  | none =>
    rw [stg_none h]
    refine ⟨w, ?_, M, FM.rf⟩
    obtain ⟨ψ, hψ⟩ := kx_fu
    rw [mE_136 hψ]
    unfold mb_136_0
    rw [h] at a0
    simp only [ob_s, hR_I, hR_L, hR_B, hN_I, hN_L, hN_B, r1808, r1810, r1812, r1814, r1816, r1818, r1820, r1824, r1826, r1828, r1830, r1836, r1838, r1842, r1844, r1846, r1848, r1850, r1854, r1856, r1858, r1862, r1864, r1866, r1870, r1872, r1874, r1878, r1880, n4364, n4365, n4366, n4367, n4368, n4369, n4370, n4371, n4372, n4373, n4374, n4375, n4376, n4377, n4378, n4379, n4380, n4381, n4382, n4383, n4384, n4385, n4386, n4387, n4388, n4389, n4390, n4391, n4392, Nat.reduceMul, Nat.reduceAdd, Nat.reduceEqDiff, false_and, if_false, a0, bi_n, fidx]
    simp
  | some k =>
    obtain ⟨e, e1, e2, e3, e4⟩ := stg_some h
    rw [e2]
    obtain ⟨M0, F0⟩ := M_held1 (x := -1) M hg
    obtain ⟨w1, a1, M1, F1⟩ := M_lets (d := d) (f := true) (S := stHeld S g (-1)) M0 B.held e1
    refine ⟨w1, ?_, M1, F0.tr F1⟩
    obtain ⟨ψ, hψ⟩ := kx_fu
    rw [mE_136 hψ]
    unfold mb_136_0
    rw [h] at a0
    rw [kx_b_t] at a1
    simp only [ob_s, hR_I, hR_L, hR_B, hN_I, hN_L, hN_B, r1808, r1810, r1812, r1814, r1816, r1818, r1820, r1824, r1826, r1828, r1830, r1836, r1838, r1842, r1844, r1846, r1848, r1850, r1854, r1856, r1858, r1862, r1864, r1866, r1870, r1872, r1874, r1878, r1880, n4364, n4365, n4366, n4367, n4368, n4369, n4370, n4371, n4372, n4373, n4374, n4375, n4376, n4377, n4378, n4379, n4380, n4381, n4382, n4383, n4384, n4385, n4386, n4387, n4388, n4389, n4390, n4391, n4392, Nat.reduceMul, Nat.reduceAdd, Nat.reduceEqDiff, false_and, if_false, a0, bi_n, fidx, i32_ge (n := k) (by omega), if_true, i32_nat (n := g) (by omega), i32_jx (n := g) (k := 256) (by omega) (by omega), a1, bv_n]
/-- all that stand there go, one by one -/
theorem M_lall_l {C : kx_C} (hC : C = kx_ev wx_M (d + 2)) (hg : g < 256) : ∀ n F w (S : kS), MR w S → SB S → S.sn.length ≤ n → n + 1 ≤ F →
    ∃ w', kx_ex (wm_138 (d + 2) C) F 7 [(0, kx_r 9 (some 4363)), (1, kx_i (i32 g)), (2, kx_i (kx_b f)), (3, kx_i (fidx (S.sn.findIdx? (gAt g 2))))] [] w = some (.inl none, w') ∧ MR w' (sLall n S g 2 f) ∧ FM w w' := by
  intro n
  induction n with
  | zero =>
    intro F w S M B hn hF
    obtain ⟨F, rfl⟩ : ∃ f', F = f' + 1 := ⟨F - 1, by omega⟩
    have h0 : S.sn = [] := List.eq_nil_of_length_eq_zero (by omega)
    refine ⟨w, ?_, M, FM.rf⟩
    rw [me_138_7, h0, List.findIdx?_nil]
    unfold mb_138_7
    rw [if_pos (show fidx none < 0 by decide)]
  | succ n ih =>
    intro F w S M B hn hF
    obtain ⟨F, rfl⟩ : ∃ f', F = f' + 1 := ⟨F - 1, by omega⟩
    have hl := B.sl2
    rw [me_138_7]
    unfold mb_138_7 sLall
    cases h : S.sn.findIdx? (gAt g 2) with
    | none =>
      rw [stg_none h]
      refine ⟨w, ?_, M, FM.rf⟩
      rw [if_pos (by decide)]
    | some k =>
      obtain ⟨e, e1, e2, e3, e4⟩ := stg_some h
      rw [e2]
      obtain ⟨w1, a1, M1, F1⟩ := M_lets (d := d) (f := f) M B e1
      have B1 : SB (sLets S e f) := B.lets e3
      have hlt : (sLets S e f).sn.length ≤ n := by
        have : (S.sn.filter (fun q => q.1 != e.1)).length < S.sn.length := by
          rw [← er_fl e1 B.nn, List.length_eraseIdx_of_lt e4]
          omega
        show (S.sn.filter (fun q => q.1 != e.1)).length ≤ n
        omega
      have a2 := M_stg (d := d + 1) (x := 2) M1 B1.sl2 hg
      obtain ⟨w', r1, r2, r3⟩ := ih F w1 (sLets S e f) M1 B1 hlt (by omega)
      refine ⟨w', ?_, And.intro r2 (F1.tr r3)⟩
      rw [if_neg (show ¬ fidx (some k) < 0 by show ¬ i32 k < 0; rw [i32_neg (by omega)]; simp)]
      rw [← hC] at a1 a2
      simp only [ob_s, fidx, a1, bv_n, a2, bi_n]
      exact r1
theorem M_letAll (M : MR w S) (B : SB S) (hg : g < 256) : ∃ w', kx_ev wx_M (d + 3) 138 [kx_r 9 (some 4363), kx_i (i32 g), kx_i (kx_b f)] w = some (.inl none, w') ∧ MR w' (sLetAll S g 2 f) ∧ FM w w' := by
  obtain ⟨ψ, hψ⟩ := kx_fl 2000 (by omega)
  have hl := B.sl2
  have a0 := M_stg (d := d + 1) (x := 2) M B.sl2 hg
  obtain ⟨w', r1, r2, r3⟩ := M_lall_l (d := d) (f := f) rfl hg S.sn.length (ψ + 2000) w S M B (by omega) (by omega)
  refine ⟨w', ?_, And.intro r2 r3⟩
  rw [mE_138 hψ]
  unfold mb_138_0
  simp only [ob_s, a0, bi_n]
  exact r1
theorem M_grow (M : MR w S) (B : SB S) (hg : g < 256) : ∃ w', kx_ev wx_M (d + 4) 137 [kx_r 9 (some 4363), kx_i (i32 g), kx_i x] w = some (.inl none, w') ∧ MR w' (sGrow S g x) ∧ FM w w' := by
  obtain ⟨r1808, r1810, r1812, r1814, r1816, r1818, r1820, r1824, r1826, r1828, r1830, r1836, r1838, r1842, r1844, r1846, r1848, r1850, r1854, r1856, r1858, r1862, r1864, r1866, r1870, r1872, r1874, r1878, r1880, n4364, n4365, n4366, n4367, n4368, n4369, n4370, n4371, n4372, n4373, n4374, n4375, n4376, n4377, n4378, n4379, n4380, n4381, n4382, n4383, n4384, n4385, n4386, n4387, n4388, n4389, n4390, n4391, n4392⟩ := id M.sh
  obtain ⟨M0, F0⟩ := M_held1 (x := sHeld S g + x) M hg
  have a := M.ag.I 8773 (by decide) g
  unfold sGrow
  have e : hp_I w 8773 g + x = sHeld S g + x := by rw [a]; rfl
  obtain ⟨w1, a1, M1, F1⟩ := M_letAll (d := d) (f := true) M0 B.held hg
  rw [kx_b_t] at a1
  by_cases h : sHeld S g + x = 0
  · rw [if_pos h]
    refine ⟨w1, ?_, M1, F0.tr F1⟩
    obtain ⟨ψ, hψ⟩ := kx_fu
    rw [mE_137 hψ]
    unfold mb_137_0
    simp only [ob_s, hR_I, hR_L, hR_B, hN_I, hN_L, hN_B, r1808, r1810, r1812, r1814, r1816, r1818, r1820, r1824, r1826, r1828, r1830, r1836, r1838, r1842, r1844, r1846, r1848, r1850, r1854, r1856, r1858, r1862, r1864, r1866, r1870, r1872, r1874, r1878, r1880, n4364, n4365, n4366, n4367, n4368, n4369, n4370, n4371, n4372, n4373, n4374, n4375, n4376, n4377, n4378, n4379, n4380, n4381, n4382, n4383, n4384, n4385, n4386, n4387, n4388, n4389, n4390, n4391, n4392, Nat.reduceMul, Nat.reduceAdd, Nat.reduceEqDiff, false_and, if_false, i32_nat (n := g) (by omega), i32_jx (n := g) (k := 256) (by omega) (by omega), hI_I, and_self, if_true, e, h]
    rw [h] at a1
    simp only [a1, bv_n, me_137_25, mb_137_25]
  · rw [if_neg h]
    refine ⟨_, ?_, M0, F0⟩
    obtain ⟨ψ, hψ⟩ := kx_fu
    rw [mE_137 hψ]
    unfold mb_137_0
    simp only [ob_s, hR_I, hR_L, hR_B, hN_I, hN_L, hN_B, r1808, r1810, r1812, r1814, r1816, r1818, r1820, r1824, r1826, r1828, r1830, r1836, r1838, r1842, r1844, r1846, r1848, r1850, r1854, r1856, r1858, r1862, r1864, r1866, r1870, r1872, r1874, r1878, r1880, n4364, n4365, n4366, n4367, n4368, n4369, n4370, n4371, n4372, n4373, n4374, n4375, n4376, n4377, n4378, n4379, n4380, n4381, n4382, n4383, n4384, n4385, n4386, n4387, n4388, n4389, n4390, n4391, n4392, Nat.reduceMul, Nat.reduceAdd, Nat.reduceEqDiff, false_and, if_false, i32_nat (n := g) (by omega), i32_jx (n := g) (k := 256) (by omega) (by omega), hI_I, and_self, if_true, e, h, me_137_25, mb_137_25]
theorem M_signal {l : Nat} (M : MR w S) (B : SB S) (hg : g < 256) (hl : sLock S g = i32 l) (hl2 : l < 256) : ∃ w', kx_ev wx_M (d + 3) 139 [kx_r 9 (some 4363), kx_i (i32 g)] w = some (.inl none, w') ∧ MR w' (sSignal S g) ∧ FM w w' := by
  obtain ⟨r1808, r1810, r1812, r1814, r1816, r1818, r1820, r1824, r1826, r1828, r1830, r1836, r1838, r1842, r1844, r1846, r1848, r1850, r1854, r1856, r1858, r1862, r1864, r1866, r1870, r1872, r1874, r1878, r1880, n4364, n4365, n4366, n4367, n4368, n4369, n4370, n4371, n4372, n4373, n4374, n4375, n4376, n4377, n4378, n4379, n4380, n4381, n4382, n4383, n4384, n4385, n4386, n4387, n4388, n4389, n4390, n4391, n4392⟩ := id M.sh
  have a0 := M_stg (d := d + 1) (x := 2) M B.sl2 hg
  have hsl := B.sl2
  have al : hp_I w 8775 g = i32 l := by rw [M.ag.I 8775 (by decide) g]; exact hl
  have ah : hp_I w 8773 l = sHeld S l := M.ag.I 8773 (by decide) l
  have hn : (i32 l).toNatClampNeg = l := i32_nat (by omega)
  unfold sSignal
  rw [hl, hn]
  cases h : S.sn.findIdx? (gAt g 2) with
  | none =>
    rw [stg_none h]
    refine ⟨w, ?_, M, FM.rf⟩
    obtain ⟨ψ, hψ⟩ := kx_fu
    rw [mE_139 hψ]
    unfold mb_139_0
    rw [h] at a0
    simp only [ob_s, hR_I, hR_L, hR_B, hN_I, hN_L, hN_B, r1808, r1810, r1812, r1814, r1816, r1818, r1820, r1824, r1826, r1828, r1830, r1836, r1838, r1842, r1844, r1846, r1848, r1850, r1854, r1856, r1858, r1862, r1864, r1866, r1870, r1872, r1874, r1878, r1880, n4364, n4365, n4366, n4367, n4368, n4369, n4370, n4371, n4372, n4373, n4374, n4375, n4376, n4377, n4378, n4379, n4380, n4381, n4382, n4383, n4384, n4385, n4386, n4387, n4388, n4389, n4390, n4391, n4392, Nat.reduceMul, Nat.reduceAdd, Nat.reduceEqDiff, false_and, if_false, a0, bi_n, fidx, i32_nat (n := g) (by omega), i32_jx (n := g) (k := 256) (by omega) (by omega)]
    simp
  | some k =>
    obtain ⟨e, e1, e2, e3, e4⟩ := stg_some h
    rw [e2]
    rw [h] at a0
    have he := B.ss e e3
    by_cases hh : sHeld S l = 0
    · show ∃ w', _ = _ ∧ MR w' (if sHeld S l = 0 then _ else _) ∧ _
      rw [if_pos hh]
      obtain ⟨M0, F0⟩ := M_held1 (x := 1) M hl2
      obtain ⟨w1, a1, M1, F1⟩ := M_lets (d := d) (f := true) (S := stHeld S l 1) M0 B.held e1
      rw [kx_b_t] at a1
      refine ⟨w1, ?_, M1, F0.tr F1⟩
      obtain ⟨ψ, hψ⟩ := kx_fu
      rw [mE_139 hψ]
      unfold mb_139_0
      simp only [ob_s, hR_I, hR_L, hR_B, hN_I, hN_L, hN_B, r1808, r1810, r1812, r1814, r1816, r1818, r1820, r1824, r1826, r1828, r1830, r1836, r1838, r1842, r1844, r1846, r1848, r1850, r1854, r1856, r1858, r1862, r1864, r1866, r1870, r1872, r1874, r1878, r1880, n4364, n4365, n4366, n4367, n4368, n4369, n4370, n4371, n4372, n4373, n4374, n4375, n4376, n4377, n4378, n4379, n4380, n4381, n4382, n4383, n4384, n4385, n4386, n4387, n4388, n4389, n4390, n4391, n4392, Nat.reduceMul, Nat.reduceAdd, Nat.reduceEqDiff, false_and, if_false, a0, bi_n, fidx, i32_ge (n := k) (by omega), if_true, i32_nat (n := g) (by omega), i32_jx (n := g) (k := 256) (by omega) (by omega), al, hn, i32_jx (n := l) (k := 256) (by omega) (by omega), ah, hh, a1, bv_n]
    · show ∃ w', _ = _ ∧ MR w' (if sHeld S l = 0 then _ else _) ∧ _
      rw [if_neg hh]
      obtain ⟨w1, a1, M1, F1⟩ := M_out (d := d + 1) M B.sl2 e1 B.nn
      have F2 : FR [8731, 8733, 8739, 8749, 8771, 8773, 8775] [8735] [] [8729, 8737, 8741, 8745, 8747] w1 (hp_sI w1 8733 e.1 (i32 l)) := FR.sI (by decide) FR.rf
      have M2 := M1.of_ag F2 (AG.sI M1.ag)
      have Bo : SB (sOut S e.1) := B.out
      have hno : ∀ q ∈ (sOut S e.1).sn, q.1 ≠ e.1 := fun q hq => by
        have := (List.mem_filter.mp hq).2
        simpa using this
      obtain ⟨w3, a3, M3, F3⟩ := M_stand (d := d + 1) (t := e.1) (g := l) (b := false) M2 he.1 hl2 (Bo.sl he.1 hno)
      rw [kx_b_f] at a3
      refine ⟨w3, ?_, M3, (F1.tr (FM.of F2 (by decide) (by decide) (by decide))).tr F3⟩
      obtain ⟨ψ, hψ⟩ := kx_fu
      rw [mE_139 hψ]
      unfold mb_139_0
      simp only [ob_s, hR_I, hR_L, hR_B, hN_I, hN_L, hN_B, r1808, r1810, r1812, r1814, r1816, r1818, r1820, r1824, r1826, r1828, r1830, r1836, r1838, r1842, r1844, r1846, r1848, r1850, r1854, r1856, r1858, r1862, r1864, r1866, r1870, r1872, r1874, r1878, r1880, n4364, n4365, n4366, n4367, n4368, n4369, n4370, n4371, n4372, n4373, n4374, n4375, n4376, n4377, n4378, n4379, n4380, n4381, n4382, n4383, n4384, n4385, n4386, n4387, n4388, n4389, n4390, n4391, n4392, Nat.reduceMul, Nat.reduceAdd, Nat.reduceEqDiff, false_and, if_false, a0, bi_n, fidx, i32_ge (n := k) (by omega), if_true, i32_nat (n := g) (by omega), i32_jx (n := g) (k := 256) (by omega) (by omega), al, hn, i32_jx (n := l) (k := 256) (by omega) (by omega), ah, hh, a1, F1.r, F1.n, i32_nat (n := e.1) (by omega), i32_jx (n := e.1) (k := 256) (by omega) (by omega), a3, bv_n]
/-- readers: the model counts them as they go -/
theorem kS_held_held (S : kS) (g : Nat) (x y : Int32) : stHeld (stHeld S g x) g y = stHeld S g y := by
  have e : hp_sI (hp_sI S.m 8773 g x) 8773 g y = hp_sI S.m 8773 g y := by
    unfold hp_sI
    refine Prod.ext rfl (Prod.ext ?_ rfl)
    funext a k
    show (if a = 8773 ∧ k = g then y else if a = 8773 ∧ k = g then x else _) = (if a = 8773 ∧ k = g then y else _)
    split <;> rfl
  show S.s_m (hp_sI (hp_sI S.m 8773 g x) 8773 g y) = S.s_m (hp_sI S.m 8773 g y)
  rw [e]
theorem hp_sI_comm (w : kx_H) {a b i k : Nat} (x y : Int32) (h : a ≠ b) : hp_sI (hp_sI w a i x) b k y = hp_sI (hp_sI w b k y) a i x := by
  unfold hp_sI
  refine Prod.ext rfl (Prod.ext ?_ rfl)
  funext p q
  show (if p = b ∧ q = k then y else if p = a ∧ q = i then x else _) = (if p = a ∧ q = i then x else if p = b ∧ q = k then y else _)
  by_cases h1 : p = b
  · have h2 : p ≠ a := fun e => h (e.symm.trans h1)
    simp [h1, h2, Ne.symm h]
  · simp [h1]
theorem sLets_held (S : kS) (e : kMs) (f : Bool) (g : Nat) (x : Int32) : sLets (stHeld S g x) e f = stHeld (sLets S e f) g x := by
  have e1 : hp_sI (hp_sI (hp_sB (hp_sI (hp_sB (hp_sL (hp_sI S.m 8773 g x) 8735 e.1 0) 8737 e.1 f) 8739 e.1 (-1)) 8741 e.1 false) 8731 e.1 1) 8733 e.1 (-1) = hp_sI (hp_sI (hp_sI (hp_sB (hp_sI (hp_sB (hp_sL S.m 8735 e.1 0) 8737 e.1 f) 8739 e.1 (-1)) 8741 e.1 false) 8731 e.1 1) 8733 e.1 (-1)) 8773 g x := by
    rw [hp_sI_comm _ (a := 8733) (b := 8773) _ _ (by decide), hp_sI_comm _ (a := 8731) (b := 8773) _ _ (by decide)]
    have c1 : ∀ (w : kx_H) (i : Nat) (y : Int32) (b : Bool), hp_sI (hp_sB w 8741 i b) 8773 g y = hp_sB (hp_sI w 8773 g y) 8741 i b := fun _ _ _ _ => rfl
    have c2 : ∀ (w : kx_H) (i : Nat) (y : Int32) (b : Bool), hp_sI (hp_sB w 8737 i b) 8773 g y = hp_sB (hp_sI w 8773 g y) 8737 i b := fun _ _ _ _ => rfl
    have c3 : ∀ (w : kx_H) (i : Nat) (y : Int32) (b : Int64), hp_sI (hp_sL w 8735 i b) 8773 g y = hp_sL (hp_sI w 8773 g y) 8735 i b := fun _ _ _ _ => rfl
    rw [c1, hp_sI_comm _ (a := 8739) (b := 8773) _ _ (by decide), c2, c3]
  have e2 : ∀ T : kS, sLets T e f = (((T.s_sn (T.sn.filter (fun q => q.1 != e.1))).s_m (hp_sI (hp_sI (hp_sB (hp_sI (hp_sB (hp_sL T.m 8735 e.1 0) 8737 e.1 f) 8739 e.1 (-1)) 8741 e.1 false) 8731 e.1 1) 8733 e.1 (-1))).s_rd (T.rd ++ [e.1])) := fun T => rfl
  rw [e2, e2]
  show (((S.s_sn _).s_m _).s_rd _ : kS) = _
  have e3 : (stHeld S g x).m = hp_sI S.m 8773 g x := rfl
  rw [e3, e1]
  rfl
theorem sLall_held (S : kS) (f : Bool) (g q : Nat) (h x : Int32) : ∀ n, sLall n (stHeld S g x) q h f = stHeld (sLall n S q h f) g x := by
  intro n
  induction n generalizing S with
  | zero => rfl
  | succ n ih =>
    unfold sLall
    have e1 : sStg (stHeld S g x) q h = sStg S q h := rfl
    rw [e1]
    cases sStg S q h with
    | none => rfl
    | some e =>
      show sLall n (sLets (stHeld S g x) e f) q h f = stHeld (sLall n (sLets S e f) q h f) g x
      rw [sLets_held, ih]
theorem sLall_none {S : kS} {q : Nat} {h : Int32} {f : Bool} (e : sStg S q h = none) : ∀ n, sLall n S q h f = S := by
  intro n
  cases n with
  | zero => rfl
  | succ n => unfold sLall; rw [e]
theorem cnt_out {l : List kMs} {k : Nat} {y : kMs} {p : kMs → Bool} (hk : l[k]? = some y) (nd : (l.map (·.1)).Nodup) (hp : p y = true) : (l.filter (fun e => e.1 != y.1)).countP p + 1 = l.countP p := by
  rw [← er_fl hk nd]
  obtain ⟨h1, h2⟩ := List.getElem?_eq_some_iff.mp hk
  have e : l = l.take k ++ y :: l.drop (k + 1) := by
    rw [← h2, ← List.drop_eq_getElem_cons h1, List.take_append_drop]
  rw [List.eraseIdx_eq_take_drop_succ]
  conv => rhs; rw [e]
  rw [List.countP_append, List.countP_append, List.countP_cons]
  simp [hp]
  omega
theorem M_letR_l {C : kx_C} (hC : C = kx_ev wx_M (d + 3)) (hg : g < 256) : ∀ n F w (T : kS) (r m : Nat), MR w (stHeld T g (i32 r)) → SB T → T.sn.countP (gAt g 1) = n → T.sn.length ≤ m → n + 2 ≤ F → r + n < 1000 →
    ∃ w', kx_ex (wm_135 (d + 3) C) F 14 [(0, kx_r 9 (some 4363)), (1, kx_i (i32 g)), (2, kx_i (fidx (T.sn.findIdx? (gAt g 1))))] [] w = some (.inl none, w') ∧ MR w' (if r + n = 0 then sWriter (stHeld (sLall m T g 1 true) g (i32 (r + n))) g else stHeld (sLall m T g 1 true) g (i32 (r + n))) ∧ FM w w' := by
  intro n
  induction n with
  | zero =>
    intro F w T r m M B hc hm hF hr
    obtain ⟨F, rfl⟩ : ∃ f', F = f' + 1 + 1 := ⟨F - 2, by omega⟩
    obtain ⟨r1808, r1810, r1812, r1814, r1816, r1818, r1820, r1824, r1826, r1828, r1830, r1836, r1838, r1842, r1844, r1846, r1848, r1850, r1854, r1856, r1858, r1862, r1864, r1866, r1870, r1872, r1874, r1878, r1880, n4364, n4365, n4366, n4367, n4368, n4369, n4370, n4371, n4372, n4373, n4374, n4375, n4376, n4377, n4378, n4379, n4380, n4381, n4382, n4383, n4384, n4385, n4386, n4387, n4388, n4389, n4390, n4391, n4392⟩ := id M.sh
    have h0 : T.sn.findIdx? (gAt g 1) = none := by
      rw [List.findIdx?_eq_none_iff]
      intro y hy
      rw [List.countP_eq_zero] at hc
      simpa using hc y hy
    have ah : hp_I w 8773 g = i32 r := by
      rw [M.ag.I 8773 (by decide) g]
      show hp_I (hp_sI T.m 8773 g (i32 r)) 8773 g = i32 r
      simp [hI_I]
    rw [sLall_none (stg_none h0), h0, me_135_14]
    unfold mb_135_14
    rw [if_pos (show fidx none < 0 by decide)]
    simp only [ob_s, hR_I, hR_L, hR_B, hN_I, hN_L, hN_B, r1808, r1810, r1812, r1814, r1816, r1818, r1820, r1824, r1826, r1828, r1830, r1836, r1838, r1842, r1844, r1846, r1848, r1850, r1854, r1856, r1858, r1862, r1864, r1866, r1870, r1872, r1874, r1878, r1880, n4364, n4365, n4366, n4367, n4368, n4369, n4370, n4371, n4372, n4373, n4374, n4375, n4376, n4377, n4378, n4379, n4380, n4381, n4382, n4383, n4384, n4385, n4386, n4387, n4388, n4389, n4390, n4391, n4392, Nat.reduceMul, Nat.reduceAdd, Nat.reduceEqDiff, false_and, if_false, i32_nat (n := g) (by omega), i32_jx (n := g) (k := 256) (by omega) (by omega), ah, me_135_58, mb_135_58]
    by_cases h1 : r = 0
    · subst h1
      rw [if_pos (by rfl), if_pos (by rfl)]
      obtain ⟨w1, a1, M1, F1⟩ := M_writer (d := d) M B.held hg
      refine ⟨w1, ?_, And.intro M1 F1⟩
      rw [← hC] at a1
      rw [a1, bv_n]
    · rw [if_neg (by rw [show (0 : Int32) = i32 0 from rfl, i32_eq (by omega) (by omega)]; exact h1), if_neg (by omega)]
      exact ⟨w, rfl, And.intro M FM.rf⟩
  | succ n ih =>
    intro F w T r m M B hc hm hF hr
    obtain ⟨F, rfl⟩ : ∃ f', F = f' + 1 := ⟨F - 1, by omega⟩
    obtain ⟨r1808, r1810, r1812, r1814, r1816, r1818, r1820, r1824, r1826, r1828, r1830, r1836, r1838, r1842, r1844, r1846, r1848, r1850, r1854, r1856, r1858, r1862, r1864, r1866, r1870, r1872, r1874, r1878, r1880, n4364, n4365, n4366, n4367, n4368, n4369, n4370, n4371, n4372, n4373, n4374, n4375, n4376, n4377, n4378, n4379, n4380, n4381, n4382, n4383, n4384, n4385, n4386, n4387, n4388, n4389, n4390, n4391, n4392⟩ := id M.sh
    have hl := B.sl2
    cases h : T.sn.findIdx? (gAt g 1) with
    | none =>
      exfalso
      rw [List.findIdx?_eq_none_iff] at h
      have : T.sn.countP (gAt g 1) = 0 := by
        rw [List.countP_eq_zero]
        intro y hy
        rw [h y hy]
        simp
      omega
    | some k =>
      obtain ⟨e, e1, e2, e3, e4⟩ := stg_some h
      obtain ⟨y, z1, z2, z3⟩ := fi_find.2 k h
      have hye : y = e := by rw [e1] at z1; exact (Option.some.inj z1).symm
      subst hye
      have ah : hp_I w 8773 g = i32 r := by
        rw [M.ag.I 8773 (by decide) g]
        show hp_I (hp_sI T.m 8773 g (i32 r)) 8773 g = i32 r
        simp [hI_I]
      obtain ⟨M0, F0⟩ := M_held1 (x := i32 (r + 1)) M hg
      rw [kS_held_held] at M0
      obtain ⟨w1, a1, M1, F1⟩ := M_lets (d := d + 1) (f := true) M0 B.held e1
      rw [sLets_held] at M1
      have B1 : SB (sLets T y true) := B.lets e3
      have hcnt := cnt_out e1 B.nn z3
      have a2 := M_stg (d := d + 2) (x := 1) M1 (SB.held B1).sl2 hg
      obtain ⟨m, rfl⟩ : ∃ m', m = m' + 1 := ⟨m - 1, by omega⟩
      obtain ⟨w', r1, r2, r3⟩ := ih F w1 (sLets T y true) (r + 1) m M1 B1 (by show (T.sn.filter (fun q => q.1 != y.1)).countP (gAt g 1) = n; omega) (by
        have : (T.sn.filter (fun q => q.1 != y.1)).length < T.sn.length := by
          rw [← er_fl e1 B.nn, List.length_eraseIdx_of_lt e4]
          omega
        show (T.sn.filter (fun q => q.1 != y.1)).length ≤ m
        omega) (by omega) (by omega)
      refine ⟨w', ?_, ?_⟩
      · rw [me_135_14]
        unfold mb_135_14
        rw [if_neg (show ¬ fidx (some k) < 0 by show ¬ i32 k < 0; rw [i32_neg (by omega)]; simp)]
        rw [← hC] at a1 a2
        rw [kx_b_t] at a1
        simp only [ob_s, hR_I, hR_L, hR_B, hN_I, hN_L, hN_B, r1808, r1810, r1812, r1814, r1816, r1818, r1820, r1824, r1826, r1828, r1830, r1836, r1838, r1842, r1844, r1846, r1848, r1850, r1854, r1856, r1858, r1862, r1864, r1866, r1870, r1872, r1874, r1878, r1880, n4364, n4365, n4366, n4367, n4368, n4369, n4370, n4371, n4372, n4373, n4374, n4375, n4376, n4377, n4378, n4379, n4380, n4381, n4382, n4383, n4384, n4385, n4386, n4387, n4388, n4389, n4390, n4391, n4392, Nat.reduceMul, Nat.reduceAdd, Nat.reduceEqDiff, false_and, if_false, i32_nat (n := g) (by omega), i32_jx (n := g) (k := 256) (by omega) (by omega), ah, i32_add1, fidx, a1, bv_n, a2, bi_n]
        exact r1
      · have e9 : sLall (m + 1) T g 1 true = sLall m (sLets T y true) g 1 true := by
          conv => lhs; unfold sLall
          rw [e2]
        rw [e9, show r + (n + 1) = r + 1 + n by omega]
        exact And.intro r2 ((F0.tr F1).tr r3)
theorem M_letR (M : MR w S) (B : SB S) (hg : g < 256) : ∃ w', kx_ev wx_M (d + 4) 135 [kx_r 9 (some 4363), kx_i (i32 g)] w = some (.inl none, w') ∧ MR w' (sLetR S g) ∧ FM w w' := by
  obtain ⟨r1808, r1810, r1812, r1814, r1816, r1818, r1820, r1824, r1826, r1828, r1830, r1836, r1838, r1842, r1844, r1846, r1848, r1850, r1854, r1856, r1858, r1862, r1864, r1866, r1870, r1872, r1874, r1878, r1880, n4364, n4365, n4366, n4367, n4368, n4369, n4370, n4371, n4372, n4373, n4374, n4375, n4376, n4377, n4378, n4379, n4380, n4381, n4382, n4383, n4384, n4385, n4386, n4387, n4388, n4389, n4390, n4391, n4392⟩ := id M.sh
  obtain ⟨ψ, hψ⟩ := kx_fl 2000 (by omega)
  have hl := B.sl2
  have hle := List.countP_le_length (p := gAt g 1) (l := S.sn)
  obtain ⟨M0, F0⟩ := M_held1 (x := i32 0) M hg
  have a0 := M_stg (d := d + 2) (x := 1) M0 (SB.held B).sl2 hg
  obtain ⟨w', r1, r2, r3⟩ := M_letR_l (d := d) rfl hg (S.sn.countP (gAt g 1)) (ψ + 2000) _ S 0 S.sn.length M0 B rfl (Nat.le_refl _) (by omega) (by omega)
  refine ⟨w', ?_, And.intro ?_ (F0.tr r3)⟩
  · rw [mE_135 hψ]
    unfold mb_135_0
    simp only [ob_s, hR_I, hR_L, hR_B, hN_I, hN_L, hN_B, r1808, r1810, r1812, r1814, r1816, r1818, r1820, r1824, r1826, r1828, r1830, r1836, r1838, r1842, r1844, r1846, r1848, r1850, r1854, r1856, r1858, r1862, r1864, r1866, r1870, r1872, r1874, r1878, r1880, n4364, n4365, n4366, n4367, n4368, n4369, n4370, n4371, n4372, n4373, n4374, n4375, n4376, n4377, n4378, n4379, n4380, n4381, n4382, n4383, n4384, n4385, n4386, n4387, n4388, n4389, n4390, n4391, n4392, Nat.reduceMul, Nat.reduceAdd, Nat.reduceEqDiff, false_and, if_false, i32_nat (n := g) (by omega), i32_jx (n := g) (k := 256) (by omega) (by omega)]
    rw [show (0 : Int32) = i32 0 from rfl, a0, bi_n]
    exact r1
  · unfold sLetR sLetAll sReaders
    rw [sLall_held]
    rw [Nat.zero_add] at r2
    exact r2
end M6
