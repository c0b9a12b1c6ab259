/-! the model's calls: tasks -/
section CE
variable {w : kx_H} {d n t g k : Nat} {S : kS} {c x : Int32} {v : Int64} {b goes r f : Bool}
theorem M_sp_l {C : kx_C} (M : MR w S) : ∀ n j F, j + n = 256 → n + 1 ≤ F → (∀ i, i < j → hp_B S.m 8729 i = true) →
    ∃ k F', k ≤ 256 ∧ F ≤ F' + n + 1 ∧ kx_ex (wm_120 d C) F 7 [(0, kx_r 9 (some 4363)), (1, kx_i (i32 j))] [] w = kx_ex (wm_120 d C) F' 29 [(0, kx_r 9 (some 4363)), (1, kx_i (i32 k))] [] w ∧ (List.range 256).find? (fun c => !hp_B S.m 8729 c) = if k = 256 then none else some k := by
  obtain ⟨r1808, r1810, r1812, r1814, r1816, r1818, r1820, r1824, r1826, r1828, r1830, r1836, r1838, r1842, r1844, r1846, r1848, r1850, r1854, r1856, r1858, r1862, r1864, r1866, r1870, r1872, r1874, r1878, r1880, n4364, n4365, n4366, n4367, n4368, n4369, n4370, n4371, n4372, n4373, n4374, n4375, n4376, n4377, n4378, n4379, n4380, n4381, n4382, n4383, n4384, n4385, n4386, n4387, n4388, n4389, n4390, n4391, n4392⟩ := id M.sh
  intro n
  induction n with
  | zero =>
    intro j F hj hF hp
    obtain ⟨F, rfl⟩ : ∃ f', F = f' + 1 := ⟨F - 1, by omega⟩
    obtain rfl : j = 256 := by omega
    refine ⟨256, F, by omega, by omega, ?_, ?_⟩
    · rw [me_120_7]
      unfold mb_120_7
      rw [if_pos (show (256 : Int32) ≤ i32 256 by decide)]
    · rw [if_pos rfl]
      exact fr_none (fun i hi => by simp [hp i hi])
  | succ n ih =>
    intro j F hj hF hp
    obtain ⟨F, rfl⟩ : ∃ f', F = f' + 1 := ⟨F - 1, by omega⟩
    have a := M.ag.B 8729 (by decide) j
    rw [me_120_7]
    unfold mb_120_7
    rw [if_neg (show ¬ (256 : Int32) ≤ i32 j by rw [show (256 : Int32) = i32 256 from rfl, i32_le (by omega) (by omega)]; omega)]
    simp only [ob_s, hR_I, hR_L, hR_B, hN_I, hN_L, hN_B, r1808, r1810, r1812, r1814, r1816, r1818, r1820, r1824, r1826, r1828, r1830, r1836, r1838, r1842, r1844, r1846, r1848, r1850, r1854, r1856, r1858, r1862, r1864, r1866, r1870, r1872, r1874, r1878, r1880, n4364, n4365, n4366, n4367, n4368, n4369, n4370, n4371, n4372, n4373, n4374, n4375, n4376, n4377, n4378, n4379, n4380, n4381, n4382, n4383, n4384, n4385, n4386, n4387, n4388, n4389, n4390, n4391, n4392, Nat.reduceMul, Nat.reduceAdd, Nat.reduceEqDiff, false_and, if_false, i32_nat (n := j) (by omega), i32_jx (n := j) (k := 256) (by omega) (by omega), a, kx_b_0, i32_add1]
    by_cases h : hp_B S.m 8729 j = false
    · rw [if_pos h]
      refine ⟨j, F, by omega, by omega, rfl, ?_⟩
      rw [if_neg (by omega)]
      exact fr_some (fun i hi => by simp [hp i hi]) (by omega) (by simp [h])
    · rw [if_neg h]
      obtain ⟨k, F', h1, h2, h3, h4⟩ := ih (j + 1) F (by omega) (by omega) (fun i hi => by
        by_cases hij : i = j
        · subst hij; simpa using h
        · exact hp i (by omega))
      exact ⟨k, F', h1, by omega, h3, h4⟩
/-- a task that is not there has the state 0 while somebody is current -/
theorem M_spawn (M : MR w S) (I : SI S n) (hd : S.cur ≠ none → ∀ t, t < 256 → hp_B S.m 8729 t = false → stt S t = 0) : ∃ w', kx_ev wx_M (d + 8) 120 [kx_r 9 (some 4363)] w = some (.inl (some (.inl (pSpawn S).2)), w') ∧ MR w' (pSpawn S).1 ∧ FM w w' := by
  obtain ⟨r1808, r1810, r1812, r1814, r1816, r1818, r1820, r1824, r1826, r1828, r1830, r1836, r1838, r1842, r1844, r1846, r1848, r1850, r1854, r1856, r1858, r1862, r1864, r1866, r1870, r1872, r1874, r1878, r1880, n4364, n4365, n4366, n4367, n4368, n4369, n4370, n4371, n4372, n4373, n4374, n4375, n4376, n4377, n4378, n4379, n4380, n4381, n4382, n4383, n4384, n4385, n4386, n4387, n4388, n4389, n4390, n4391, n4392⟩ := id M.sh
  obtain ⟨M0, F0⟩ := M_th (x := 0) M
  obtain ⟨ψ, hψ⟩ := kx_fl 2000 (by omega)
  obtain ⟨w1, a1, M1, F1⟩ := M_fail (d := d + 6) (x := 1) M0
  obtain ⟨k, F', hk, hF, e1, e2⟩ := M_sp_l (d := d + 7) (C := kx_ev wx_M (d + 7)) M0 256 0 (ψ + 2000) (by omega) (by omega) (fun i hi => by omega)
  obtain ⟨F', rfl⟩ : ∃ f, F' = f + 1 + 1 := ⟨F' - 2, by omega⟩
  have e3 : (List.range 256).find? (fun c => !hp_B S.m 8729 c) = if k = 256 then none else some k := e2
  rw [mE_120 hψ]
  unfold mb_120_0
  simp only [ob_s]
  rw [show kx_i (0 : Int32) = kx_i (i32 0) from rfl, e1, me_120_29]
  unfold mb_120_29
  simp only [ob_s, me_120_43, mb_120_43, a1, bi_n]
  have out : S.cur = none ∨ k = 256 → pSpawn S = (sTh S 1, 0) := by
    unfold pSpawn
    rw [e3]
    rintro (h | h)
    · by_cases h2 : k = 256
      · rw [if_pos h2]
      · rw [if_neg h2]
        exact if_pos h
    · rw [if_pos h]
  rcases cur_or S with hc | ⟨t, hc⟩
  · rw [out (Or.inl hc), cu_n M0 hc, if_pos (show (-1 : Int32) < 0 by decide)]
    exact ⟨w1, rfl, And.intro M1 (F0.tr F1)⟩
  · have ht := I.b.cu t hc
    rw [cu_s M0 hc, if_neg (show ¬ i32 t < 0 by rw [i32_neg (by omega)]; simp)]
    by_cases h2 : k = 256
    · rw [out (Or.inr h2), h2, if_pos (show i32 256 = 256 by rfl)]
      exact ⟨w1, rfl, And.intro M1 (F0.tr F1)⟩
    · rw [if_neg (show ¬ i32 k = 256 by rw [show (256 : Int32) = i32 256 from rfl, i32_eq (by omega) (by omega)]; exact h2)]
      have hcn : ¬ S.cur = none := by rw [hc]; simp
      have hp : pSpawn S = (sWake (sHas (kS.s_m ((kS.s_th S (0))) (hp_sB S.m 8729 k true)) k 0 false (-1) false) k, i32 k) := by
        unfold pSpawn
        rw [e3, if_neg h2]
        exact if_neg hcn
      rw [hp]
      have hkf : hp_B S.m 8729 k = false := by
        rw [if_neg h2] at e3
        have := List.find?_some e3
        simpa using this
      have hk0 := hd hcn k (by omega) hkf
      have F2 : FR [8731, 8733, 8739, 8749, 8771, 8773, 8775] [8735] [] [8729, 8737, 8741, 8745, 8747] (hp_sI w 1800 4363 0) (hp_sB (hp_sI w 1800 4363 0) 8729 k true) := FR.sB (by decide) FR.rf
      have M2 := M0.of_ag F2 (AG.sB M0.ag)
      have B2 : SB (kS.s_m ((kS.s_th S (0))) (hp_sB S.m 8729 k true)) := I.b.of I.b.cu (fun _ _ => rfl) (List.Sublist.refl _) (List.Sublist.refl _) (List.Sublist.refl _) (List.Sublist.refl _)
      obtain ⟨w3, a3, M3, F3⟩ := M_has (d := d + 6) (t := k) (n := 0) (f := false) (x := -1) (b := false) M2 (by omega)
      have hn : nIn S k := I.b.nin0 hk0
      obtain ⟨w4, a4, M4, F4⟩ := M_wake (d := d + 6) M3 (t := k) (by omega) (I.b.rl (by omega) hn.1)
      rw [kx_b_f] at a3
      refine ⟨w4, ?_, And.intro M4 (((F0.tr (FM.of F2 (by decide) (by decide) (by decide))).tr F3).tr F4)⟩
      simp only [ob_s, hR_I, hR_L, hR_B, hN_I, hN_L, hN_B, r1808, r1810, r1812, r1814, r1816, r1818, r1820, r1824, r1826, r1828, r1830, r1836, r1838, r1842, r1844, r1846, r1848, r1850, r1854, r1856, r1858, r1862, r1864, r1866, r1870, r1872, r1874, r1878, r1880, n4364, n4365, n4366, n4367, n4368, n4369, n4370, n4371, n4372, n4373, n4374, n4375, n4376, n4377, n4378, n4379, n4380, n4381, n4382, n4383, n4384, n4385, n4386, n4387, n4388, n4389, n4390, n4391, n4392, Nat.reduceMul, Nat.reduceAdd, Nat.reduceEqDiff, false_and, if_false, i32_nat (n := k) (by omega), i32_jx (n := k) (k := 256) (by omega) (by omega), kx_sb_1, a3, bv_n, a4]
theorem M_way (M : MR w S) (I : SI S n) (hn : n < 512) : ∃ w', kx_ev wx_M (d + 7) 121 [kx_r 9 (some 4363)] w = some (.inl (some (.inl (pWay S).2)), w') ∧ MR w' (pWay S).1 ∧ FM w w' := by
  obtain ⟨M0, F0⟩ := M_th (x := 0) M
  unfold pWay
  obtain ⟨ψ, hψ⟩ := kx_fu
  rw [mE_121 hψ]
  unfold mb_121_0
  simp only [ob_s]
  rcases cur_or S with hc | ⟨t, hc⟩
  · obtain ⟨w1, a1, M1, F1⟩ := M_fail (d := d + 5) (x := 1) M0
    rw [hc, cu_n M0 hc, if_neg (show ¬ (0 : Int32) ≤ -1 by decide)]
    refine ⟨w1, ?_, And.intro M1 (F0.tr F1)⟩
    rw [a1, bi_n]
  · have ht := I.b.cu t hc
    have h0 := I.cs t hc
    have hni := I.b.nin0 h0
    rw [hc, cu_s M0 hc, if_pos (show (0 : Int32) ≤ i32 t by rw [i32_ge (by omega)]; trivial)]
    obtain ⟨w1, a1, M1, F1⟩ := M_wake (d := d + 5) M0 ht (I.b.rl ht hni.1)
    obtain ⟨w2, a2, M2, F2⟩ := M_next (d := d) (k := n) M1 (SB.wake (SB.th I.b) ht hni) I.l (by omega) I.a
    refine ⟨w2, ?_, And.intro M2 ((F0.tr F1).tr F2)⟩
    rw [a1, bv_n, a2, bv_n, M2.cu]
theorem M_sleep (M : MR w S) (I : SI S n) (hn : n < 512) : ∃ w', kx_ev wx_M (d + 8) 123 [kx_r 9 (some 4363), kx_l v] w = some (.inl (some (.inl (pSleep S v).2)), w') ∧ MR w' (pSleep S v).1 ∧ FM w w' := by
  obtain ⟨r1808, r1810, r1812, r1814, r1816, r1818, r1820, r1824, r1826, r1828, r1830, r1836, r1838, r1842, r1844, r1846, r1848, r1850, r1854, r1856, r1858, r1862, r1864, r1866, r1870, r1872, r1874, r1878, r1880, n4364, n4365, n4366, n4367, n4368, n4369, n4370, n4371, n4372, n4373, n4374, n4375, n4376, n4377, n4378, n4379, n4380, n4381, n4382, n4383, n4384, n4385, n4386, n4387, n4388, n4389, n4390, n4391, n4392⟩ := id M.sh
  obtain ⟨M0, F0⟩ := M_th (x := 0) M
  have hl1 := I.l.1
  have hl2 := I.l.2
  unfold pSleep
  obtain ⟨ψ, hψ⟩ := kx_fu
  rw [mE_123 hψ]
  unfold mb_123_0
  simp only [ob_s, lg_le, lg_pos]
  by_cases h1 : 1000000000 < v
  · rw [if_pos h1, if_neg (not_not_intro h1)]
    obtain ⟨w1, a1, M1, F1⟩ := M_fail (d := d + 6) (x := 1) M0
    refine ⟨w1, ?_, And.intro M1 (F0.tr F1)⟩
    rw [a1, bi_n]
  · rw [if_neg h1, if_pos h1]
    rcases cur_or S with hc | ⟨t, hc⟩
    · obtain ⟨w1, a1, M1, F1⟩ := M_fail (d := d + 6) (x := 2) M0
      rw [hc, cu_n M0 hc, if_neg (show ¬ (0 : Int32) ≤ -1 by decide)]
      refine ⟨w1, ?_, And.intro M1 (F0.tr F1)⟩
      rw [a1, bi_n]
    · have ht := I.b.cu t hc
      have h0 := I.cs t hc
      have hni := I.b.nin0 h0
      rw [hc, cu_s M0 hc, if_pos (show (0 : Int32) ≤ i32 t by rw [i32_ge (by omega)]; trivial)]
      by_cases h2 : 0 < v
      · have h3 : ¬ v ≤ 0 := by
          rw [Int64.lt_iff_toInt_lt] at h2
          rw [Int64.le_iff_toInt_le]
          omega
        rw [if_pos h2]
        simp only [if_neg h3]
        have F1 : FR [1876, 8783] [8785] [] [] (hp_sI w 1800 4363 0) (hp_sI (hp_sL (hp_sI (hp_sI w 1800 4363 0) 8783 S.me.length (ecode (.inl t))) 8785 S.me.length (S.clk + v)) 1876 4363 (i32 (S.me.length + 1))) := FR.sI (by decide) (FR.sL (by decide) (FR.sI (by decide) FR.rf))
        have M1 := M0.of_me F1 (Lme.push M0.me)
        have BR := SB.rest (how := 5) (place := -1) I.b hni ht [] [(Sum.inl t, S.clk + v)] [] (by simp) (Or.inr ⟨_, rfl, rfl⟩) (Or.inl rfl)
        simp only [List.append_nil] at BR
        have ha : SA (kS.s_me ((kS.s_th S (0))) (S.me ++ [(Sum.inl t, S.clk + v)])) := by
          have := I.a
          show S.al = (S.me ++ [(Sum.inl t, S.clk + v)] : List kMe).countP (fun e : kMe => e.1.isRight)
          rw [List.countP_append]
          simpa [SA] using this
        obtain ⟨w2, a2, M2, F2⟩ := M_rest (d := d) (k := n + 1) (how := 5) (place := -1) (S := (kS.s_me ((kS.s_th S (0))) (S.me ++ [(Sum.inl t, S.clk + v)]))) M1 hc ht BR ⟨by show S.mv.length + (S.me ++ [_]).length ≤ _; simp; omega, by show S.mo.length + S.mt.length ≤ _; omega⟩ (by omega) ha
        refine ⟨w2, ?_, And.intro M2 ((F0.tr (FM.of F1 (by decide) (by decide) (by decide))).tr F2)⟩
        have e2 : hp_I w 1876 4363 = i32 S.me.length := M.me.1
        have e3 : hp_L w 1806 4363 = S.clk := M.ck
        have e5 : hp_I w 1802 4363 = i32 t := cu_s M hc
        have hml : (512 ≤ S.me.length) = False := by simp; omega
        have a3 := a2
        simp only [ecode] at a3
        simp only [ob_s, hR_I, hR_L, hR_B, hN_I, hN_L, hN_B, r1808, r1810, r1812, r1814, r1816, r1818, r1820, r1824, r1826, r1828, r1830, r1836, r1838, r1842, r1844, r1846, r1848, r1850, r1854, r1856, r1858, r1862, r1864, r1866, r1870, r1872, r1874, r1878, r1880, n4364, n4365, n4366, n4367, n4368, n4369, n4370, n4371, n4372, n4373, n4374, n4375, n4376, n4377, n4378, n4379, n4380, n4381, n4382, n4383, n4384, n4385, n4386, n4387, n4388, n4389, n4390, n4391, n4392, Nat.reduceMul, Nat.reduceAdd, Nat.reduceEqDiff, false_and, if_false, hI_I, hI_L, hL_I, e2, e3, e5, i32_nat (n := S.me.length) (by omega), i32_neg (n := S.me.length) (by omega), hml, or_self, i32_add1, and_self, if_true, a3, bv_n]
        rw [M2.cu]
      · have h3 : v ≤ 0 := by
          rw [Int64.lt_iff_toInt_lt] at h2
          rw [Int64.le_iff_toInt_le]
          omega
        rw [if_neg h2]
        simp only [if_pos h3]
        obtain ⟨w1, a1, M1, F1⟩ := M_way (d := d) (n := n) (S := sTh S 0) M0 ⟨SB.th I.b, I.l, I.a, I.cs, I.ml, I.mc, I.gl, I.al, I.lk⟩ hn
        have e : pWay (sTh S 0) = pWay S := by
          unfold pWay
          have : (sTh S 0).cur = S.cur := rfl
          rw [this]
          cases S.cur <;> rfl
        rw [e] at a1 M1
        refine ⟨w1, ?_, And.intro M1 (F0.tr F1)⟩
        rw [a1, bi_n]
theorem M_gate (M : MR w S) (I : SI S n) : ∃ w', kx_ev wx_M (d + 8) 124 [kx_r 9 (some 4363), kx_i c, kx_i x] w = some (.inl (some (.inl (pGate S c x).2)), w') ∧ MR w' (pGate S c x).1 ∧ FM w w' := by
  obtain ⟨r1808, r1810, r1812, r1814, r1816, r1818, r1820, r1824, r1826, r1828, r1830, r1836, r1838, r1842, r1844, r1846, r1848, r1850, r1854, r1856, r1858, r1862, r1864, r1866, r1870, r1872, r1874, r1878, r1880, n4364, n4365, n4366, n4367, n4368, n4369, n4370, n4371, n4372, n4373, n4374, n4375, n4376, n4377, n4378, n4379, n4380, n4381, n4382, n4383, n4384, n4385, n4386, n4387, n4388, n4389, n4390, n4391, n4392⟩ := id M.sh
  obtain ⟨M0, F0⟩ := M_th (x := 0) M
  have ch := M_isGa (d := d + 6) (x := x) M0
  have ch' : isGa (sTh S 0) x = isGa S x := rfl
  rw [ch'] at ch
  have hgl := I.gl
  obtain ⟨w1, a1, M1, F1⟩ := M_fail (d := d + 6) (x := 1) M0
  have go : ∀ f, ∃ w', kx_ex (wm_124 (d + 7) (kx_ev wx_M (d + 7))) (f + 1) 42 [(0, kx_r 9 (some 4363)), (1, kx_i c), (2, kx_i x)] [] (hp_sI w 1800 4363 0) = some (.inl (some (.inl (if S.gates = 256 then (sTh S 2, 0) else
  ((kS.s_gates ((kS.s_m ((kS.s_th S (0))) (hp_sI (hp_sI (hp_sI S.m 8771 S.gates c) 8775 S.gates x) 8773 S.gates 0))) (S.gates + 1)), i32 S.gates) : kS × Int32).2)), w') ∧ MR w' (if S.gates = 256 then (sTh S 2, 0) else
  ((kS.s_gates ((kS.s_m ((kS.s_th S (0))) (hp_sI (hp_sI (hp_sI S.m 8771 S.gates c) 8775 S.gates x) 8773 S.gates 0))) (S.gates + 1)), i32 S.gates) : kS × Int32).1 ∧ FM w w' := by
    intro f
    rw [me_124_42]
    unfold mb_124_42
    have eg : hp_I w 1860 4363 = i32 S.gates := M.ga
    by_cases h : S.gates = 256
    · rw [if_pos h]
      obtain ⟨w2, a2, M2, F2⟩ := M_fail (d := d + 6) (x := 2) M0
      refine ⟨w2, ?_, And.intro M2 (F0.tr F2)⟩
      simp only [ob_s, hI_I, Nat.reduceEqDiff, false_and, if_false, eg, h]
      rw [if_pos (show i32 256 = 256 by rfl), a2, bi_n]
    · rw [if_neg h]
      have F3 : FR [8731, 8733, 8739, 8749, 8771, 8773, 8775] [8735] [] [8729, 8737, 8741, 8745, 8747] (hp_sI w 1800 4363 0) (hp_sI (hp_sI (hp_sI (hp_sI w 1800 4363 0) 8771 S.gates c) 8775 S.gates x) 8773 S.gates 0) := FR.sI (by decide) (FR.sI (by decide) (FR.sI (by decide) FR.rf))
      have M3 := M0.of_ag F3 (AG.sI (AG.sI (AG.sI M0.ag)))
      have F4 : FR [1860] [] [] [] (hp_sI (hp_sI (hp_sI (hp_sI w 1800 4363 0) 8771 S.gates c) 8775 S.gates x) 8773 S.gates 0) (hp_sI (hp_sI (hp_sI (hp_sI (hp_sI w 1800 4363 0) 8771 S.gates c) 8775 S.gates x) 8773 S.gates 0) 1860 4363 (i32 (S.gates + 1))) := FR.sI (by decide) FR.rf
      have M4 := M3.of_ga (v := S.gates + 1) F4 (by simp [hI_I])
      refine ⟨_, ?_, And.intro M4 ((F0.tr (FM.of F3 (by decide) (by decide) (by decide))).tr (FM.of F4 (by decide) (by decide) (by decide)))⟩
      have hgk : (256 ≤ S.gates) = False := by simp; omega
      simp only [ob_s, hR_I, hR_L, hR_B, hN_I, hN_L, hN_B, r1808, r1810, r1812, r1814, r1816, r1818, r1820, r1824, r1826, r1828, r1830, r1836, r1838, r1842, r1844, r1846, r1848, r1850, r1854, r1856, r1858, r1862, r1864, r1866, r1870, r1872, r1874, r1878, r1880, n4364, n4365, n4366, n4367, n4368, n4369, n4370, n4371, n4372, n4373, n4374, n4375, n4376, n4377, n4378, n4379, n4380, n4381, n4382, n4383, n4384, n4385, n4386, n4387, n4388, n4389, n4390, n4391, n4392, Nat.reduceMul, Nat.reduceAdd, Nat.reduceEqDiff, false_and, if_false, hI_I, eg, i32_nat (n := S.gates) (by omega), i32_neg (n := S.gates) (by omega), hgk, or_self, i32_add1, and_self, if_true, i32_sub1]
      rw [if_neg (show ¬ i32 S.gates = 256 by rw [show (256 : Int32) = i32 256 from rfl, i32_eq (by omega) (by omega)]; exact h)]
  unfold pGate
  obtain ⟨ψ, hψ⟩ := kx_fu
  rw [mE_124 hψ]
  unfold mb_124_0
  simp only [ob_s, me_124_36, mb_124_36, a1, bi_n]
  by_cases h1 : c < 0
  · rw [if_pos h1, if_pos (Or.inl h1)]
    exact ⟨w1, rfl, And.intro M1 (F0.tr F1)⟩
  · rw [if_neg h1]
    by_cases h2 : 4 < c
    · rw [if_pos h2, if_pos (Or.inr (Or.inl h2))]
      exact ⟨w1, rfl, And.intro M1 (F0.tr F1)⟩
    · rw [if_neg h2]
      by_cases h3 : c = 3
      · rw [if_pos h3]
        rw [ch, bi_n]
        rcases ga_or S x with hA | hA
        · rw [hA, kx_b_f, if_pos rfl, a1, bi_n, if_pos (show c < 0 ∨ 4 < c ∨ c = 3 ∧ (false = false ∨ _) from Or.inr (Or.inr ⟨h3, Or.inl rfl⟩))]
          exact ⟨w1, rfl, And.intro M1 (F0.tr F1)⟩
        · obtain ⟨g, hg, rfl⟩ := isGa_t hgl hA
          have ak : hp_I w 8771 g = sKind S g := M.ag.I 8771 (by decide) g
          have hgk : (256 ≤ g) = False := by simp; omega
          simp only [hA, kx_b_t, if_neg (show ¬ (1 : Int32) = 0 by decide), ob_s, hR_I, hR_L, hR_B, hN_I, hN_L, hN_B, r1808, r1810, r1812, r1814, r1816, r1818, r1820, r1824, r1826, r1828, r1830, r1836, r1838, r1842, r1844, r1846, r1848, r1850, r1854, r1856, r1858, r1862, r1864, r1866, r1870, r1872, r1874, r1878, r1880, n4364, n4365, n4366, n4367, n4368, n4369, n4370, n4371, n4372, n4373, n4374, n4375, n4376, n4377, n4378, n4379, n4380, n4381, n4382, n4383, n4384, n4385, n4386, n4387, n4388, n4389, n4390, n4391, n4392, Nat.reduceMul, Nat.reduceAdd, Nat.reduceEqDiff, false_and, if_false, i32_nat (n := g) (by omega), i32_neg (n := g) (by omega), hgk, or_self, hI_I, ak, a1, bi_n]
          by_cases k0 : sKind S g = 0
          · rw [if_pos k0, if_neg (by simp [h1, h2, k0])]
            exact go _
          · rw [if_neg k0, if_pos (Or.inr (Or.inr ⟨h3, Or.inr k0⟩))]
            exact ⟨w1, rfl, And.intro M1 (F0.tr F1)⟩
      · rw [if_neg h3, if_neg (by simp [h1, h2, h3])]
        exact go _
end CE
