/-! the model's calls: close, channel, release, spawn -/
theorem fr_some {n j : Nat} {p : Nat → Bool} (h : ∀ i, i < j → p i = false) (hj : j < n) (hp : p j = true) : (List.range n).find? p = some j := by
  rw [List.find?_eq_some_iff_getElem]
  refine ⟨hp, j, by simpa using hj, by simp, fun i hi => ?_⟩
  simp [h i hi]
theorem fr_none {n : Nat} {p : Nat → Bool} (h : ∀ i, i < n → p i = false) : (List.range n).find? p = none := by
  rw [List.find?_eq_none]
  intro x hx
  rw [h x (List.mem_range.mp hx)]
  simp
section CC
variable {w : kx_H} {d n : Nat} {S : kS} {c x : Int32} {v : Int64} {b : Bool}
theorem met_lt {e : kMo} {f b : Bool} {v : Int64} (he : e ∈ S.mo) : (sMet S e v f b).mo.length < S.mo.length := by
  show (S.mo.filter (fun q => q.1 != e.1)).length < S.mo.length
  refine Nat.lt_of_le_of_ne (List.length_filter_le _ _) (fun h => ?_)
  have := (List.length_filter_eq_length_iff.mp h) e he
  simp at this
theorem M_all_a {C : kx_C} (hC : C = kx_ev wx_M (d + 7)) {k : Nat} (hk : k < 512) : ∀ n F w (S : kS), MR w S → SB S → S.mo.length ≤ n → n ≤ 4000 → n + 1 ≤ F →
    ∃ w' F', F ≤ F' + n + 1 ∧ kx_ex (wm_115 (d + 7) C) F 72 [(0, kx_r 9 (some 4363)), (1, kx_i (i32 k)), (2, kx_i (fidx (S.mo.findIdx? (oAt k false))))] [] w =
      kx_ex (wm_115 (d + 7) C) F' 101 [(0, kx_r 9 (some 4363)), (1, kx_i (i32 k)), (2, kx_i (fidx ((sAll n S k false false false).mo.findIdx? (oAt k true))))] [] w' ∧ MR w' (sAll n S k false false false) ∧ FM w w' := by
  intro n
  induction n with
  | zero =>
    intro F w S M B hn h4 hF
    obtain ⟨F, rfl⟩ : ∃ f', F = f' + 1 := ⟨F - 1, by omega⟩
    have h0 : S.mo = [] := List.eq_nil_of_length_eq_zero (by omega)
    have a1 := M_fst1 (d := d + 6) M (by omega) hk
    refine ⟨w, F, by omega, ?_, And.intro M FM.rf⟩
    rw [me_115_72, h0, List.findIdx?_nil]
    unfold mb_115_72
    rw [if_pos (show fidx none < 0 by decide)]
    rw [← hC] at a1
    simp only [ob_s, a1, bi_n]
    rfl
  | succ n ih =>
    intro F w S M B hn h4 hF
    obtain ⟨F, rfl⟩ : ∃ f', F = f' + 1 := ⟨F - 1, by omega⟩
    rw [me_115_72]
    unfold mb_115_72 sAll
    cases h : S.mo.findIdx? (oAt k false) with
    | none =>
      have a1 := M_fst1 (d := d + 6) M (by omega) hk
      have e2 : sFst S k false = none := fi_find.1 h
      rw [e2]
      refine ⟨w, F, by omega, ?_, And.intro M FM.rf⟩
      rw [if_pos (show fidx none < 0 by decide)]
      rw [← hC] at a1
      simp only [ob_s, a1, bi_n]
    | some j =>
      obtain ⟨e, e1, e2, e3⟩ := fi_find.2 j h
      have hj := (List.getElem?_eq_some_iff.mp e1).1
      have e2' : sFst S k false = some e := e2
      rw [e2']
      obtain ⟨w1, a1, M1, F1⟩ := M_met (d := d + 5) (n := 0) (f := false) (b := false) (L := S.me) M B (by omega) e1
      have hem := List.mem_of_getElem? e1
      have B1 : SB (sMet S e 0 false false) := B.met hem
      have hlt := met_lt (S := S) (v := 0) (f := false) (b := false) hem
      have a2 := M_fst0 (d := d + 6) M1 (by omega) hk
      obtain ⟨w', F', f1, r1, r2, r3⟩ := ih F w1 (sMet S e 0 false false) M1 B1 (by omega) (by omega) (by omega)
      refine ⟨w', F', by omega, ?_, And.intro r2 (F1.tr r3)⟩
      rw [if_neg (show ¬ fidx (some j) < 0 by show ¬ i32 j < 0; rw [i32_neg (by omega)]; simp)]
      rw [kx_b_f] at a1
      rw [← hC] at a1 a2
      simp only [ob_s, fidx, a1, bv_n, a2, bi_n]
      exact r1
theorem M_all_b {C : kx_C} (hC : C = kx_ev wx_M (d + 7)) {k : Nat} (hk : k < 512) : ∀ n F w (S : kS), MR w S → SB S → S.mo.length ≤ n → n ≤ 4000 → n + 1 ≤ F →
    ∃ w', kx_ex (wm_115 (d + 7) C) F 101 [(0, kx_r 9 (some 4363)), (1, kx_i (i32 k)), (2, kx_i (fidx (S.mo.findIdx? (oAt k true))))] [] w =
      some (.inl none, w') ∧ MR w' (sAll n S k true false true) ∧ FM w w' := by
  intro n
  induction n with
  | zero =>
    intro F w S M B hn h4 hF
    obtain ⟨F, rfl⟩ : ∃ f', F = f' + 1 := ⟨F - 1, by omega⟩
    have h0 : S.mo = [] := List.eq_nil_of_length_eq_zero (by omega)
    refine ⟨w, ?_, And.intro M FM.rf⟩
    rw [me_115_101, h0, List.findIdx?_nil]
    unfold mb_115_101
    rw [if_pos (show fidx none < 0 by decide)]
  | succ n ih =>
    intro F w S M B hn h4 hF
    obtain ⟨F, rfl⟩ : ∃ f', F = f' + 1 := ⟨F - 1, by omega⟩
    rw [me_115_101]
    unfold mb_115_101 sAll
    cases h : S.mo.findIdx? (oAt k true) with
    | none =>
      have e2 : sFst S k true = none := fi_find.1 h
      rw [e2]
      refine ⟨w, ?_, And.intro M FM.rf⟩
      rw [if_pos (show fidx none < 0 by decide)]
    | some j =>
      obtain ⟨e, e1, e2, e3⟩ := fi_find.2 j h
      have hj := (List.getElem?_eq_some_iff.mp e1).1
      have e2' : sFst S k true = some e := e2
      rw [e2']
      obtain ⟨w1, a1, M1, F1⟩ := M_met (d := d + 5) (n := 0) (f := false) (b := true) (L := S.me) M B (by omega) e1
      have hem := List.mem_of_getElem? e1
      have B1 : SB (sMet S e 0 false true) := B.met hem
      have hlt := met_lt (S := S) (v := 0) (f := false) (b := true) hem
      have a2 := M_fst1 (d := d + 6) M1 (by omega) hk
      obtain ⟨w', r1, r2, r3⟩ := ih F w1 (sMet S e 0 false true) M1 B1 (by omega) (by omega) (by omega)
      refine ⟨w', ?_, And.intro r2 (F1.tr r3)⟩
      rw [if_neg (show ¬ fidx (some j) < 0 by show ¬ i32 j < 0; rw [i32_neg (by omega)]; simp)]
      rw [kx_b_f, kx_b_t] at a1
      rw [← hC] at a1 a2
      simp only [ob_s, fidx, a1, bv_n, a2, bi_n]
      exact r1
theorem all_len {k : Nat} {g f b : Bool} : ∀ n (S : kS), (sAll n S k g f b).mo.length ≤ S.mo.length := by
  intro n
  induction n with
  | zero => intro S; exact Nat.le_refl _
  | succ n ih =>
    intro S
    unfold sAll
    cases h : sFst S k g with
    | none => exact Nat.le_refl _
    | some e => exact Nat.le_trans (ih _) (Nat.le_of_lt (met_lt (sFst_mem h).1))
theorem M_close (M : MR w S) (I : SI S n) (hn : n < 512) : ∃ w', kx_ev wx_M (d + 8) 115 [kx_r 9 (some 4363), kx_i c] w = some (.inl none, w') ∧ MR w' (pClose S c) ∧ FM w w' := by
  obtain ⟨r1808, r1810, r1812, r1814, r1816, r1818, r1820, r1824, r1826, r1828, r1830, r1836, r1838, r1842, r1844, r1846, r1848, r1850, r1854, r1856, r1858, r1862, r1864, r1866, r1870, r1872, r1874, r1878, r1880, n4364, n4365, n4366, n4367, n4368, n4369, n4370, n4371, n4372, n4373, n4374, n4375, n4376, n4377, n4378, n4379, n4380, n4381, n4382, n4383, n4384, n4385, n4386, n4387, n4388, n4389, n4390, n4391, n4392⟩ := id M.sh
  have ch := M_isCh (d := d + 6) (x := c) M
  have hl2 := I.l.2
  have bad : ∀ (e : Int32), e = 1 ∨ e = 2 ∨ e = 3 → ∀ f, ∃ w', kx_ex (wm_115 (d + 7) (kx_ev wx_M (d + 7))) (f + 1) 47 [(0, kx_r 9 (some 4363)), (1, kx_i c)] [kx_i e, kx_r 9 (some 4363)] w = some (.inl none, w') ∧ MR w' (sTh S e) ∧ FM w w' := by
    intro e he f
    obtain ⟨M1, F1⟩ := M_th (x := e) M
    refine ⟨_, ?_, And.intro M1 F1⟩
    rw [me_115_47]
    unfold mb_115_47
    have e1 : hp_I (hp_sI w 1800 4363 e) 1800 4363 = e := by simp [hI_I]
    simp only [ob_s, e1]
    rcases he with rfl | rfl | rfl
    · rw [if_neg (by decide)]
    · rw [if_neg (by decide)]
    · rw [if_neg (by decide)]
  obtain ⟨ψ, hψ⟩ := kx_fl 5000 (by omega)
  obtain ⟨φ, hφ⟩ : ∃ φ, ψ + 5000 = φ + 4 := ⟨ψ + 4996, by omega⟩
  unfold pClose
  by_cases hA : c ≠ -1 ∧ isCh S c = false
  · rw [if_pos hA, mE_115 hψ]
    unfold mb_115_0
    rw [hA.2] at ch
    simp only [ob_s, if_neg hA.1, ch, bi_n, kx_b_f, if_true]
    exact bad 1 (Or.inl rfl) _
  · rw [if_neg hA]
    have hv := ch_or hA
    have st : kx_ev wx_M (d + 8) 115 [kx_r 9 (some 4363), kx_i c] w = kx_ex (wm_115 (d + 7) (kx_ev wx_M (d + 7))) (ψ + 5000) 18 [(0, kx_r 9 (some 4363)), (1, kx_i c)] [kx_r 9 (some 4363)] w := by
      rw [mE_115 hψ]
      unfold mb_115_0
      by_cases h1 : c = -1
      · simp only [ob_s, if_pos h1]
      · have h2 : isCh S c = true := hv.resolve_left h1
        rw [h2] at ch
        simp only [ob_s, if_neg h1, ch, bi_n, kx_b_t]
        rfl
    rw [st, hφ, me_115_18]
    unfold mb_115_18
    simp only [ob_s, me_115_42, mb_115_42]
    rcases cur_or S with hc | ⟨t, hc⟩
    · rw [if_pos hc, cu_n M hc, if_neg (show ¬ (0 : Int32) ≤ -1 by decide)]
      exact bad 2 (Or.inr (Or.inl rfl)) _
    · have ht := I.b.cu t hc
      rw [if_neg (show ¬ S.cur = none by rw [hc]; simp), cu_s M hc, if_pos (show (0 : Int32) ≤ i32 t by rw [i32_ge (by omega)]; trivial)]
      rcases hv with rfl | h2
      · rw [if_pos (show (-1 : Int32) < 0 by decide), if_pos (Or.inl (show (-1 : Int32) < 0 by decide))]
        exact bad 3 (Or.inr (Or.inr rfl)) _
      · obtain ⟨k, h3, rfl, h4⟩ := isCh_t h2
        have hk : (512 ≤ k) = False := by simp; omega
        have hnat := i32_nat (n := k) (by omega)
        have hneg := i32_neg (n := k) (by omega)
        have ac : hp_B w 8747 k = sClosed S k := M.ag.B 8747 (by decide) k
        simp only [hneg, hnat, if_false, ob_s, hR_I, hR_L, hR_B, hN_I, hN_L, hN_B, r1808, r1810, r1812, r1814, r1816, r1818, r1820, r1824, r1826, r1828, r1830, r1836, r1838, r1842, r1844, r1846, r1848, r1850, r1854, r1856, r1858, r1862, r1864, r1866, r1870, r1872, r1874, r1878, r1880, n4364, n4365, n4366, n4367, n4368, n4369, n4370, n4371, n4372, n4373, n4374, n4375, n4376, n4377, n4378, n4379, n4380, n4381, n4382, n4383, n4384, n4385, n4386, n4387, n4388, n4389, n4390, n4391, n4392, Nat.reduceMul, Nat.reduceAdd, Nat.reduceEqDiff, false_and, if_false, hk, or_self, false_or, ac, kx_b_0]
        by_cases hcl : sClosed S k = true
        · simp only [hcl, if_true, eq_self, reduceCtorEq, if_true, if_false]
          exact bad 3 (Or.inr (Or.inr rfl)) _
        · rw [if_neg hcl]
          simp only [show sClosed S k = false by simpa using hcl, if_true]
          obtain ⟨M0, F0⟩ := M_th (x := 0) M
          have F1 : FR [8731, 8733, 8739, 8749, 8771, 8773, 8775] [8735] [] [8729, 8737, 8741, 8745, 8747] (hp_sI w 1800 4363 0) (hp_sB (hp_sI w 1800 4363 0) 8747 k true) := FR.sB (by decide) FR.rf
          have M1 := M0.of_ag F1 (AG.sB M0.ag)
          have B1 : SB (kS.s_m ((kS.s_th S (0))) (hp_sB S.m 8747 k true)) := I.b.of I.b.cu (fun _ _ => rfl) (List.Sublist.refl _) (List.Sublist.refl _) (List.Sublist.refl _) (List.Sublist.refl _)
          have a1 := M_fst0 (d := d + 6) M1 (by show S.mo.length ≤ 4352; omega) h3
          obtain ⟨w2, F', f1, r1, M2, F2⟩ := M_all_a (d := d) rfl h3 S.mo.length (φ + 2) _ _ M1 B1 (Nat.le_refl _) (by omega) (by omega)
          have hal := all_len (k := k) (g := false) (f := false) (b := false) S.mo.length (kS.s_m ((kS.s_th S (0))) (hp_sB S.m 8747 k true))
          have hal2 : (sAll S.mo.length (kS.s_m ((kS.s_th S (0))) (hp_sB S.m 8747 k true)) k false false false).mo.length ≤ S.mo.length := hal
          obtain ⟨w3, s1, M3, F3⟩ := M_all_b (d := d) rfl h3 (sAll S.mo.length (kS.s_m ((kS.s_th S (0))) (hp_sB S.m 8747 k true)) k false false false).mo.length F' w2 _ M2 (SB.all B1) (Nat.le_refl _) (by omega) (by omega)
          refine ⟨w3, ?_, And.intro M3 (((F0.tr (FM.of F1 (by decide) (by decide) (by decide))).tr F2).tr F3)⟩
          rw [me_115_47]
          unfold mb_115_47
          have e1 : hp_I (hp_sI w 1800 4363 0) 1800 4363 = 0 := by simp [hI_I]
          simp only [ob_s, e1, if_pos (show (0 : Int32) ≤ 0 by decide), ob_s, hR_I, hR_L, hR_B, hN_I, hN_L, hN_B, r1808, r1810, r1812, r1814, r1816, r1818, r1820, r1824, r1826, r1828, r1830, r1836, r1838, r1842, r1844, r1846, r1848, r1850, r1854, r1856, r1858, r1862, r1864, r1866, r1870, r1872, r1874, r1878, r1880, n4364, n4365, n4366, n4367, n4368, n4369, n4370, n4371, n4372, n4373, n4374, n4375, n4376, n4377, n4378, n4379, n4380, n4381, n4382, n4383, n4384, n4385, n4386, n4387, n4388, n4389, n4390, n4391, n4392, Nat.reduceMul, Nat.reduceAdd, Nat.reduceEqDiff, false_and, if_false, hneg, hnat, hk, or_self, kx_sb_1, a1, bi_n]
          rw [← s1, ← r1]
theorem M_ch_l {C : kx_C} (M : MR w S) : ∀ n j F, j + n = 512 → n + 1 ≤ F → (∀ i, i < j → hp_B S.m 8745 i = true) →
    ∃ k F', k ≤ 512 ∧ F ≤ F' + n + 1 ∧ kx_ex (wm_90 d C) F 24 [(0, kx_r 9 (some 4363)), (1, kx_i c), (2, kx_i (i32 j))] [] w = kx_ex (wm_90 d C) F' 46 [(0, kx_r 9 (some 4363)), (1, kx_i c), (2, kx_i (i32 k))] [] w ∧ (List.range 512).find? (fun c => !hp_B S.m 8745 c) = if k = 512 then none else some k := by
  obtain ⟨r1808, r1810, r1812, r1814, r1816, r1818, r1820, r1824, r1826, r1828, r1830, r1836, r1838, r1842, r1844, r1846, r1848, r1850, r1854, r1856, r1858, r1862, r1864, r1866, r1870, r1872, r1874, r1878, r1880, n4364, n4365, n4366, n4367, n4368, n4369, n4370, n4371, n4372, n4373, n4374, n4375, n4376, n4377, n4378, n4379, n4380, n4381, n4382, n4383, n4384, n4385, n4386, n4387, n4388, n4389, n4390, n4391, n4392⟩ := id M.sh
  intro n
  induction n with
  | zero =>
    intro j F hj hF hp
    obtain ⟨F, rfl⟩ : ∃ f', F = f' + 1 := ⟨F - 1, by omega⟩
    obtain rfl : j = 512 := by omega
    refine ⟨512, F, by omega, by omega, ?_, ?_⟩
    · rw [me_90_24]
      unfold mb_90_24
      rw [if_pos (show (512 : Int32) ≤ i32 512 by decide)]
    · rw [if_pos rfl]
      exact fr_none (fun i hi => by simp [hp i hi])
  | succ n ih =>
    intro j F hj hF hp
    obtain ⟨F, rfl⟩ : ∃ f', F = f' + 1 := ⟨F - 1, by omega⟩
    have a := M.ag.B 8745 (by decide) j
    rw [me_90_24]
    unfold mb_90_24
    rw [if_neg (show ¬ (512 : Int32) ≤ i32 j by rw [show (512 : Int32) = i32 512 from rfl, i32_le (by omega) (by omega)]; omega)]
    simp only [ob_s, hR_I, hR_L, hR_B, hN_I, hN_L, hN_B, r1808, r1810, r1812, r1814, r1816, r1818, r1820, r1824, r1826, r1828, r1830, r1836, r1838, r1842, r1844, r1846, r1848, r1850, r1854, r1856, r1858, r1862, r1864, r1866, r1870, r1872, r1874, r1878, r1880, n4364, n4365, n4366, n4367, n4368, n4369, n4370, n4371, n4372, n4373, n4374, n4375, n4376, n4377, n4378, n4379, n4380, n4381, n4382, n4383, n4384, n4385, n4386, n4387, n4388, n4389, n4390, n4391, n4392, Nat.reduceMul, Nat.reduceAdd, Nat.reduceEqDiff, false_and, if_false, i32_nat (n := j) (by omega), i32_jx (n := j) (k := 512) (by omega) (by omega), a, kx_b_0, i32_add1]
    by_cases h : hp_B S.m 8745 j = false
    · rw [if_pos h]
      refine ⟨j, F, by omega, by omega, rfl, ?_⟩
      rw [if_neg (by omega)]
      exact fr_some (fun i hi => by simp [hp i hi]) (by omega) (by simp [h])
    · rw [if_neg h]
      obtain ⟨k, F', h1, h2, h3, h4⟩ := ih (j + 1) F (by omega) (by omega) (fun i hi => by
        by_cases hij : i = j
        · subst hij; simpa using h
        · exact hp i (by omega))
      exact ⟨k, F', h1, by omega, h3, h4⟩
theorem M_channel (M : MR w S) : ∃ w', kx_ev wx_M (d + 8) 90 [kx_r 9 (some 4363), kx_i c] w = some (.inl (some (.inl (pChannel S c).2)), w') ∧ MR w' (pChannel S c).1 ∧ FM w w' := by
  obtain ⟨r1808, r1810, r1812, r1814, r1816, r1818, r1820, r1824, r1826, r1828, r1830, r1836, r1838, r1842, r1844, r1846, r1848, r1850, r1854, r1856, r1858, r1862, r1864, r1866, r1870, r1872, r1874, r1878, r1880, n4364, n4365, n4366, n4367, n4368, n4369, n4370, n4371, n4372, n4373, n4374, n4375, n4376, n4377, n4378, n4379, n4380, n4381, n4382, n4383, n4384, n4385, n4386, n4387, n4388, n4389, n4390, n4391, n4392⟩ := id M.sh
  obtain ⟨M0, F0⟩ := M_th (x := 0) M
  obtain ⟨ψ, hψ⟩ := kx_fl 2000 (by omega)
  obtain ⟨φ, hφ⟩ : ∃ φ, ψ + 2000 = φ + 1 := ⟨ψ + 1999, by omega⟩
  obtain ⟨w1, a1, M1, F1⟩ := M_fail (d := d + 6) (x := 1) M0
  obtain ⟨w2, a2, M2, F2⟩ := M_fail (d := d + 6) (x := 2) M0
  unfold pChannel
  rw [mE_90 hψ]
  unfold mb_90_0
  simp only [ob_s]
  by_cases h1 : c < 0
  · rw [if_pos h1, if_pos (Or.inl h1), hφ, me_90_16]
    unfold mb_90_16
    simp only [ob_s, a1, bi_n]
    exact ⟨w1, rfl, And.intro M1 (F0.tr F1)⟩
  · rw [if_neg h1]
    by_cases h2 : 8192 < c
    · rw [if_neg (by rw [nle_lt]; exact h2), if_pos (Or.inr h2), hφ, me_90_16]
      unfold mb_90_16
      simp only [ob_s, a1, bi_n]
      exact ⟨w1, rfl, And.intro M1 (F0.tr F1)⟩
    · rw [if_pos (by rw [← nlt_le]; exact h2), if_neg (show ¬ (c < 0 ∨ 8192 < c) by simp [h1, h2])]
      obtain ⟨k, F', hk, hF, e1, e2⟩ := M_ch_l (d := d + 7) (C := kx_ev wx_M (d + 7)) (c := c) M0 512 0 (ψ + 2000) (by omega) (by omega) (fun i hi => by omega)
      obtain ⟨F', rfl⟩ : ∃ f, F' = f + 1 + 1 := ⟨F' - 2, by omega⟩
      have e3 : (List.range 512).find? (fun c => !hp_B S.m 8745 c) = if k = 512 then none else some k := e2
      rw [show kx_i (0 : Int32) = kx_i (i32 0) from rfl, e1, e3, me_90_46]
      unfold mb_90_46
      simp only [ob_s, me_90_65, mb_90_65, a2, bi_n]
      by_cases hk5 : k = 512
      · subst hk5
        rw [if_pos (show i32 512 = 512 by rfl)]
        exact ⟨w2, rfl, And.intro M2 (F0.tr F2)⟩
      · rw [if_neg hk5, if_neg (show ¬ i32 k = 512 by rw [show (512 : Int32) = i32 512 from rfl, i32_eq (by omega) (by omega)]; exact hk5)]
        have er : hp_I w 1832 4363 = S.rooms := M.rm
        have er0 : hp_I (hp_sI w 1800 4363 0) 1832 4363 = S.rooms := M0.rm
        rw [er0]
        by_cases h8 : 8192 < S.rooms + c
        · rw [if_neg (show ¬ S.rooms + c ≤ 8192 by rw [nle_lt]; exact h8)]
          simp only [if_pos h8]
          exact ⟨w2, rfl, And.intro M2 (F0.tr F2)⟩
        · rw [if_pos (show S.rooms + c ≤ 8192 by rw [← nlt_le]; exact h8)]
          simp only [if_neg h8]
          have F3 : FR [8731, 8733, 8739, 8749, 8771, 8773, 8775] [8735] [] [8729, 8737, 8741, 8745, 8747] (hp_sI w 1800 4363 0) (hp_sI (hp_sB (hp_sB (hp_sI w 1800 4363 0) 8745 k true) 8747 k false) 8749 k c) := FR.sI (by decide) (FR.sB (by decide) (FR.sB (by decide) FR.rf))
          have M3 := M0.of_ag F3 (AG.sI (AG.sB (AG.sB M0.ag)))
          have F4 : FR [1832] [] [] [] (hp_sI (hp_sB (hp_sB (hp_sI w 1800 4363 0) 8745 k true) 8747 k false) 8749 k c) (hp_sI (hp_sI (hp_sB (hp_sB (hp_sI w 1800 4363 0) 8745 k true) 8747 k false) 8749 k c) 1832 4363 (S.rooms + c)) := FR.sI (by decide) FR.rf
          have M4 := M3.of_rm (v := S.rooms + c) F4 (by simp [hI_I])
          refine ⟨_, ?_, And.intro M4 ((F0.tr (FM.of F3 (by decide) (by decide) (by decide))).tr (FM.of F4 (by decide) (by decide) (by decide)))⟩
          simp only [ob_s, hR_I, hR_L, hR_B, hN_I, hN_L, hN_B, r1808, r1810, r1812, r1814, r1816, r1818, r1820, r1824, r1826, r1828, r1830, r1836, r1838, r1842, r1844, r1846, r1848, r1850, r1854, r1856, r1858, r1862, r1864, r1866, r1870, r1872, r1874, r1878, r1880, n4364, n4365, n4366, n4367, n4368, n4369, n4370, n4371, n4372, n4373, n4374, n4375, n4376, n4377, n4378, n4379, n4380, n4381, n4382, n4383, n4384, n4385, n4386, n4387, n4388, n4389, n4390, n4391, n4392, Nat.reduceMul, Nat.reduceAdd, Nat.reduceEqDiff, false_and, if_false, i32_nat (n := k) (by omega), i32_jx (n := k) (k := 512) (by omega) (by omega), kx_sb_1, kx_sb_0, hI_I, hI_B, er]
end CC
