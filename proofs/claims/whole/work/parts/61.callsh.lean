/-! the model's calls: release -/
section CH
variable {w : kx_H} {d n t g k : Nat} {S : kS} {c x : Int32} {v : Int64} {b goes r f : Bool}
theorem ecode_c {e : Nat ⊕ Nat} {c : Nat} (h1 : ∀ t, e = .inl t → t < 256) (h2 : ∀ k, e = .inr k → k < 512) (hc : c < 512) : (ecode e = -1 - i32 c) = (e = .inr c) := by
  cases e with
  | inl t =>
    have ht := h1 t rfl
    have a := ecode_nn ht
    have b := (ecode_n hc).1
    refine propext ⟨fun h => ?_, fun h => nomatch h⟩
    rw [h] at a
    have b' : (-1 - i32 c < 0) = True := b
    rw [a] at b'
    cases b'.mpr trivial
  | inr k =>
    have hk := h2 k rfl
    refine propext ⟨fun h => ?_, fun h => ?_⟩
    · have a := (ecode_n hk).2
      have b := (ecode_n hc).2
      rw [h] at a
      have b' : -1 - (-1 - i32 c) = i32 c := b
      rw [b'] at a
      rw [i32_inj (by omega) (by omega) a]
    · cases h; rfl
theorem M_rel_a {C : kx_C} {q : Nat} (M : MR w S) (B : SB S) (hm : S.me.length ≤ 512) (hq : q < 512) : ∀ n j F, j + n = S.me.length → n + 1 ≤ F → (∀ i y, i < j → S.me[i]? = some y → y.1 ≠ .inr q) →
    (¬ (∀ e ∈ S.me, e.1 ≠ .inr q) ∧ kx_ex (wm_92 d C) F 35 [(0, kx_r 9 (some 4363)), (1, kx_i (i32 q)), (2, kx_i (i32 j))] [] w = some (.inl (some (.inl 0)), w)) ∨
    ((∀ e ∈ S.me, e.1 ≠ .inr q) ∧ ∃ F', F ≤ F' + n + 1 ∧ kx_ex (wm_92 d C) F 35 [(0, kx_r 9 (some 4363)), (1, kx_i (i32 q)), (2, kx_i (i32 j))] [] w = kx_ex (wm_92 d C) F' 65 [(0, kx_r 9 (some 4363)), (1, kx_i (i32 q)), (2, kx_i (i32 0))] [] w) := by
  obtain ⟨r1808, r1810, r1812, r1814, r1816, r1818, r1820, r1824, r1826, r1828, r1830, r1836, r1838, r1842, r1844, r1846, r1848, r1850, r1854, r1856, r1858, r1862, r1864, r1866, r1870, r1872, r1874, r1878, r1880, n4364, n4365, n4366, n4367, n4368, n4369, n4370, n4371, n4372, n4373, n4374, n4375, n4376, n4377, n4378, n4379, n4380, n4381, n4382, n4383, n4384, n4385, n4386, n4387, n4388, n4389, n4390, n4391, n4392⟩ := id M.sh
  obtain ⟨o1, o2⟩ := id M.me
  intro n
  induction n with
  | zero =>
    intro j F hj hF hp
    obtain ⟨F, rfl⟩ : ∃ f', F = f' + 1 := ⟨F - 1, by omega⟩
    right
    refine ⟨fun e he => ?_, F, by omega, ?_⟩
    · obtain ⟨i, hi⟩ := List.getElem?_of_mem he
      exact hp i e (by have := (List.getElem?_eq_some_iff.mp hi).1; omega) hi
    · rw [me_92_35]
      unfold mb_92_35
      simp only [ob_s, hR_I, hR_L, hR_B, hN_I, hN_L, hN_B, r1808, r1810, r1812, r1814, r1816, r1818, r1820, r1824, r1826, r1828, r1830, r1836, r1838, r1842, r1844, r1846, r1848, r1850, r1854, r1856, r1858, r1862, r1864, r1866, r1870, r1872, r1874, r1878, r1880, n4364, n4365, n4366, n4367, n4368, n4369, n4370, n4371, n4372, n4373, n4374, n4375, n4376, n4377, n4378, n4379, n4380, n4381, n4382, n4383, n4384, n4385, n4386, n4387, n4388, n4389, n4390, n4391, n4392, o1]
      rw [if_pos (by rw [i32_le (by omega) (by omega)]; omega)]
      rfl
  | succ n ih =>
    intro j F hj hF hp
    obtain ⟨F, rfl⟩ : ∃ f', F = f' + 1 := ⟨F - 1, by omega⟩
    obtain ⟨y, hy⟩ : ∃ y, S.me[j]? = some y := ⟨S.me[j], List.getElem?_eq_getElem (by omega)⟩
    have hym := List.mem_of_getElem? hy
    obtain ⟨y1, y2⟩ := o2 j y hy
    have ec := ecode_c (e := y.1) (c := q) (fun t h => (B.es t y.2 (by rw [← h]; exact hym)).1) (fun k h => B.ec k y.2 (by rw [← h]; exact hym)) hq
    rw [me_92_35]
    unfold mb_92_35
    simp only [ob_s, hR_I, hR_L, hR_B, hN_I, hN_L, hN_B, r1808, r1810, r1812, r1814, r1816, r1818, r1820, r1824, r1826, r1828, r1830, r1836, r1838, r1842, r1844, r1846, r1848, r1850, r1854, r1856, r1858, r1862, r1864, r1866, r1870, r1872, r1874, r1878, r1880, n4364, n4365, n4366, n4367, n4368, n4369, n4370, n4371, n4372, n4373, n4374, n4375, n4376, n4377, n4378, n4379, n4380, n4381, n4382, n4383, n4384, n4385, n4386, n4387, n4388, n4389, n4390, n4391, n4392, Nat.reduceMul, Nat.reduceAdd, Nat.reduceEqDiff, false_and, if_false, o1, i32_nat (n := j) (by omega), i32_jx (n := j) (k := 512) (by omega) (by omega), y1, ec]
    rw [if_neg (by rw [i32_le (by omega) (by omega)]; omega)]
    by_cases h : y.1 = .inr q
    · left
      refine ⟨fun z => z y hym h, ?_⟩
      rw [if_pos h]
      rfl
    · rw [if_neg h, i32_add1]
      rcases ih (j + 1) F (by omega) (by omega) (fun i z hi hz => by
        by_cases hij : i = j
        · subst hij
          rw [hy] at hz
          cases hz
          exact h
        · exact hp i z (by omega) hz) with ⟨a1, a2⟩ | ⟨a1, F', a2, a3⟩
      · exact Or.inl ⟨a1, a2⟩
      · exact Or.inr ⟨a1, F', by omega, a3⟩
theorem M_rel_b {C : kx_C} {q : Nat} (M : MR w S) (hm : S.mt.length ≤ 16) : ∀ n j F, j + n = S.mt.length → n + 1 ≤ F → (∀ i y, i < j → S.mt[i]? = some y → y.1 ≠ i32 q) →
    (¬ (∀ e ∈ S.mt, e.1 ≠ i32 q) ∧ kx_ex (wm_92 d C) F 65 [(0, kx_r 9 (some 4363)), (1, kx_i (i32 q)), (2, kx_i (i32 j))] [] w = some (.inl (some (.inl 0)), w)) ∨
    ((∀ e ∈ S.mt, e.1 ≠ i32 q) ∧ ∃ F', F ≤ F' + n + 1 ∧ kx_ex (wm_92 d C) F 65 [(0, kx_r 9 (some 4363)), (1, kx_i (i32 q)), (2, kx_i (i32 j))] [] w = kx_ex (wm_92 d C) F' 91 [(0, kx_r 9 (some 4363)), (1, kx_i (i32 q))] [] w) := by
  obtain ⟨r1808, r1810, r1812, r1814, r1816, r1818, r1820, r1824, r1826, r1828, r1830, r1836, r1838, r1842, r1844, r1846, r1848, r1850, r1854, r1856, r1858, r1862, r1864, r1866, r1870, r1872, r1874, r1878, r1880, n4364, n4365, n4366, n4367, n4368, n4369, n4370, n4371, n4372, n4373, n4374, n4375, n4376, n4377, n4378, n4379, n4380, n4381, n4382, n4383, n4384, n4385, n4386, n4387, n4388, n4389, n4390, n4391, n4392⟩ := id M.sh
  obtain ⟨o1, o2⟩ := id M.mt
  intro n
  induction n with
  | zero =>
    intro j F hj hF hp
    obtain ⟨F, rfl⟩ : ∃ f', F = f' + 1 := ⟨F - 1, by omega⟩
    right
    refine ⟨fun e he => ?_, F, by omega, ?_⟩
    · obtain ⟨i, hi⟩ := List.getElem?_of_mem he
      exact hp i e (by have := (List.getElem?_eq_some_iff.mp hi).1; omega) hi
    · rw [me_92_65]
      unfold mb_92_65
      simp only [ob_s, hR_I, hR_L, hR_B, hN_I, hN_L, hN_B, r1808, r1810, r1812, r1814, r1816, r1818, r1820, r1824, r1826, r1828, r1830, r1836, r1838, r1842, r1844, r1846, r1848, r1850, r1854, r1856, r1858, r1862, r1864, r1866, r1870, r1872, r1874, r1878, r1880, n4364, n4365, n4366, n4367, n4368, n4369, n4370, n4371, n4372, n4373, n4374, n4375, n4376, n4377, n4378, n4379, n4380, n4381, n4382, n4383, n4384, n4385, n4386, n4387, n4388, n4389, n4390, n4391, n4392, o1]
      rw [if_pos (by rw [i32_le (by omega) (by omega)]; omega)]
  | succ n ih =>
    intro j F hj hF hp
    obtain ⟨F, rfl⟩ : ∃ f', F = f' + 1 := ⟨F - 1, by omega⟩
    obtain ⟨y, hy⟩ : ∃ y, S.mt[j]? = some y := ⟨S.mt[j], List.getElem?_eq_getElem (by omega)⟩
    have hym := List.mem_of_getElem? hy
    obtain ⟨y1, y2, y3⟩ := o2 j y hy
    rw [me_92_65]
    unfold mb_92_65
    simp only [ob_s, hR_I, hR_L, hR_B, hN_I, hN_L, hN_B, r1808, r1810, r1812, r1814, r1816, r1818, r1820, r1824, r1826, r1828, r1830, r1836, r1838, r1842, r1844, r1846, r1848, r1850, r1854, r1856, r1858, r1862, r1864, r1866, r1870, r1872, r1874, r1878, r1880, n4364, n4365, n4366, n4367, n4368, n4369, n4370, n4371, n4372, n4373, n4374, n4375, n4376, n4377, n4378, n4379, n4380, n4381, n4382, n4383, n4384, n4385, n4386, n4387, n4388, n4389, n4390, n4391, n4392, Nat.reduceMul, Nat.reduceAdd, Nat.reduceEqDiff, false_and, if_false, o1, i32_nat (n := j) (by omega), i32_jx (n := j) (k := 16) (by omega) (by omega), y1]
    rw [if_neg (by rw [i32_le (by omega) (by omega)]; omega)]
    by_cases h : y.1 = i32 q
    · left
      refine ⟨fun z => z y hym h, ?_⟩
      rw [if_pos h]
      rfl
    · rw [if_neg h, i32_add1]
      rcases ih (j + 1) F (by omega) (by omega) (fun i z hi hz => by
        by_cases hij : i = j
        · subst hij
          rw [hy] at hz
          cases hz
          exact h
        · exact hp i z (by omega) hz) with ⟨a1, a2⟩ | ⟨a1, F', a2, a3⟩
      · exact Or.inl ⟨a1, a2⟩
      · exact Or.inr ⟨a1, F', by omega, a3⟩
theorem er_flt {l : List (Nat × Int64)} {p : Nat × Int64 → Bool} : (l.eraseP p).filter (fun x => !p x) = l.filter (fun x => !p x) := by
  induction l with
  | nil => rfl
  | cons a l ih =>
    by_cases h : p a = true
    · simp [h]
    · have h' : p a = false := by simpa using h
      simp [h', ih]
theorem cnt_er {l : List (Nat × Int64)} {p : Nat × Int64 → Bool} (h : 0 < l.countP p) : (l.eraseP p).countP p + 1 = l.countP p := by
  induction l with
  | nil => simp at h
  | cons a l ih =>
    by_cases ha : p a = true
    · simp [ha]
    · have ha' : p a = false := by simpa using ha
      simp [ha'] at h ⊢
      exact ih (by simpa using h)
theorem M_rel_c {C : kx_C} (hC : C = kx_ev wx_M (d + 7)) {q : Nat} (hq : q < 512) : ∀ n F w (S : kS), MR w S → sCnt S q = n → S.mv.length ≤ 8192 → n + 1 ≤ F →
    ∃ w', kx_ex (wm_92 (d + 7) C) F 91 [(0, kx_r 9 (some 4363)), (1, kx_i (i32 q))] [] w = some (.inl (some (.inl 1)), w') ∧ MR w' (kS.s_rooms ((kS.s_m ((kS.s_mv S (S.mv.filter (fun x => !vAt q x)))) (hp_sB S.m 8745 q false))) (S.rooms - sRoom S q)) ∧ FM w w' := by
  intro n
  induction n with
  | zero =>
    intro F w S M hn hv hF
    obtain ⟨r1808, r1810, r1812, r1814, r1816, r1818, r1820, r1824, r1826, r1828, r1830, r1836, r1838, r1842, r1844, r1846, r1848, r1850, r1854, r1856, r1858, r1862, r1864, r1866, r1870, r1872, r1874, r1878, r1880, n4364, n4365, n4366, n4367, n4368, n4369, n4370, n4371, n4372, n4373, n4374, n4375, n4376, n4377, n4378, n4379, n4380, n4381, n4382, n4383, n4384, n4385, n4386, n4387, n4388, n4389, n4390, n4391, n4392⟩ := id M.sh
    obtain ⟨F, rfl⟩ : ∃ f', F = f' + 1 := ⟨F - 1, by omega⟩
    have a1 := M_cnt (d := d + 6) M hv hq
    rw [hn] at a1
    have hfl : S.mv.filter (fun x => !vAt q x) = S.mv := by
      rw [List.filter_eq_self]
      intro a ha
      have := List.countP_eq_zero.mp hn a ha
      simpa using this
    rw [hfl]
    have F1 : FR [8731, 8733, 8739, 8749, 8771, 8773, 8775] [8735] [] [8729, 8737, 8741, 8745, 8747] w (hp_sB w 8745 q false) := FR.sB (by decide) FR.rf
    have M1 := M.of_ag F1 (AG.sB M.ag)
    have F2 : FR [1832] [] [] [] (hp_sB w 8745 q false) (hp_sI (hp_sB w 8745 q false) 1832 4363 (S.rooms - sRoom S q)) := FR.sI (by decide) FR.rf
    have M2 := M1.of_rm (v := S.rooms - sRoom S q) F2 (by simp [hI_I])
    refine ⟨_, ?_, And.intro M2 ((FM.of F1 (by decide) (by decide) (by decide)).tr (FM.of F2 (by decide) (by decide) (by decide)))⟩
    have er : hp_I w 1832 4363 = S.rooms := M.rm
    have ar : hp_I w 8749 q = sRoom S q := M.ag.I 8749 (by decide) q
    rw [me_92_91]
    unfold mb_92_91
    rw [← hC] at a1
    simp only [ob_s, a1, bi_n]
    rw [if_pos (show i32 0 ≤ 0 by decide)]
    simp only [ob_s, hR_I, hR_L, hR_B, hN_I, hN_L, hN_B, r1808, r1810, r1812, r1814, r1816, r1818, r1820, r1824, r1826, r1828, r1830, r1836, r1838, r1842, r1844, r1846, r1848, r1850, r1854, r1856, r1858, r1862, r1864, r1866, r1870, r1872, r1874, r1878, r1880, n4364, n4365, n4366, n4367, n4368, n4369, n4370, n4371, n4372, n4373, n4374, n4375, n4376, n4377, n4378, n4379, n4380, n4381, n4382, n4383, n4384, n4385, n4386, n4387, n4388, n4389, n4390, n4391, n4392, Nat.reduceMul, Nat.reduceAdd, Nat.reduceEqDiff, false_and, if_false, i32_nat (n := q) (by omega), i32_jx (n := q) (k := 512) (by omega) (by omega), kx_sb_0, hI_B, er, ar]
    rfl
  | succ n ih =>
    intro F w S M hn hv hF
    obtain ⟨r1808, r1810, r1812, r1814, r1816, r1818, r1820, r1824, r1826, r1828, r1830, r1836, r1838, r1842, r1844, r1846, r1848, r1850, r1854, r1856, r1858, r1862, r1864, r1866, r1870, r1872, r1874, r1878, r1880, n4364, n4365, n4366, n4367, n4368, n4369, n4370, n4371, n4372, n4373, n4374, n4375, n4376, n4377, n4378, n4379, n4380, n4381, n4382, n4383, n4384, n4385, n4386, n4387, n4388, n4389, n4390, n4391, n4392⟩ := id M.sh
    obtain ⟨F, rfl⟩ : ∃ f', F = f' + 1 := ⟨F - 1, by omega⟩
    have a1 := M_cnt (d := d + 6) M hv hq
    have hle := sCnt_le S q
    have h0 : 0 < sCnt S q := by omega
    obtain ⟨w1, a2, M1, F1⟩ := M_tkF (d := d + 6) M hq hv h0
    have hl1 : (S.mv.eraseP (vAt q)).length + 1 = S.mv.length := by
      have hex : ∃ a ∈ S.mv, vAt q a = true := by
        have := List.countP_pos_iff.mp h0
        exact this
      obtain ⟨a, ha1, ha2⟩ := hex
      have := List.length_eraseP_of_mem ha1 ha2
      have hpos : 0 < S.mv.length := List.length_pos_of_mem ha1
      omega
    have F2 : FR [1834, 8751] [8753] [] [] w1 (hp_sL w1 8753 (S.mv.eraseP (vAt q)).length (sTkV S q)) := FR.sL (by decide) FR.rf
    have M2 := M1.of_mv (v := S.mv.eraseP (vAt q)) F2 (by
      refine ⟨by simp [hI_I, hI_L, hI_R, hI_B, hI_b, hL_I, hL_L, hL_R, hL_B, hL_b, hR_I, hR_L, hR_R, hR_B, hR_b, hB_I, hB_L, hB_R, hB_B, hB_b, hN_I, hN_L, hN_R, hN_B, hN_b, hT_I, hT_L, hT_R, hT_B, hT_b, hX_I, hX_L, hX_R, hX_B, hX_b, hC_I, hC_L, hC_R, hC_B, hC_b, hU_I, hU_L, hU_R, hU_B, hU_b]; exact M1.mv.1, fun k y hk => ?_⟩
      have hkl := (List.getElem?_eq_some_iff.mp hk).1
      have := M1.mv.2 k y hk
      simp [hI_I, hI_L, hI_R, hI_B, hI_b, hL_I, hL_L, hL_R, hL_B, hL_b, hR_I, hR_L, hR_R, hR_B, hR_b, hB_I, hB_L, hB_R, hB_B, hB_b, hN_I, hN_L, hN_R, hN_B, hN_b, hT_I, hT_L, hT_R, hT_B, hT_b, hX_I, hX_L, hX_R, hX_B, hX_b, hC_I, hC_L, hC_R, hC_B, hC_b, hU_I, hU_L, hU_R, hU_B, hU_b, Nat.ne_of_lt hkl]
      exact this)
    have M2' : MR (hp_sL w1 8753 (S.mv.eraseP (vAt q)).length (sTkV S q)) (sTkF S q) := M2
    obtain ⟨w', r1, r2, r3⟩ := ih F _ (sTkF S q) M2' (by
      have := cnt_er (p := vAt q) h0
      show (S.mv.eraseP (vAt q)).countP (vAt q) = n
      have h9 : S.mv.countP (vAt q) = n + 1 := hn
      omega) (by show (S.mv.eraseP (vAt q)).length ≤ _; omega) (by omega)
    have e9 : (sTkF S q).mv.filter (fun x => !vAt q x) = S.mv.filter (fun x => !vAt q x) := er_flt
    rw [e9] at r2
    refine ⟨w', ?_, And.intro r2 ((F1.tr (FM.of F2 (by decide) (by decide) (by decide))).tr r3)⟩
    rw [me_92_91]
    unfold mb_92_91
    rw [← hC] at a1 a2
    have hc1 : hp_I w1 1834 4363 = i32 (S.mv.eraseP (vAt q)).length := M1.mv.1
    simp only [ob_s, a1, bi_n]
    rw [if_neg (show ¬ i32 (sCnt S q) ≤ 0 by rw [i32_p0 (by omega)]; omega)]
    simp only [a2, bl_n, F1.r, F1.n, ob_s, hR_I, hR_L, hR_B, hN_I, hN_L, hN_B, r1808, r1810, r1812, r1814, r1816, r1818, r1820, r1824, r1826, r1828, r1830, r1836, r1838, r1842, r1844, r1846, r1848, r1850, r1854, r1856, r1858, r1862, r1864, r1866, r1870, r1872, r1874, r1878, r1880, n4364, n4365, n4366, n4367, n4368, n4369, n4370, n4371, n4372, n4373, n4374, n4375, n4376, n4377, n4378, n4379, n4380, n4381, n4382, n4383, n4384, n4385, n4386, n4387, n4388, n4389, n4390, n4391, n4392, Nat.reduceMul, Nat.reduceAdd, Nat.reduceEqDiff, false_and, if_false, hc1, i32_nat (n := (S.mv.eraseP (vAt q)).length) (by omega), i32_jx (n := (S.mv.eraseP (vAt q)).length) (k := 8192) (by omega) (by omega)]
    exact r1
theorem M_release (M : MR w S) (I : SI S n) (hn : n < 512) : ∃ w', kx_ev wx_M (d + 8) 92 [kx_r 9 (some 4363), kx_i c] w = some (.inl (some (.inl (kx_b (pRelease S c).2))), w') ∧ MR w' (pRelease S c).1 ∧ FM w w' := by
  obtain ⟨M0, F0⟩ := M_th (x := 0) M
  have ch := M_isCh (d := d + 6) (x := c) M0
  have ch' : isCh (sTh S 0) c = isCh S c := rfl
  rw [ch'] at ch
  have hl1 := I.l.1
  have hl2 := I.l.2
  have hml := I.ml
  obtain ⟨ψ, hψ⟩ := kx_fl 4000 (by omega)
  obtain ⟨φ, h600, hφ⟩ : ∃ φ, 3000 ≤ φ ∧ ψ + 4000 = φ + 1 := ⟨ψ + 3999, by omega, by omega⟩
  unfold pRelease
  rw [mE_92 hψ, hφ]
  unfold mb_92_0
  simp only [ob_s, ch, bi_n, me_92_31, mb_92_31]
  by_cases hP : isCh S c = true ∧ sFst S c.toNatClampNeg true = none ∧ sFst S c.toNatClampNeg false = none ∧ (∀ e ∈ S.me, e.1 ≠ .inr c.toNatClampNeg) ∧ (∀ e ∈ S.mt, e.1 ≠ c)
  · rw [if_pos hP]
    obtain ⟨p1, p2, p3, p4, p5⟩ := hP
    obtain ⟨q, hq, rfl, h3⟩ := isCh_t p1
    rw [i32_nat (by omega)] at p2 p3 p4
    rw [i32_nat (by omega)]
    have q1 : S.mo.findIdx? (oAt q true) = none := by
      rw [List.findIdx?_eq_none_iff]
      have := List.find?_eq_none.mp p2
      intro y hy
      simpa using this y hy
    have q2 : S.mo.findIdx? (oAt q false) = none := by
      rw [List.findIdx?_eq_none_iff]
      have := List.find?_eq_none.mp p3
      intro y hy
      simpa using this y hy
    have a1 := M_fst1 (d := d + 6) M0 (c := q) (by show S.mo.length ≤ 4352; omega) hq
    have a2 := M_fst0 (d := d + 6) M0 (c := q) (by show S.mo.length ≤ 4352; omega) hq
    have q1' : (sTh S 0).mo.findIdx? (oAt q true) = none := q1
    have q2' : (sTh S 0).mo.findIdx? (oAt q false) = none := q2
    rw [q1'] at a1
    rw [q2'] at a2
    rcases M_rel_a (d := d + 7) (C := kx_ev wx_M (d + 7)) (q := q) M0 (SB.th I.b) (by show S.me.length ≤ 512; omega) hq S.me.length 0 (φ + 1) (by show 0 + S.me.length = S.me.length; omega) (by omega) (fun i y hi => by omega) with ⟨z1, -⟩ | ⟨-, F', f1, e1⟩
    · exact absurd p4 z1
    · rcases M_rel_b (d := d + 7) (C := kx_ev wx_M (d + 7)) (q := q) M0 (by show S.mt.length ≤ 16; omega) S.mt.length 0 F' (by show 0 + S.mt.length = S.mt.length; omega) (by omega) (fun i y hi => by omega) with ⟨z1, -⟩ | ⟨-, F2, f2, e2⟩
      · exact absurd p5 z1
      · have hle := sCnt_le S q
        obtain ⟨w3, r1, M3, F3⟩ := M_rel_c (d := d) rfl hq (sCnt (sTh S 0) q) F2 _ (sTh S 0) M0 rfl (by show S.mv.length ≤ 8192; omega) (by show sCnt S q + 1 ≤ F2; omega)
        refine ⟨w3, ?_, And.intro M3 (F0.tr F3)⟩
        simp only [p1, kx_b_t, i10, if_false, a1, bi_n, fidx, if_neg (show ¬ (0 : Int32) ≤ -1 by decide), a2, if_pos (show (-1 : Int32) < 0 by decide)]
        rw [show kx_i (0 : Int32) = kx_i (i32 0) from rfl, e1, e2]
        exact r1
  · rw [if_neg hP]
    have fin : ∀ X : kx_O, X = some (.inl (some (.inl 0)), hp_sI w 1800 4363 0) → ∃ w', X = some (.inl (some (.inl (kx_b (sTh S 0, false).2))), w') ∧ MR w' (sTh S 0, false).1 ∧ FM w w' := fun X hX => ⟨_, hX, And.intro M0 F0⟩
    apply fin
    cases hA : isCh S c with
    | false =>
      rw [kx_b_f, if_pos rfl]
      rfl
    | true =>
      obtain ⟨q, hq, rfl, h3⟩ := isCh_t hA
      have hnat := i32_nat (n := q) (by omega)
      rw [hnat, hA] at hP
      simp only [kx_b_t, i10, if_false]
      have a1 := M_fst1 (d := d + 6) M0 (c := q) (by show S.mo.length ≤ 4352; omega) hq
      have a2 := M_fst0 (d := d + 6) M0 (c := q) (by show S.mo.length ≤ 4352; omega) hq
      have e1 : (sTh S 0).mo.findIdx? (oAt q true) = S.mo.findIdx? (oAt q true) := rfl
      have e2 : (sTh S 0).mo.findIdx? (oAt q false) = S.mo.findIdx? (oAt q false) := rfl
      rw [e1] at a1
      rw [e2] at a2
      rw [a1, bi_n]
      cases q1 : S.mo.findIdx? (oAt q true) with
      | some k =>
        have hk := fi_lt (N := 4352) (by omega) q1
        rw [if_pos (show 0 ≤ fidx (some k) by show 0 ≤ i32 k; rw [i32_ge (by omega)]; trivial)]
        rfl
      | none =>
        rw [if_neg (show ¬ 0 ≤ fidx none by decide), a2, bi_n]
        cases q2 : S.mo.findIdx? (oAt q false) with
        | some k =>
          have hk := fi_lt (N := 4352) (by omega) q2
          rw [if_neg (show ¬ fidx (some k) < 0 by show ¬ i32 k < 0; rw [i32_neg (by omega)]; simp)]
          rfl
        | none =>
          rw [if_pos (show fidx none < 0 by decide)]
          have p2 : sFst S q true = none := fi_find.1 q1
          have p3 : sFst S q false = none := fi_find.1 q2
          rw [show kx_i (0 : Int32) = kx_i (i32 0) from rfl]
          rcases M_rel_a (d := d + 7) (C := kx_ev wx_M (d + 7)) (q := q) M0 (SB.th I.b) (by show S.me.length ≤ 512; omega) hq S.me.length 0 (φ + 1) (by show 0 + S.me.length = S.me.length; omega) (by omega) (fun i y hi => by omega) with ⟨-, z2⟩ | ⟨p4, F', f1, z2⟩
          · exact z2
          · rw [z2]
            rcases M_rel_b (d := d + 7) (C := kx_ev wx_M (d + 7)) (q := q) M0 (by show S.mt.length ≤ 16; omega) S.mt.length 0 F' (by show 0 + S.mt.length = S.mt.length; omega) (by omega) (fun i y hi => by omega) with ⟨-, z3⟩ | ⟨p5, -⟩
            · exact z3
            · exact absurd ⟨rfl, p2, p3, p4, p5⟩ hP
end CH
