/-! the model's loops over its lists -/
theorem tk_f {α : Type} {l : List α} {p : α → Bool} {j : Nat} {y : α} (hj : l[j]? = some y) : (l.take (j + 1)).filter p = (l.take j).filter p ++ (if p y = true then [y] else []) := by
  rw [List.take_add_one, hj, List.filter_append]
  cases h : p y <;> simp [h]
theorem tk_l {α : Type} (l : List α) (p : α → Bool) (j : Nat) : ((l.take j).filter p).length ≤ j := Nat.le_trans (List.length_filter_le _ _) (List.length_take_le _ _)
def rMo (w : kx_H) (k : Nat) (x : kMo) : Prop := hp_I w 8755 k = i32 x.1 ∧ hp_I w 8757 k = i32 x.2.1 ∧ hp_B w 8759 k = x.2.2.1 ∧ hp_L w 8761 k = x.2.2.2.1 ∧ hp_I w 8763 k = x.2.2.2.2 ∧ x.1 < 256 ∧ x.2.1 < 512
def rMv (w : kx_H) (k : Nat) (x : Nat × Int64) : Prop := hp_I w 8751 k = i32 x.1 ∧ hp_L w 8753 k = x.2 ∧ x.1 < 512
def rSn (w : kx_H) (k : Nat) (x : kMs) : Prop := hp_I w 8777 k = i32 x.1 ∧ hp_I w 8779 k = i32 x.2.1 ∧ hp_B w 8781 k = x.2.2 ∧ x.1 < 256 ∧ x.2.1 < 256
def rRd (w : kx_H) (k : Nat) (x : Nat) : Prop := hp_I w 8743 k = i32 x ∧ x < 256
section M3
variable {d : Nat} {S : kS}
theorem M_wdr_l {C : kx_C} {mo : List kMo} {t : Nat} (hm : mo.length ≤ 4352) (ht : t < 256) : ∀ n j f w, SH w → j + n = mo.length → 2 * n + 1 ≤ f → hp_I w 1840 4363 = i32 mo.length →
    (∀ i x, ((mo.take j).filter (fun e => e.1 != t))[i]? = some x → rMo w i x) → (∀ i x, j ≤ i → mo[i]? = some x → rMo w i x) →
    ∃ w', kx_ex (wm_104 d C) f 4 [(0, kx_r 9 (some 4363)), (1, kx_i (i32 t)), (2, kx_i (i32 ((mo.take j).filter (fun e => e.1 != t)).length)), (3, kx_i (i32 j))] [] w = some (.inl none, w') ∧ Lmo w' (mo.filter (fun e => e.1 != t)) ∧ FR [1840, 8755, 8757, 8763] [8761] [] [8759] w w' := by
  intro n
  induction n with
  | zero =>
    intro j f w H hj hf h1 h2 h3
    obtain ⟨r1808, r1810, r1812, r1814, r1816, r1818, r1820, r1824, r1826, r1828, r1830, r1836, r1838, r1842, r1844, r1846, r1848, r1850, r1854, r1856, r1858, r1862, r1864, r1866, r1870, r1872, r1874, r1878, r1880, n4364, n4365, n4366, n4367, n4368, n4369, n4370, n4371, n4372, n4373, n4374, n4375, n4376, n4377, n4378, n4379, n4380, n4381, n4382, n4383, n4384, n4385, n4386, n4387, n4388, n4389, n4390, n4391, n4392⟩ := id H
    obtain ⟨f, rfl⟩ : ∃ f', f = f' + 1 := ⟨f - 1, by omega⟩
    rw [List.take_of_length_le (by omega)] at h2 ⊢
    refine ⟨_, ?_, ⟨?_, ?_⟩, FR.sI (i := 4363) (v := i32 (mo.filter (fun e => e.1 != t)).length) (k := 1840) (by decide) FR.rf⟩
    · rw [me_104_4]
      unfold mb_104_4
      simp only [ob_s, hR_I, hR_L, hR_B, hN_I, hN_L, hN_B, r1808, r1810, r1812, r1814, r1816, r1818, r1820, r1824, r1826, r1828, r1830, r1836, r1838, r1842, r1844, r1846, r1848, r1850, r1854, r1856, r1858, r1862, r1864, r1866, r1870, r1872, r1874, r1878, r1880, n4364, n4365, n4366, n4367, n4368, n4369, n4370, n4371, n4372, n4373, n4374, n4375, n4376, n4377, n4378, n4379, n4380, n4381, n4382, n4383, n4384, n4385, n4386, n4387, n4388, n4389, n4390, n4391, n4392, h1]
      rw [if_pos (by rw [i32_le (by omega) (by omega)]; omega)]
    · simp [hI_I]
    · intro k x hk
      have := h2 k x hk
      simp [hI_I, hI_L, hI_R, hI_B, hI_b, hL_I, hL_L, hL_R, hL_B, hL_b, hR_I, hR_L, hR_R, hR_B, hR_b, hB_I, hB_L, hB_R, hB_B, hB_b, hN_I, hN_L, hN_R, hN_B, hN_b, hT_I, hT_L, hT_R, hT_B, hT_b, hX_I, hX_L, hX_R, hX_B, hX_b, hC_I, hC_L, hC_R, hC_B, hC_b, hU_I, hU_L, hU_R, hU_B, hU_b]
      exact this
  | succ n ih =>
    intro j f w H hj hf h1 h2 h3
    obtain ⟨r1808, r1810, r1812, r1814, r1816, r1818, r1820, r1824, r1826, r1828, r1830, r1836, r1838, r1842, r1844, r1846, r1848, r1850, r1854, r1856, r1858, r1862, r1864, r1866, r1870, r1872, r1874, r1878, r1880, n4364, n4365, n4366, n4367, n4368, n4369, n4370, n4371, n4372, n4373, n4374, n4375, n4376, n4377, n4378, n4379, n4380, n4381, n4382, n4383, n4384, n4385, n4386, n4387, n4388, n4389, n4390, n4391, n4392⟩ := id H
    obtain ⟨f, rfl⟩ : ∃ f', f = f' + 1 + 1 := ⟨f - 2, by omega⟩
    obtain ⟨y, hy⟩ : ∃ y, mo[j]? = some y := ⟨mo[j], List.getElem?_eq_getElem (by omega)⟩
    obtain ⟨y1, y2, y3, y4, y5, y6, y7⟩ := h3 j y (by omega) hy
    have hkl := tk_l mo (fun e => e.1 != t) j
    have e9 := tk_f (p := fun e => e.1 != t) hy
    by_cases hyt : y.1 = t
    · obtain ⟨w', r1, r2, r3⟩ := ih (j + 1) f w H (by omega) (by omega) h1 (by rw [e9]; simpa [hyt] using h2) (fun i x hi => h3 i x (by omega))
      refine ⟨w', ?_, r2, r3⟩
      rw [e9] at r1
      simp [hyt] at r1
      rw [me_104_4]
      unfold mb_104_4
      simp only [ob_s, hR_I, hR_L, hR_B, hN_I, hN_L, hN_B, r1808, r1810, r1812, r1814, r1816, r1818, r1820, r1824, r1826, r1828, r1830, r1836, r1838, r1842, r1844, r1846, r1848, r1850, r1854, r1856, r1858, r1862, r1864, r1866, r1870, r1872, r1874, r1878, r1880, n4364, n4365, n4366, n4367, n4368, n4369, n4370, n4371, n4372, n4373, n4374, n4375, n4376, n4377, n4378, n4379, n4380, n4381, n4382, n4383, n4384, n4385, n4386, n4387, n4388, n4389, n4390, n4391, n4392, h1, i32_nat (n := j) (by omega), i32_jx (n := j) (k := 4352) (by omega) (by omega), if_false, y1, hyt]
      rw [if_neg (by rw [i32_le (by omega) (by omega)]; omega), if_pos trivial, me_104_88]
      unfold mb_104_88
      rw [i32_add1]
      exact r1
    · have F : FR [1840, 8755, 8757, 8763] [8761] [] [8759] w (hp_sI (hp_sL (hp_sB (hp_sI (hp_sI w 8755 ((mo.take j).filter (fun e => e.1 != t)).length (i32 y.1)) 8757 ((mo.take j).filter (fun e => e.1 != t)).length (i32 y.2.1)) 8759 ((mo.take j).filter (fun e => e.1 != t)).length y.2.2.1) 8761 ((mo.take j).filter (fun e => e.1 != t)).length y.2.2.2.1) 8763 ((mo.take j).filter (fun e => e.1 != t)).length y.2.2.2.2) := FR.sI (by decide) (FR.sL (by decide) (FR.sB (by decide) (FR.sI (by decide) (FR.sI (by decide) FR.rf))))
      obtain ⟨w', r1, r2, r3⟩ := ih (j + 1) f (hp_sI (hp_sL (hp_sB (hp_sI (hp_sI w 8755 ((mo.take j).filter (fun e => e.1 != t)).length (i32 y.1)) 8757 ((mo.take j).filter (fun e => e.1 != t)).length (i32 y.2.1)) 8759 ((mo.take j).filter (fun e => e.1 != t)).length y.2.2.1) 8761 ((mo.take j).filter (fun e => e.1 != t)).length y.2.2.2.1) 8763 ((mo.take j).filter (fun e => e.1 != t)).length y.2.2.2.2) (H.cong rfl rfl) (by omega) (by omega) (by simpa [hI_I, hI_L, hI_R, hI_B, hI_b, hL_I, hL_L, hL_R, hL_B, hL_b, hR_I, hR_L, hR_R, hR_B, hR_b, hB_I, hB_L, hB_R, hB_B, hB_b, hN_I, hN_L, hN_R, hN_B, hN_b, hT_I, hT_L, hT_R, hT_B, hT_b, hX_I, hX_L, hX_R, hX_B, hX_b, hC_I, hC_L, hC_R, hC_B, hC_b, hU_I, hU_L, hU_R, hU_B, hU_b] using h1) (by
          rw [e9, if_pos (by simp [hyt])]
          intro i x hi
          rcases gp_app hi with ⟨g1, g2⟩ | ⟨rfl, rfl⟩
          · have := h2 i x g2
            simp [rMo, hI_I, hI_L, hI_R, hI_B, hI_b, hL_I, hL_L, hL_R, hL_B, hL_b, hR_I, hR_L, hR_R, hR_B, hR_b, hB_I, hB_L, hB_R, hB_B, hB_b, hN_I, hN_L, hN_R, hN_B, hN_b, hT_I, hT_L, hT_R, hT_B, hT_b, hX_I, hX_L, hX_R, hX_B, hX_b, hC_I, hC_L, hC_R, hC_B, hC_b, hU_I, hU_L, hU_R, hU_B, hU_b, Nat.ne_of_lt g1]
            exact this
          · simp [rMo, hI_I, hI_L, hI_R, hI_B, hI_b, hL_I, hL_L, hL_R, hL_B, hL_b, hR_I, hR_L, hR_R, hR_B, hR_b, hB_I, hB_L, hB_R, hB_B, hB_b, hN_I, hN_L, hN_R, hN_B, hN_b, hT_I, hT_L, hT_R, hT_B, hT_b, hX_I, hX_L, hX_R, hX_B, hX_b, hC_I, hC_L, hC_R, hC_B, hC_b, hU_I, hU_L, hU_R, hU_B, hU_b, y6, y7]) (by
          intro i x hi hx
          have := h3 i x (by omega) hx
          have hne : i ≠ ((mo.take j).filter (fun e => e.1 != t)).length := by omega
          simp [rMo, hI_I, hI_L, hI_R, hI_B, hI_b, hL_I, hL_L, hL_R, hL_B, hL_b, hR_I, hR_L, hR_R, hR_B, hR_b, hB_I, hB_L, hB_R, hB_B, hB_b, hN_I, hN_L, hN_R, hN_B, hN_b, hT_I, hT_L, hT_R, hT_B, hT_b, hX_I, hX_L, hX_R, hX_B, hX_b, hC_I, hC_L, hC_R, hC_B, hC_b, hU_I, hU_L, hU_R, hU_B, hU_b, hne]
          exact this)
      refine ⟨w', ?_, r2, F.tr r3⟩
      rw [e9, if_pos (by simp [hyt]), List.length_append] at r1
      rw [me_104_4]
      unfold mb_104_4
      generalize ((mo.take j).filter (fun e => e.1 != t)).length = K at *
      simp only [ob_s, hR_I, hR_L, hR_B, hN_I, hN_L, hN_B, r1808, r1810, r1812, r1814, r1816, r1818, r1820, r1824, r1826, r1828, r1830, r1836, r1838, r1842, r1844, r1846, r1848, r1850, r1854, r1856, r1858, r1862, r1864, r1866, r1870, r1872, r1874, r1878, r1880, n4364, n4365, n4366, n4367, n4368, n4369, n4370, n4371, n4372, n4373, n4374, n4375, n4376, n4377, n4378, n4379, n4380, n4381, n4382, n4383, n4384, n4385, n4386, n4387, n4388, n4389, n4390, n4391, n4392, h1, i32_nat (n := j) (by omega), i32_jx (n := j) (k := 4352) (by omega) (by omega), i32_nat (n := K) (by omega), i32_jx (n := K) (k := 4352) (by omega) (by omega), if_false, y1, y2, y3, y4, y5, hI_I, hI_L, hI_B, hB_I, hB_L, hL_I, hL_B, kx_sb_b]
      rw [if_neg (by rw [i32_le (by omega) (by omega)]; omega), if_neg (by rw [i32_eq (by omega) (by omega)]; exact hyt)]
      simp only [Nat.reduceEqDiff, false_and, if_false, y1, y2, y3, y4, y5]
      rw [me_104_88]
      unfold mb_104_88
      rw [i32_add1, i32_add1]
      exact r1
theorem M_wdr {w : kx_H} {t : Nat} (M : MR w S) (ht : t < 256) (hm : S.mo.length ≤ 4352) : ∃ w', kx_ev wx_M (d + 1) 104 [kx_r 9 (some 4363), kx_i (i32 t)] w = some (.inl none, w') ∧ MR w' (sWdr S t) ∧ FM w w' := by
  obtain ⟨ψ, hψ⟩ := kx_fl 10000 (by omega)
  rw [mE_104 hψ]
  unfold mb_104_0
  obtain ⟨w', r1, r2, r3⟩ := M_wdr_l (d := d) (C := kx_ev wx_M d) hm ht S.mo.length 0 (ψ + 10000) w M.sh (by omega) (by omega) M.mo.1 (by simp) (fun i x _ => M.mo.2 i x)
  exact ⟨w', r1, M.of_mo r3 r2, FM.of r3 (by decide) (by decide) (by decide)⟩
/-- what is behind moves up -/
theorem M_tkF_s {C : kx_C} {l : List (Nat × Int64)} {k : Nat} {v : Int64} (hl : l.length ≤ 8192) (hk : k < l.length) : ∀ n i f w, SH w → i + n + 1 = l.length → n + 1 ≤ f → k ≤ i → hp_I w 1834 4363 = i32 (l.length - 1) →
    (∀ j x, j < i → (l.eraseIdx k)[j]? = some x → rMv w j x) → (∀ j x, i < j → l[j]? = some x → rMv w j x) →
    ∃ w', kx_ex (wm_96 d C) f 35 [(0, kx_r 9 (some 4363)), (2, kx_i (i32 i)), (3, kx_l v)] [] w = some (.inl (some (.inr (.inl v))), w') ∧ Lmv w' (l.eraseIdx k) ∧ FR [1834, 8751] [8753] [] [] w w' := by
  intro n
  induction n with
  | zero =>
    intro i f w H hi hf hki h1 h2 h3
    obtain ⟨f, rfl⟩ : ∃ f', f = f' + 1 := ⟨f - 1, by omega⟩
    refine ⟨w, ?_, ⟨by rw [List.length_eraseIdx_of_lt hk]; exact h1, fun j x hj => h2 j x ?_ hj⟩, FR.rf⟩
    · rw [me_96_35]
      unfold mb_96_35
      simp only [ob_s, h1]
      rw [if_pos (by rw [i32_le (by omega) (by omega)]; omega)]
    · have := (List.getElem?_eq_some_iff.mp hj).1
      rw [List.length_eraseIdx_of_lt hk] at this
      omega
  | succ n ih =>
    intro i f w H hi hf hki h1 h2 h3
    obtain ⟨r1808, r1810, r1812, r1814, r1816, r1818, r1820, r1824, r1826, r1828, r1830, r1836, r1838, r1842, r1844, r1846, r1848, r1850, r1854, r1856, r1858, r1862, r1864, r1866, r1870, r1872, r1874, r1878, r1880, n4364, n4365, n4366, n4367, n4368, n4369, n4370, n4371, n4372, n4373, n4374, n4375, n4376, n4377, n4378, n4379, n4380, n4381, n4382, n4383, n4384, n4385, n4386, n4387, n4388, n4389, n4390, n4391, n4392⟩ := id H
    obtain ⟨f, rfl⟩ : ∃ f', f = f' + 1 := ⟨f - 1, by omega⟩
    obtain ⟨y, hy⟩ : ∃ y, l[i + 1]? = some y := ⟨l[i + 1], List.getElem?_eq_getElem (by omega)⟩
    obtain ⟨y1, y2, y3⟩ := h3 (i + 1) y (by omega) hy
    have F : FR [1834, 8751] [8753] [] [] w (hp_sL (hp_sI w 8751 i (i32 y.1)) 8753 i y.2) := FR.sL (by decide) (FR.sI (by decide) FR.rf)
    obtain ⟨w', r1, r2, r3⟩ := ih (i + 1) f (hp_sL (hp_sI w 8751 i (i32 y.1)) 8753 i y.2) (H.cong rfl rfl) (by omega) (by omega) (by omega) (by simpa [hI_I, hI_L, hI_R, hI_B, hI_b, hL_I, hL_L, hL_R, hL_B, hL_b, hR_I, hR_L, hR_R, hR_B, hR_b, hB_I, hB_L, hB_R, hB_B, hB_b, hN_I, hN_L, hN_R, hN_B, hN_b, hT_I, hT_L, hT_R, hT_B, hT_b, hX_I, hX_L, hX_R, hX_B, hX_b, hC_I, hC_L, hC_R, hC_B, hC_b, hU_I, hU_L, hU_R, hU_B, hU_b] using h1) (by
        intro j x hj hx
        by_cases hji : j = i
        · subst hji
          rw [List.getElem?_eraseIdx_of_ge hki, hy] at hx
          cases hx
          simp [rMv, hI_I, hI_L, hI_R, hI_B, hI_b, hL_I, hL_L, hL_R, hL_B, hL_b, hR_I, hR_L, hR_R, hR_B, hR_b, hB_I, hB_L, hB_R, hB_B, hB_b, hN_I, hN_L, hN_R, hN_B, hN_b, hT_I, hT_L, hT_R, hT_B, hT_b, hX_I, hX_L, hX_R, hX_B, hX_b, hC_I, hC_L, hC_R, hC_B, hC_b, hU_I, hU_L, hU_R, hU_B, hU_b, y3]
        · have := h2 j x (by omega) hx
          simp [rMv, hI_I, hI_L, hI_R, hI_B, hI_b, hL_I, hL_L, hL_R, hL_B, hL_b, hR_I, hR_L, hR_R, hR_B, hR_b, hB_I, hB_L, hB_R, hB_B, hB_b, hN_I, hN_L, hN_R, hN_B, hN_b, hT_I, hT_L, hT_R, hT_B, hT_b, hX_I, hX_L, hX_R, hX_B, hX_b, hC_I, hC_L, hC_R, hC_B, hC_b, hU_I, hU_L, hU_R, hU_B, hU_b, hji]
          exact this) (by
        intro j x hj hx
        have := h3 j x (by omega) hx
        have hji : j ≠ i := by omega
        simp [rMv, hI_I, hI_L, hI_R, hI_B, hI_b, hL_I, hL_L, hL_R, hL_B, hL_b, hR_I, hR_L, hR_R, hR_B, hR_b, hB_I, hB_L, hB_R, hB_B, hB_b, hN_I, hN_L, hN_R, hN_B, hN_b, hT_I, hT_L, hT_R, hT_B, hT_b, hX_I, hX_L, hX_R, hX_B, hX_b, hC_I, hC_L, hC_R, hC_B, hC_b, hU_I, hU_L, hU_R, hU_B, hU_b, hji]
        exact this)
    refine ⟨w', ?_, r2, F.tr r3⟩
    rw [me_96_35]
    unfold mb_96_35
    simp only [ob_s, hR_I, hR_L, hR_B, hN_I, hN_L, hN_B, r1808, r1810, r1812, r1814, r1816, r1818, r1820, r1824, r1826, r1828, r1830, r1836, r1838, r1842, r1844, r1846, r1848, r1850, r1854, r1856, r1858, r1862, r1864, r1866, r1870, r1872, r1874, r1878, r1880, n4364, n4365, n4366, n4367, n4368, n4369, n4370, n4371, n4372, n4373, n4374, n4375, n4376, n4377, n4378, n4379, n4380, n4381, n4382, n4383, n4384, n4385, n4386, n4387, n4388, n4389, n4390, n4391, n4392, h1, i32_add1, i32_nat (n := i) (by omega), i32_jx (n := i) (k := 8192) (by omega) (by omega), i32_nat (n := i + 1) (by omega), i32_jx (n := i + 1) (k := 8192) (by omega) (by omega), if_false, y1, y2, hL_I]
    rw [if_neg (by rw [i32_le (by omega) (by omega)]; omega)]
    exact r1
theorem M_tkF_l {C : kx_C} {l : List (Nat × Int64)} {c k : Nat} {y : Nat × Int64} {w : kx_H} (H : SH w) (V : Lmv w l) (hl : l.length ≤ 8192) (hc : c < 512) (hk : l[k]? = some y) (hyc : y.1 = c) (hp : ∀ i x, i < k → l[i]? = some x → x.1 ≠ c) : ∀ n j f, j + n = k → n + l.length + 2 ≤ f →
    ∃ w', kx_ex (wm_96 d C) f 2 [(0, kx_r 9 (some 4363)), (1, kx_i (i32 c)), (2, kx_i (i32 j))] [] w = some (.inl (some (.inr (.inl y.2))), w') ∧ Lmv w' (l.eraseIdx k) ∧ FR [1834, 8751] [8753] [] [] w w' := by
  have hkl := (List.getElem?_eq_some_iff.mp hk).1
  obtain ⟨r1808, r1810, r1812, r1814, r1816, r1818, r1820, r1824, r1826, r1828, r1830, r1836, r1838, r1842, r1844, r1846, r1848, r1850, r1854, r1856, r1858, r1862, r1864, r1866, r1870, r1872, r1874, r1878, r1880, n4364, n4365, n4366, n4367, n4368, n4369, n4370, n4371, n4372, n4373, n4374, n4375, n4376, n4377, n4378, n4379, n4380, n4381, n4382, n4383, n4384, n4385, n4386, n4387, n4388, n4389, n4390, n4391, n4392⟩ := id H
  intro n
  induction n with
  | zero =>
    intro j f hj hf
    obtain ⟨f, rfl⟩ : ∃ f', f = f' + 1 := ⟨f - 1, by omega⟩
    obtain rfl : j = k := by omega
    obtain ⟨y1, y2, y3⟩ := V.2 j y hk
    have F : FR [1834, 8751] [8753] [] [] w (hp_sI w 1834 4363 (i32 (l.length - 1))) := FR.sI (by decide) FR.rf
    obtain ⟨w', r1, r2, r3⟩ := M_tkF_s (d := d) (C := C) (k := j) (v := y.2) hl hkl (l.length - 1 - j) j f (hp_sI w 1834 4363 (i32 (l.length - 1))) (H.cong rfl rfl) (by omega) (by omega) (by omega) (by simp [hI_I]) (by
        intro i x hi hx
        rw [List.getElem?_eraseIdx_of_lt hi] at hx
        have := V.2 i x hx
        simp [rMv, hI_I, hI_L, hI_R, hI_B, hI_b, hL_I, hL_L, hL_R, hL_B, hL_b, hR_I, hR_L, hR_R, hR_B, hR_b, hB_I, hB_L, hB_R, hB_B, hB_b, hN_I, hN_L, hN_R, hN_B, hN_b, hT_I, hT_L, hT_R, hT_B, hT_b, hX_I, hX_L, hX_R, hX_B, hX_b, hC_I, hC_L, hC_R, hC_B, hC_b, hU_I, hU_L, hU_R, hU_B, hU_b]
        exact this) (by
        intro i x hi hx
        have := V.2 i x hx
        simp [rMv, hI_I, hI_L, hI_R, hI_B, hI_b, hL_I, hL_L, hL_R, hL_B, hL_b, hR_I, hR_L, hR_R, hR_B, hR_b, hB_I, hB_L, hB_R, hB_B, hB_b, hN_I, hN_L, hN_R, hN_B, hN_b, hT_I, hT_L, hT_R, hT_B, hT_b, hX_I, hX_L, hX_R, hX_B, hX_b, hC_I, hC_L, hC_R, hC_B, hC_b, hU_I, hU_L, hU_R, hU_B, hU_b]
        exact this)
    refine ⟨w', ?_, r2, F.tr r3⟩
    rw [me_96_2]
    unfold mb_96_2
    have e1 : i32 l.length - 1 = i32 (l.length - 1) := by
      obtain ⟨q, hq⟩ : ∃ q, l.length = q + 1 := ⟨l.length - 1, by omega⟩
      rw [hq, i32_sub1]
      rfl
    simp only [ob_s, hR_I, hR_L, hR_B, hN_I, hN_L, hN_B, r1808, r1810, r1812, r1814, r1816, r1818, r1820, r1824, r1826, r1828, r1830, r1836, r1838, r1842, r1844, r1846, r1848, r1850, r1854, r1856, r1858, r1862, r1864, r1866, r1870, r1872, r1874, r1878, r1880, n4364, n4365, n4366, n4367, n4368, n4369, n4370, n4371, n4372, n4373, n4374, n4375, n4376, n4377, n4378, n4379, n4380, n4381, n4382, n4383, n4384, n4385, n4386, n4387, n4388, n4389, n4390, n4391, n4392, V.1, i32_nat (n := j) (by omega), i32_jx (n := j) (k := 8192) (by omega) (by omega), if_false, y1, y2, hyc, if_true, e1]
    exact r1
  | succ n ih =>
    intro j f hj hf
    obtain ⟨f, rfl⟩ : ∃ f', f = f' + 1 := ⟨f - 1, by omega⟩
    obtain ⟨z, hz⟩ : ∃ z, l[j]? = some z := ⟨l[j], List.getElem?_eq_getElem (by omega)⟩
    obtain ⟨y1, y2, y3⟩ := V.2 j z hz
    obtain ⟨w', r1, r2, r3⟩ := ih (j + 1) f (by omega) (by omega)
    refine ⟨w', ?_, r2, r3⟩
    rw [me_96_2]
    unfold mb_96_2
    simp only [ob_s, hR_I, hR_L, hR_B, hN_I, hN_L, hN_B, r1808, r1810, r1812, r1814, r1816, r1818, r1820, r1824, r1826, r1828, r1830, r1836, r1838, r1842, r1844, r1846, r1848, r1850, r1854, r1856, r1858, r1862, r1864, r1866, r1870, r1872, r1874, r1878, r1880, n4364, n4365, n4366, n4367, n4368, n4369, n4370, n4371, n4372, n4373, n4374, n4375, n4376, n4377, n4378, n4379, n4380, n4381, n4382, n4383, n4384, n4385, n4386, n4387, n4388, n4389, n4390, n4391, n4392, i32_nat (n := j) (by omega), i32_jx (n := j) (k := 8192) (by omega) (by omega), if_false, y1, i32_add1]
    rw [if_neg (by rw [i32_eq (by omega) (by omega)]; exact hp j z (by omega) hz)]
    exact r1
theorem fi_get {α : Type} {l : List α} {p : α → Bool} {k : Nat} (h : l.findIdx? p = some k) : ∃ y, l[k]? = some y ∧ p y = true ∧ (∀ i x, i < k → l[i]? = some x → p x = false) ∧ l.find? p = some y ∧ l.eraseP p = l.eraseIdx k := by
  induction l generalizing k with
  | nil => simp at h
  | cons a l ih =>
    rw [List.findIdx?_cons] at h
    cases ha : p a with
    | true =>
      simp [ha] at h
      subst h
      exact ⟨a, by simp, ha, by omega, by simp [ha], by simp [ha]⟩
    | false =>
      simp [ha] at h
      obtain ⟨k', h1, rfl⟩ := h
      obtain ⟨y, a1, a2, a3, a4, a5⟩ := ih h1
      refine ⟨y, by simpa using a1, a2, ?_, by simp [ha, a4], by simp [ha, a5]⟩
      intro i x hi hx
      cases i with
      | zero => simp at hx; subst hx; exact ha
      | succ i => exact a3 i x (by omega) (by simpa using hx)
theorem M_tkF {w : kx_H} {c : Nat} (M : MR w S) (hc : c < 512) (hm : S.mv.length ≤ 8192) (h0 : 0 < sCnt S c) : ∃ w', kx_ev wx_M (d + 1) 96 [kx_r 9 (some 4363), kx_i (i32 c)] w = some (.inl (some (.inr (.inl (sTkV S c)))), w') ∧ MR w' (sTkF S c) ∧ FM w w' := by
  obtain ⟨ψ, hψ⟩ := kx_fl 20000 (by omega)
  rw [mE_96 hψ]
  unfold mb_96_0
  cases hf : S.mv.findIdx? (vAt c) with
  | none =>
    exfalso
    rw [List.findIdx?_eq_none_iff] at hf
    unfold sCnt at h0
    rw [List.countP_pos_iff] at h0
    obtain ⟨a, h1, h2⟩ := h0
    rw [hf a h1] at h2
    cases h2
  | some k =>
    obtain ⟨y, a1, a2, a3, a4, a5⟩ := fi_get hf
    have hkl := (List.getElem?_eq_some_iff.mp a1).1
    obtain ⟨w', r1, r2, r3⟩ := M_tkF_l (d := d) (C := kx_ev wx_M d) M.sh M.mv hm hc a1 (by simpa [vAt] using a2) (fun i x hi hx => by simpa [vAt] using a3 i x hi hx) k 0 (ψ + 20000) (by omega) (by omega)
    have e : sTkV S c = y.2 := by unfold sTkV; rw [a4]
    rw [e]
    refine ⟨w', r1, ?_, FM.of r3 (by decide) (by decide) (by decide)⟩
    rw [← a5] at r2
    exact M.of_mv r3 r2
theorem M_out_s {C : kx_C} {l : List kMs} {k : Nat} {v : Int32} (hl : l.length ≤ 256) (hk : k < l.length) : ∀ n i f w, SH w → i + n + 1 = l.length → n + 1 ≤ f → k ≤ i → hp_I w 1868 4363 = i32 (l.length - 1) →
    (∀ j x, j < i → (l.eraseIdx k)[j]? = some x → rSn w j x) → (∀ j x, i < j → l[j]? = some x → rSn w j x) →
    ∃ w', kx_ex (wm_132 d C) f 19 [(0, kx_r 9 (some 4363)), (2, kx_i v), (3, kx_i (i32 i))] [] w = some (.inl (some (.inl v)), w') ∧ Lsn w' (l.eraseIdx k) ∧ FR [1868, 8777, 8779] [] [] [8781] w w' := by
  intro n
  induction n with
  | zero =>
    intro i f w H hi hf hki h1 h2 h3
    obtain ⟨f, rfl⟩ : ∃ f', f = f' + 1 := ⟨f - 1, by omega⟩
    refine ⟨w, ?_, ⟨by rw [List.length_eraseIdx_of_lt hk]; exact h1, fun j x hj => h2 j x ?_ hj⟩, FR.rf⟩
    · rw [me_132_19]
      unfold mb_132_19
      simp only [ob_s, h1]
      rw [if_pos (by rw [i32_le (by omega) (by omega)]; omega)]
    · have := (List.getElem?_eq_some_iff.mp hj).1
      rw [List.length_eraseIdx_of_lt hk] at this
      omega
  | succ n ih =>
    intro i f w H hi hf hki h1 h2 h3
    obtain ⟨r1808, r1810, r1812, r1814, r1816, r1818, r1820, r1824, r1826, r1828, r1830, r1836, r1838, r1842, r1844, r1846, r1848, r1850, r1854, r1856, r1858, r1862, r1864, r1866, r1870, r1872, r1874, r1878, r1880, n4364, n4365, n4366, n4367, n4368, n4369, n4370, n4371, n4372, n4373, n4374, n4375, n4376, n4377, n4378, n4379, n4380, n4381, n4382, n4383, n4384, n4385, n4386, n4387, n4388, n4389, n4390, n4391, n4392⟩ := id H
    obtain ⟨f, rfl⟩ : ∃ f', f = f' + 1 := ⟨f - 1, by omega⟩
    obtain ⟨y, hy⟩ : ∃ y, l[i + 1]? = some y := ⟨l[i + 1], List.getElem?_eq_getElem (by omega)⟩
    obtain ⟨y1, y2, y3, y4, y5⟩ := h3 (i + 1) y (by omega) hy
    have F : FR [1868, 8777, 8779] [] [] [8781] w (hp_sB (hp_sI (hp_sI w 8777 i (i32 y.1)) 8779 i (i32 y.2.1)) 8781 i y.2.2) := FR.sB (by decide) (FR.sI (by decide) (FR.sI (by decide) FR.rf))
    obtain ⟨w', r1, r2, r3⟩ := ih (i + 1) f (hp_sB (hp_sI (hp_sI w 8777 i (i32 y.1)) 8779 i (i32 y.2.1)) 8781 i y.2.2) (H.cong rfl rfl) (by omega) (by omega) (by omega) (by simpa [hI_I, hI_L, hI_R, hI_B, hI_b, hL_I, hL_L, hL_R, hL_B, hL_b, hR_I, hR_L, hR_R, hR_B, hR_b, hB_I, hB_L, hB_R, hB_B, hB_b, hN_I, hN_L, hN_R, hN_B, hN_b, hT_I, hT_L, hT_R, hT_B, hT_b, hX_I, hX_L, hX_R, hX_B, hX_b, hC_I, hC_L, hC_R, hC_B, hC_b, hU_I, hU_L, hU_R, hU_B, hU_b] using h1) (by
        intro j x hj hx
        by_cases hji : j = i
        · subst hji
          rw [List.getElem?_eraseIdx_of_ge hki, hy] at hx
          cases hx
          simp [rSn, hI_I, hI_L, hI_R, hI_B, hI_b, hL_I, hL_L, hL_R, hL_B, hL_b, hR_I, hR_L, hR_R, hR_B, hR_b, hB_I, hB_L, hB_R, hB_B, hB_b, hN_I, hN_L, hN_R, hN_B, hN_b, hT_I, hT_L, hT_R, hT_B, hT_b, hX_I, hX_L, hX_R, hX_B, hX_b, hC_I, hC_L, hC_R, hC_B, hC_b, hU_I, hU_L, hU_R, hU_B, hU_b, y4, y5]
        · have := h2 j x (by omega) hx
          simp [rSn, hI_I, hI_L, hI_R, hI_B, hI_b, hL_I, hL_L, hL_R, hL_B, hL_b, hR_I, hR_L, hR_R, hR_B, hR_b, hB_I, hB_L, hB_R, hB_B, hB_b, hN_I, hN_L, hN_R, hN_B, hN_b, hT_I, hT_L, hT_R, hT_B, hT_b, hX_I, hX_L, hX_R, hX_B, hX_b, hC_I, hC_L, hC_R, hC_B, hC_b, hU_I, hU_L, hU_R, hU_B, hU_b, hji]
          exact this) (by
        intro j x hj hx
        have := h3 j x (by omega) hx
        have hji : j ≠ i := by omega
        simp [rSn, hI_I, hI_L, hI_R, hI_B, hI_b, hL_I, hL_L, hL_R, hL_B, hL_b, hR_I, hR_L, hR_R, hR_B, hR_b, hB_I, hB_L, hB_R, hB_B, hB_b, hN_I, hN_L, hN_R, hN_B, hN_b, hT_I, hT_L, hT_R, hT_B, hT_b, hX_I, hX_L, hX_R, hX_B, hX_b, hC_I, hC_L, hC_R, hC_B, hC_b, hU_I, hU_L, hU_R, hU_B, hU_b, hji]
        exact this)
    refine ⟨w', ?_, r2, F.tr r3⟩
    rw [me_132_19]
    unfold mb_132_19
    simp only [ob_s, hR_I, hR_L, hR_B, hN_I, hN_L, hN_B, r1808, r1810, r1812, r1814, r1816, r1818, r1820, r1824, r1826, r1828, r1830, r1836, r1838, r1842, r1844, r1846, r1848, r1850, r1854, r1856, r1858, r1862, r1864, r1866, r1870, r1872, r1874, r1878, r1880, n4364, n4365, n4366, n4367, n4368, n4369, n4370, n4371, n4372, n4373, n4374, n4375, n4376, n4377, n4378, n4379, n4380, n4381, n4382, n4383, n4384, n4385, n4386, n4387, n4388, n4389, n4390, n4391, n4392, h1, i32_add1, i32_nat (n := i) (by omega), i32_jx (n := i) (k := 256) (by omega) (by omega), i32_nat (n := i + 1) (by omega), i32_jx (n := i + 1) (k := 256) (by omega) (by omega), if_false, y1, hI_I, hB_I, y3, kx_sb_b, Nat.reduceEqDiff, false_and, y2]
    rw [if_neg (by rw [i32_le (by omega) (by omega)]; omega)]
    exact r1
theorem er_fl {l : List kMs} {k : Nat} {y : kMs} (hk : l[k]? = some y) (nd : (l.map (·.1)).Nodup) : l.eraseIdx k = l.filter (fun e => e.1 != y.1) := by
  induction l generalizing k with
  | nil => simp at hk
  | cons a l ih =>
    rw [List.map_cons, List.nodup_cons] at nd
    cases k with
    | zero =>
      simp at hk
      subst hk
      simp
      symm
      rw [List.filter_eq_self]
      intro b hb
      simp
      intro e
      exact nd.1 (List.mem_map.mpr ⟨b, hb, e⟩)
    | succ k =>
      simp at hk
      have hm : y ∈ l := List.mem_of_getElem? hk
      have : a.1 ≠ y.1 := fun e => nd.1 (List.mem_map.mpr ⟨y, hm, e.symm⟩)
      simp [this]
      exact ih hk nd.2
/-- the first that stands there, out -/
theorem M_out {w : kx_H} {k : Nat} {y : kMs} (M : MR w S) (hm : S.sn.length ≤ 256) (hk : S.sn[k]? = some y) (nd : (S.sn.map (·.1)).Nodup) : ∃ w', kx_ev wx_M (d + 1) 132 [kx_r 9 (some 4363), kx_i (i32 k)] w = some (.inl (some (.inl (i32 y.1))), w') ∧ MR w' (sOut S y.1) ∧ FM w w' := by
  obtain ⟨ψ, hψ⟩ := kx_fl 20000 (by omega)
  rw [mE_132 hψ]
  unfold mb_132_0
  obtain ⟨r1808, r1810, r1812, r1814, r1816, r1818, r1820, r1824, r1826, r1828, r1830, r1836, r1838, r1842, r1844, r1846, r1848, r1850, r1854, r1856, r1858, r1862, r1864, r1866, r1870, r1872, r1874, r1878, r1880, n4364, n4365, n4366, n4367, n4368, n4369, n4370, n4371, n4372, n4373, n4374, n4375, n4376, n4377, n4378, n4379, n4380, n4381, n4382, n4383, n4384, n4385, n4386, n4387, n4388, n4389, n4390, n4391, n4392⟩ := id M.sh
  have hkl := (List.getElem?_eq_some_iff.mp hk).1
  obtain ⟨y1, y2, y3, y4, y5⟩ := M.sn.2 k y hk
  have F : FR [1868, 8777, 8779] [] [] [8781] w (hp_sI w 1868 4363 (i32 (S.sn.length - 1))) := FR.sI (by decide) FR.rf
  obtain ⟨w', r1, r2, r3⟩ := M_out_s (d := d) (C := kx_ev wx_M d) (k := k) (v := i32 y.1) hm hkl (S.sn.length - 1 - k) k (ψ + 20000) (hp_sI w 1868 4363 (i32 (S.sn.length - 1))) (M.sh.cong rfl rfl) (by omega) (by omega) (by omega) (by simp [hI_I]) (by
      intro i x hi hx
      rw [List.getElem?_eraseIdx_of_lt hi] at hx
      have := M.sn.2 i x hx
      simp [rSn, hI_I, hI_L, hI_R, hI_B, hI_b, hL_I, hL_L, hL_R, hL_B, hL_b, hR_I, hR_L, hR_R, hR_B, hR_b, hB_I, hB_L, hB_R, hB_B, hB_b, hN_I, hN_L, hN_R, hN_B, hN_b, hT_I, hT_L, hT_R, hT_B, hT_b, hX_I, hX_L, hX_R, hX_B, hX_b, hC_I, hC_L, hC_R, hC_B, hC_b, hU_I, hU_L, hU_R, hU_B, hU_b]
      exact this) (by
      intro i x hi hx
      have := M.sn.2 i x hx
      simp [rSn, hI_I, hI_L, hI_R, hI_B, hI_b, hL_I, hL_L, hL_R, hL_B, hL_b, hR_I, hR_L, hR_R, hR_B, hR_b, hB_I, hB_L, hB_R, hB_B, hB_b, hN_I, hN_L, hN_R, hN_B, hN_b, hT_I, hT_L, hT_R, hT_B, hT_b, hX_I, hX_L, hX_R, hX_B, hX_b, hC_I, hC_L, hC_R, hC_B, hC_b, hU_I, hU_L, hU_R, hU_B, hU_b]
      exact this)
  rw [er_fl hk nd] at r2
  have F3 := F.tr r3
  refine ⟨w', ?_, M.of_sn F3 r2, FM.of F3 (by decide) (by decide) (by decide)⟩
  have e1 : i32 S.sn.length - 1 = i32 (S.sn.length - 1) := by
    obtain ⟨q, hq⟩ : ∃ q, S.sn.length = q + 1 := ⟨S.sn.length - 1, by omega⟩
    rw [hq, i32_sub1]
    rfl
  simp only [ob_s, hR_I, hR_L, hR_B, hN_I, hN_L, hN_B, r1808, r1810, r1812, r1814, r1816, r1818, r1820, r1824, r1826, r1828, r1830, r1836, r1838, r1842, r1844, r1846, r1848, r1850, r1854, r1856, r1858, r1862, r1864, r1866, r1870, r1872, r1874, r1878, r1880, n4364, n4365, n4366, n4367, n4368, n4369, n4370, n4371, n4372, n4373, n4374, n4375, n4376, n4377, n4378, n4379, n4380, n4381, n4382, n4383, n4384, n4385, n4386, n4387, n4388, n4389, n4390, n4391, n4392, M.sn.1, i32_nat (n := k) (by omega), i32_jx (n := k) (k := 256) (by omega) (by omega), if_false, y1, e1]
  exact r1
end M3
