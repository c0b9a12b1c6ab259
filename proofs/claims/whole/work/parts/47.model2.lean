/-! the model's leaf methods -/
theorem gp_app {α : Type} {l : List α} {x y : α} {k : Nat} (h : (l ++ [x])[k]? = some y) : (k < l.length ∧ l[k]? = some y) ∨ (k = l.length ∧ y = x) := by
  by_cases hk : k < l.length
  · rw [List.getElem?_append_left hk] at h
    exact Or.inl ⟨hk, h⟩
  · rw [List.getElem?_append_right (by omega)] at h
    have : k - l.length = 0 := by
      have := (List.getElem?_eq_some_iff.mp h).1
      simp at this
      omega
    rw [this] at h
    simp at h
    exact Or.inr ⟨by omega, h.symm⟩
section PUSH
variable {w : kx_H}
theorem Lrd.push {l : List Nat} {x : Nat} (h : Lrd w l) (hx : x < 256) : Lrd (hp_sI (hp_sI w 8743 l.length (i32 x)) 1822 4363 (i32 (l.length + 1))) (l ++ [x]) := by
  refine ⟨by simp [hI_I, hI_L, hI_R, hI_B, hI_b, hL_I, hL_L, hL_R, hL_B, hL_b, hR_I, hR_L, hR_R, hR_B, hR_b, hB_I, hB_L, hB_R, hB_B, hB_b, hN_I, hN_L, hN_R, hN_B, hN_b, hT_I, hT_L, hT_R, hT_B, hT_b, hX_I, hX_L, hX_R, hX_B, hX_b, hC_I, hC_L, hC_R, hC_B, hC_b, hU_I, hU_L, hU_R, hU_B, hU_b], fun k y hk => ?_⟩
  rcases gp_app hk with ⟨h1, h2⟩ | ⟨rfl, rfl⟩
  · have := h.2 k y h2
    simp [hI_I, hI_L, hI_R, hI_B, hI_b, hL_I, hL_L, hL_R, hL_B, hL_b, hR_I, hR_L, hR_R, hR_B, hR_b, hB_I, hB_L, hB_R, hB_B, hB_b, hN_I, hN_L, hN_R, hN_B, hN_b, hT_I, hT_L, hT_R, hT_B, hT_b, hX_I, hX_L, hX_R, hX_B, hX_b, hC_I, hC_L, hC_R, hC_B, hC_b, hU_I, hU_L, hU_R, hU_B, hU_b, Nat.ne_of_lt h1, this]
  · simp [hI_I, hI_L, hI_R, hI_B, hI_b, hL_I, hL_L, hL_R, hL_B, hL_b, hR_I, hR_L, hR_R, hR_B, hR_b, hB_I, hB_L, hB_R, hB_B, hB_b, hN_I, hN_L, hN_R, hN_B, hN_b, hT_I, hT_L, hT_R, hT_B, hT_b, hX_I, hX_L, hX_R, hX_B, hX_b, hC_I, hC_L, hC_R, hC_B, hC_b, hU_I, hU_L, hU_R, hU_B, hU_b, hx]
theorem Lmv.push {l : List (Nat × Int64)} {x : Nat} {v : Int64} (h : Lmv w l) (hx : x < 512) : Lmv (hp_sI (hp_sL (hp_sI w 8751 l.length (i32 x)) 8753 l.length v) 1834 4363 (i32 (l.length + 1))) (l ++ [(x, v)]) := by
  refine ⟨by simp [hI_I, hI_L, hI_R, hI_B, hI_b, hL_I, hL_L, hL_R, hL_B, hL_b, hR_I, hR_L, hR_R, hR_B, hR_b, hB_I, hB_L, hB_R, hB_B, hB_b, hN_I, hN_L, hN_R, hN_B, hN_b, hT_I, hT_L, hT_R, hT_B, hT_b, hX_I, hX_L, hX_R, hX_B, hX_b, hC_I, hC_L, hC_R, hC_B, hC_b, hU_I, hU_L, hU_R, hU_B, hU_b], fun k y hk => ?_⟩
  rcases gp_app hk with ⟨h1, h2⟩ | ⟨rfl, rfl⟩
  · have := h.2 k y h2
    simp [hI_I, hI_L, hI_R, hI_B, hI_b, hL_I, hL_L, hL_R, hL_B, hL_b, hR_I, hR_L, hR_R, hR_B, hR_b, hB_I, hB_L, hB_R, hB_B, hB_b, hN_I, hN_L, hN_R, hN_B, hN_b, hT_I, hT_L, hT_R, hT_B, hT_b, hX_I, hX_L, hX_R, hX_B, hX_b, hC_I, hC_L, hC_R, hC_B, hC_b, hU_I, hU_L, hU_R, hU_B, hU_b, Nat.ne_of_lt h1, this]
  · simp [hI_I, hI_L, hI_R, hI_B, hI_b, hL_I, hL_L, hL_R, hL_B, hL_b, hR_I, hR_L, hR_R, hR_B, hR_b, hB_I, hB_L, hB_R, hB_B, hB_b, hN_I, hN_L, hN_R, hN_B, hN_b, hT_I, hT_L, hT_R, hT_B, hT_b, hX_I, hX_L, hX_R, hX_B, hX_b, hC_I, hC_L, hC_R, hC_B, hC_b, hU_I, hU_L, hU_R, hU_B, hU_b, hx]
theorem Lmo.push {l : List kMo} {t c : Nat} {g : Bool} {v : Int64} {j : Int32} (h : Lmo w l) (ht : t < 256) (hc : c < 512) : Lmo (hp_sI (hp_sI (hp_sL (hp_sB (hp_sI (hp_sI w 8755 l.length (i32 t)) 8757 l.length (i32 c)) 8759 l.length g) 8761 l.length v) 8763 l.length j) 1840 4363 (i32 (l.length + 1))) (l ++ [(t, c, g, v, j)]) := by
  refine ⟨by simp [hI_I, hI_L, hI_R, hI_B, hI_b, hL_I, hL_L, hL_R, hL_B, hL_b, hR_I, hR_L, hR_R, hR_B, hR_b, hB_I, hB_L, hB_R, hB_B, hB_b, hN_I, hN_L, hN_R, hN_B, hN_b, hT_I, hT_L, hT_R, hT_B, hT_b, hX_I, hX_L, hX_R, hX_B, hX_b, hC_I, hC_L, hC_R, hC_B, hC_b, hU_I, hU_L, hU_R, hU_B, hU_b], fun k y hk => ?_⟩
  rcases gp_app hk with ⟨h1, h2⟩ | ⟨rfl, rfl⟩
  · have := h.2 k y h2
    simp [hI_I, hI_L, hI_R, hI_B, hI_b, hL_I, hL_L, hL_R, hL_B, hL_b, hR_I, hR_L, hR_R, hR_B, hR_b, hB_I, hB_L, hB_R, hB_B, hB_b, hN_I, hN_L, hN_R, hN_B, hN_b, hT_I, hT_L, hT_R, hT_B, hT_b, hX_I, hX_L, hX_R, hX_B, hX_b, hC_I, hC_L, hC_R, hC_B, hC_b, hU_I, hU_L, hU_R, hU_B, hU_b, Nat.ne_of_lt h1, this]
  · simp [hI_I, hI_L, hI_R, hI_B, hI_b, hL_I, hL_L, hL_R, hL_B, hL_b, hR_I, hR_L, hR_R, hR_B, hR_b, hB_I, hB_L, hB_R, hB_B, hB_b, hN_I, hN_L, hN_R, hN_B, hN_b, hT_I, hT_L, hT_R, hT_B, hT_b, hX_I, hX_L, hX_R, hX_B, hX_b, hC_I, hC_L, hC_R, hC_B, hC_b, hU_I, hU_L, hU_R, hU_B, hU_b, ht, hc]
theorem Lmt.push {l : List kMt} {c : Int32} {g : Bool} {v : Int64} (h : Lmt w l) : Lmt (hp_sI (hp_sL (hp_sB (hp_sI w 8765 l.length c) 8767 l.length g) 8769 l.length v) 1852 4363 (i32 (l.length + 1))) (l ++ [(c, g, v)]) := by
  refine ⟨by simp [hI_I, hI_L, hI_R, hI_B, hI_b, hL_I, hL_L, hL_R, hL_B, hL_b, hR_I, hR_L, hR_R, hR_B, hR_b, hB_I, hB_L, hB_R, hB_B, hB_b, hN_I, hN_L, hN_R, hN_B, hN_b, hT_I, hT_L, hT_R, hT_B, hT_b, hX_I, hX_L, hX_R, hX_B, hX_b, hC_I, hC_L, hC_R, hC_B, hC_b, hU_I, hU_L, hU_R, hU_B, hU_b], fun k y hk => ?_⟩
  rcases gp_app hk with ⟨h1, h2⟩ | ⟨rfl, rfl⟩
  · have := h.2 k y h2
    simp [hI_I, hI_L, hI_R, hI_B, hI_b, hL_I, hL_L, hL_R, hL_B, hL_b, hR_I, hR_L, hR_R, hR_B, hR_b, hB_I, hB_L, hB_R, hB_B, hB_b, hN_I, hN_L, hN_R, hN_B, hN_b, hT_I, hT_L, hT_R, hT_B, hT_b, hX_I, hX_L, hX_R, hX_B, hX_b, hC_I, hC_L, hC_R, hC_B, hC_b, hU_I, hU_L, hU_R, hU_B, hU_b, Nat.ne_of_lt h1, this]
  · simp [hI_I, hI_L, hI_R, hI_B, hI_b, hL_I, hL_L, hL_R, hL_B, hL_b, hR_I, hR_L, hR_R, hR_B, hR_b, hB_I, hB_L, hB_R, hB_B, hB_b, hN_I, hN_L, hN_R, hN_B, hN_b, hT_I, hT_L, hT_R, hT_B, hT_b, hX_I, hX_L, hX_R, hX_B, hX_b, hC_I, hC_L, hC_R, hC_B, hC_b, hU_I, hU_L, hU_R, hU_B, hU_b]
theorem Lsn.push {l : List kMs} {t g : Nat} {b : Bool} (h : Lsn w l) (ht : t < 256) (hg : g < 256) : Lsn (hp_sI (hp_sB (hp_sI (hp_sI w 8777 l.length (i32 t)) 8779 l.length (i32 g)) 8781 l.length b) 1868 4363 (i32 (l.length + 1))) (l ++ [(t, g, b)]) := by
  refine ⟨by simp [hI_I, hI_L, hI_R, hI_B, hI_b, hL_I, hL_L, hL_R, hL_B, hL_b, hR_I, hR_L, hR_R, hR_B, hR_b, hB_I, hB_L, hB_R, hB_B, hB_b, hN_I, hN_L, hN_R, hN_B, hN_b, hT_I, hT_L, hT_R, hT_B, hT_b, hX_I, hX_L, hX_R, hX_B, hX_b, hC_I, hC_L, hC_R, hC_B, hC_b, hU_I, hU_L, hU_R, hU_B, hU_b], fun k y hk => ?_⟩
  rcases gp_app hk with ⟨h1, h2⟩ | ⟨rfl, rfl⟩
  · have := h.2 k y h2
    simp [hI_I, hI_L, hI_R, hI_B, hI_b, hL_I, hL_L, hL_R, hL_B, hL_b, hR_I, hR_L, hR_R, hR_B, hR_b, hB_I, hB_L, hB_R, hB_B, hB_b, hN_I, hN_L, hN_R, hN_B, hN_b, hT_I, hT_L, hT_R, hT_B, hT_b, hX_I, hX_L, hX_R, hX_B, hX_b, hC_I, hC_L, hC_R, hC_B, hC_b, hU_I, hU_L, hU_R, hU_B, hU_b, Nat.ne_of_lt h1, this]
  · simp [hI_I, hI_L, hI_R, hI_B, hI_b, hL_I, hL_L, hL_R, hL_B, hL_b, hR_I, hR_L, hR_R, hR_B, hR_b, hB_I, hB_L, hB_R, hB_B, hB_b, hN_I, hN_L, hN_R, hN_B, hN_b, hT_I, hT_L, hT_R, hT_B, hT_b, hX_I, hX_L, hX_R, hX_B, hX_b, hC_I, hC_L, hC_R, hC_B, hC_b, hU_I, hU_L, hU_R, hU_B, hU_b, ht, hg]
theorem Lme.push {l : List kMe} {e : Nat ⊕ Nat} {v : Int64} (h : Lme w l) : Lme (hp_sI (hp_sL (hp_sI w 8783 l.length (ecode e)) 8785 l.length v) 1876 4363 (i32 (l.length + 1))) (l ++ [(e, v)]) := by
  refine ⟨by simp [hI_I, hI_L, hI_R, hI_B, hI_b, hL_I, hL_L, hL_R, hL_B, hL_b, hR_I, hR_L, hR_R, hR_B, hR_b, hB_I, hB_L, hB_R, hB_B, hB_b, hN_I, hN_L, hN_R, hN_B, hN_b, hT_I, hT_L, hT_R, hT_B, hT_b, hX_I, hX_L, hX_R, hX_B, hX_b, hC_I, hC_L, hC_R, hC_B, hC_b, hU_I, hU_L, hU_R, hU_B, hU_b], fun k y hk => ?_⟩
  rcases gp_app hk with ⟨h1, h2⟩ | ⟨rfl, rfl⟩
  · have := h.2 k y h2
    simp [hI_I, hI_L, hI_R, hI_B, hI_b, hL_I, hL_L, hL_R, hL_B, hL_b, hR_I, hR_L, hR_R, hR_B, hR_b, hB_I, hB_L, hB_R, hB_B, hB_b, hN_I, hN_L, hN_R, hN_B, hN_b, hT_I, hT_L, hT_R, hT_B, hT_b, hX_I, hX_L, hX_R, hX_B, hX_b, hC_I, hC_L, hC_R, hC_B, hC_b, hU_I, hU_L, hU_R, hU_B, hU_b, Nat.ne_of_lt h1, this]
  · simp [hI_I, hI_L, hI_R, hI_B, hI_b, hL_I, hL_L, hL_R, hL_B, hL_b, hR_I, hR_L, hR_R, hR_B, hR_b, hB_I, hB_L, hB_R, hB_B, hB_b, hN_I, hN_L, hN_R, hN_B, hN_b, hT_I, hT_L, hT_R, hT_B, hT_b, hX_I, hX_L, hX_R, hX_B, hX_b, hC_I, hC_L, hC_R, hC_B, hC_b, hU_I, hU_L, hU_R, hU_B, hU_b]
end PUSH
section M2
variable {w : kx_H} {d t c g : Nat} {S : kS} {n v : Int64} {f b : Bool} {x j : Int32}
theorem M_has (M : MR w S) (ht : t < 256) : ∃ w', kx_ev wx_M (d + 1) 103 [kx_r 9 (some 4363), kx_i (i32 t), kx_l n, kx_i (kx_b f), kx_i x, kx_i (kx_b b)] w = some (.inl none, w') ∧ MR w' (sHas S t n f x b) ∧ FM w w' := by
  obtain ⟨r1808, r1810, r1812, r1814, r1816, r1818, r1820, r1824, r1826, r1828, r1830, r1836, r1838, r1842, r1844, r1846, r1848, r1850, r1854, r1856, r1858, r1862, r1864, r1866, r1870, r1872, r1874, r1878, r1880, n4364, n4365, n4366, n4367, n4368, n4369, n4370, n4371, n4372, n4373, n4374, n4375, n4376, n4377, n4378, n4379, n4380, n4381, n4382, n4383, n4384, n4385, n4386, n4387, n4388, n4389, n4390, n4391, n4392⟩ := id M.sh
  have F : FR [8731, 8733, 8739, 8749, 8771, 8773, 8775] [8735] [] [8729, 8737, 8741, 8745, 8747] w (hp_sB (hp_sI (hp_sB (hp_sL w 8735 t n) 8737 t f) 8739 t x) 8741 t b) := FR.sB (by decide) (FR.sI (by decide) (FR.sB (by decide) (FR.sL (by decide) FR.rf)))
  refine ⟨_, ?_, M.of_ag F (AG.sB (AG.sI (AG.sB (AG.sL M.ag)))), FM.of F (by decide) (by decide) (by decide)⟩
  obtain ⟨ψ, hψ⟩ := kx_fu
  rw [mE_103 hψ]
  unfold mb_103_0
  simp only [ob_s, hR_I, hR_L, hR_B, hN_I, hN_L, hN_B, r1808, r1810, r1812, r1814, r1816, r1818, r1820, r1824, r1826, r1828, r1830, r1836, r1838, r1842, r1844, r1846, r1848, r1850, r1854, r1856, r1858, r1862, r1864, r1866, r1870, r1872, r1874, r1878, r1880, n4364, n4365, n4366, n4367, n4368, n4369, n4370, n4371, n4372, n4373, n4374, n4375, n4376, n4377, n4378, n4379, n4380, n4381, n4382, n4383, n4384, n4385, n4386, n4387, n4388, n4389, n4390, n4391, n4392, i32_nat (n := t) (by omega), i32_jx (n := t) (k := 256) (by omega) (by omega), kx_sb_b, if_false]
theorem M_wake (M : MR w S) (ht : t < 256) (hr : S.rd.length < 256) : ∃ w', kx_ev wx_M (d + 1) 105 [kx_r 9 (some 4363), kx_i (i32 t)] w = some (.inl none, w') ∧ MR w' (sWake S t) ∧ FM w w' := by
  obtain ⟨r1808, r1810, r1812, r1814, r1816, r1818, r1820, r1824, r1826, r1828, r1830, r1836, r1838, r1842, r1844, r1846, r1848, r1850, r1854, r1856, r1858, r1862, r1864, r1866, r1870, r1872, r1874, r1878, r1880, n4364, n4365, n4366, n4367, n4368, n4369, n4370, n4371, n4372, n4373, n4374, n4375, n4376, n4377, n4378, n4379, n4380, n4381, n4382, n4383, n4384, n4385, n4386, n4387, n4388, n4389, n4390, n4391, n4392⟩ := id M.sh
  have F : FR [8731, 8733, 8739, 8749, 8771, 8773, 8775] [8735] [] [8729, 8737, 8741, 8745, 8747] w (hp_sI (hp_sI w 8731 t 1) 8733 t (-1)) := FR.sI (by decide) (FR.sI (by decide) FR.rf)
  have M1 := M.of_ag F (AG.sI (AG.sI M.ag))
  have F2 : FR [1822, 8743] [] [] [] (hp_sI (hp_sI w 8731 t 1) 8733 t (-1)) (hp_sI (hp_sI (hp_sI (hp_sI w 8731 t 1) 8733 t (-1)) 8743 S.rd.length (i32 t)) 1822 4363 (i32 (S.rd.length + 1))) := FR.sI (by decide) (FR.sI (by decide) FR.rf)
  refine ⟨_, ?_, M1.of_rd F2 (Lrd.push M1.rd ht), (FM.of F (by decide) (by decide) (by decide)).tr (FM.of F2 (by decide) (by decide) (by decide))⟩
  obtain ⟨ψ, hψ⟩ := kx_fu
  rw [mE_105 hψ]
  unfold mb_105_0
  have e := M.rd.1
  simp only [ob_s, hR_I, hR_L, hR_B, hN_I, hN_L, hN_B, r1808, r1810, r1812, r1814, r1816, r1818, r1820, r1824, r1826, r1828, r1830, r1836, r1838, r1842, r1844, r1846, r1848, r1850, r1854, r1856, r1858, r1862, r1864, r1866, r1870, r1872, r1874, r1878, r1880, n4364, n4365, n4366, n4367, n4368, n4369, n4370, n4371, n4372, n4373, n4374, n4375, n4376, n4377, n4378, n4379, n4380, n4381, n4382, n4383, n4384, n4385, n4386, n4387, n4388, n4389, n4390, n4391, n4392, i32_nat (n := t) (by omega), i32_jx (n := t) (k := 256) (by omega) (by omega), hI_I, if_false, e]
  simp [i32_nat (n := S.rd.length) (by omega), i32_jx (n := S.rd.length) (k := 256) (by omega) (by omega), i32_add1, i32_neg (n := S.rd.length) (by omega), hr, e]
theorem M_store (M : MR w S) (hc : c < 512) (hr : S.mv.length < 8192) : ∃ w', kx_ev wx_M (d + 1) 106 [kx_r 9 (some 4363), kx_i (i32 c), kx_l v] w = some (.inl none, w') ∧ MR w' (sStore S c v) ∧ FM w w' := by
  obtain ⟨r1808, r1810, r1812, r1814, r1816, r1818, r1820, r1824, r1826, r1828, r1830, r1836, r1838, r1842, r1844, r1846, r1848, r1850, r1854, r1856, r1858, r1862, r1864, r1866, r1870, r1872, r1874, r1878, r1880, n4364, n4365, n4366, n4367, n4368, n4369, n4370, n4371, n4372, n4373, n4374, n4375, n4376, n4377, n4378, n4379, n4380, n4381, n4382, n4383, n4384, n4385, n4386, n4387, n4388, n4389, n4390, n4391, n4392⟩ := id M.sh
  have F : FR [1834, 8751] [8753] [] [] w (hp_sI (hp_sL (hp_sI w 8751 S.mv.length (i32 c)) 8753 S.mv.length v) 1834 4363 (i32 (S.mv.length + 1))) := FR.sI (by decide) (FR.sL (by decide) (FR.sI (by decide) FR.rf))
  refine ⟨_, ?_, M.of_mv F (Lmv.push M.mv hc), FM.of F (by decide) (by decide) (by decide)⟩
  obtain ⟨ψ, hψ⟩ := kx_fu
  rw [mE_106 hψ]
  unfold mb_106_0
  have e := M.mv.1
  simp only [ob_s, hR_I, hR_L, hR_B, hN_I, hN_L, hN_B, r1808, r1810, r1812, r1814, r1816, r1818, r1820, r1824, r1826, r1828, r1830, r1836, r1838, r1842, r1844, r1846, r1848, r1850, r1854, r1856, r1858, r1862, r1864, r1866, r1870, r1872, r1874, r1878, r1880, n4364, n4365, n4366, n4367, n4368, n4369, n4370, n4371, n4372, n4373, n4374, n4375, n4376, n4377, n4378, n4379, n4380, n4381, n4382, n4383, n4384, n4385, n4386, n4387, n4388, n4389, n4390, n4391, n4392, hI_I, hI_L, if_false, e]
  simp [i32_nat (n := S.mv.length) (by omega), i32_add1, i32_neg (n := S.mv.length) (by omega), hr, e]
theorem M_offer (M : MR w S) (ht : t < 256) (hc : c < 512) (hr : S.mo.length < 4352) : ∃ w', kx_ev wx_M (d + 1) 107 [kx_r 9 (some 4363), kx_i (i32 t), kx_i (i32 c), kx_i (kx_b b), kx_l v, kx_i j] w = some (.inl none, w') ∧ MR w' (kS.s_mo S (S.mo ++ [(t, c, b, v, j)])) ∧ FM w w' := by
  obtain ⟨r1808, r1810, r1812, r1814, r1816, r1818, r1820, r1824, r1826, r1828, r1830, r1836, r1838, r1842, r1844, r1846, r1848, r1850, r1854, r1856, r1858, r1862, r1864, r1866, r1870, r1872, r1874, r1878, r1880, n4364, n4365, n4366, n4367, n4368, n4369, n4370, n4371, n4372, n4373, n4374, n4375, n4376, n4377, n4378, n4379, n4380, n4381, n4382, n4383, n4384, n4385, n4386, n4387, n4388, n4389, n4390, n4391, n4392⟩ := id M.sh
  have F : FR [1840, 8755, 8757, 8763] [8761] [] [8759] w (hp_sI (hp_sI (hp_sL (hp_sB (hp_sI (hp_sI w 8755 S.mo.length (i32 t)) 8757 S.mo.length (i32 c)) 8759 S.mo.length b) 8761 S.mo.length v) 8763 S.mo.length j) 1840 4363 (i32 (S.mo.length + 1))) := FR.sI (by decide) (FR.sI (by decide) (FR.sL (by decide) (FR.sB (by decide) (FR.sI (by decide) (FR.sI (by decide) FR.rf)))))
  refine ⟨_, ?_, M.of_mo F (Lmo.push M.mo ht hc), FM.of F (by decide) (by decide) (by decide)⟩
  obtain ⟨ψ, hψ⟩ := kx_fu
  rw [mE_107 hψ]
  unfold mb_107_0
  have e := M.mo.1
  simp only [ob_s, hR_I, hR_L, hR_B, hN_I, hN_L, hN_B, r1808, r1810, r1812, r1814, r1816, r1818, r1820, r1824, r1826, r1828, r1830, r1836, r1838, r1842, r1844, r1846, r1848, r1850, r1854, r1856, r1858, r1862, r1864, r1866, r1870, r1872, r1874, r1878, r1880, n4364, n4365, n4366, n4367, n4368, n4369, n4370, n4371, n4372, n4373, n4374, n4375, n4376, n4377, n4378, n4379, n4380, n4381, n4382, n4383, n4384, n4385, n4386, n4387, n4388, n4389, n4390, n4391, n4392, hI_I, hI_L, hI_B, if_false, e, kx_sb_b]
  simp [i32_nat (n := S.mo.length) (by omega), i32_add1, i32_neg (n := S.mo.length) (by omega), hr, e]
theorem M_stand (M : MR w S) (ht : t < 256) (hg : g < 256) (hr : S.sn.length < 256) : ∃ w', kx_ev wx_M (d + 1) 128 [kx_r 9 (some 4363), kx_i (i32 t), kx_i (i32 g), kx_i (kx_b b)] w = some (.inl none, w') ∧ MR w' (kS.s_sn S (S.sn ++ [(t, g, b)])) ∧ FM w w' := by
  obtain ⟨r1808, r1810, r1812, r1814, r1816, r1818, r1820, r1824, r1826, r1828, r1830, r1836, r1838, r1842, r1844, r1846, r1848, r1850, r1854, r1856, r1858, r1862, r1864, r1866, r1870, r1872, r1874, r1878, r1880, n4364, n4365, n4366, n4367, n4368, n4369, n4370, n4371, n4372, n4373, n4374, n4375, n4376, n4377, n4378, n4379, n4380, n4381, n4382, n4383, n4384, n4385, n4386, n4387, n4388, n4389, n4390, n4391, n4392⟩ := id M.sh
  have F : FR [1868, 8777, 8779] [] [] [8781] w (hp_sI (hp_sB (hp_sI (hp_sI w 8777 S.sn.length (i32 t)) 8779 S.sn.length (i32 g)) 8781 S.sn.length b) 1868 4363 (i32 (S.sn.length + 1))) := FR.sI (by decide) (FR.sB (by decide) (FR.sI (by decide) (FR.sI (by decide) FR.rf)))
  refine ⟨_, ?_, M.of_sn F (Lsn.push M.sn ht hg), FM.of F (by decide) (by decide) (by decide)⟩
  obtain ⟨ψ, hψ⟩ := kx_fu
  rw [mE_128 hψ]
  unfold mb_128_0
  have e := M.sn.1
  simp only [ob_s, hR_I, hR_L, hR_B, hN_I, hN_L, hN_B, r1808, r1810, r1812, r1814, r1816, r1818, r1820, r1824, r1826, r1828, r1830, r1836, r1838, r1842, r1844, r1846, r1848, r1850, r1854, r1856, r1858, r1862, r1864, r1866, r1870, r1872, r1874, r1878, r1880, n4364, n4365, n4366, n4367, n4368, n4369, n4370, n4371, n4372, n4373, n4374, n4375, n4376, n4377, n4378, n4379, n4380, n4381, n4382, n4383, n4384, n4385, n4386, n4387, n4388, n4389, n4390, n4391, n4392, hI_I, hI_L, hI_B, if_false, e, kx_sb_b]
  simp [i32_nat (n := S.sn.length) (by omega), i32_add1, i32_neg (n := S.sn.length) (by omega), hr, e]
theorem M_th (M : MR w S) : MR (hp_sI w 1800 4363 x) (sTh S x) ∧ FM w (hp_sI w 1800 4363 x) := by
  have F : FR [1800] [] [] [] w (hp_sI w 1800 4363 x) := FR.sI (by decide) FR.rf
  exact ⟨M.of_th F (by simp [hI_I]), FM.of F (by decide) (by decide) (by decide)⟩
theorem M_fail (M : MR w S) : ∃ w', kx_ev wx_M (d + 1) 91 [kx_r 9 (some 4363), kx_i x] w = some (.inl (some (.inl 0)), w') ∧ MR w' (sTh S x) ∧ FM w w' := by
  refine ⟨_, ?_, M_th M⟩
  obtain ⟨ψ, hψ⟩ := kx_fu
  rw [mE_91 hψ]
  unfold mb_91_0
  simp only [ob_s]
theorem M_no (M : MR w S) : ∃ w', kx_ev wx_M (d + 1) 99 [kx_r 9 (some 4363), kx_i x] w = some (.inl (some (.inl 0)), w') ∧ MR w' (sTh S x) ∧ FM w w' := by
  refine ⟨_, ?_, M_th M⟩
  obtain ⟨ψ, hψ⟩ := kx_fu
  rw [mE_99 hψ]
  unfold mb_99_0
  simp only [ob_s]
  simp
theorem i32_ltl {k : Nat} (hk : k < 1000000000) (h : ¬ x < 0) (h2 : ¬ i32 k ≤ x) : x.toNatClampNeg < k ∧ x = i32 x.toNatClampNeg := by
  obtain ⟨e, hb⟩ := i32_of h
  refine ⟨?_, e⟩
  have h3 : x < i32 k := by rw [Int32.lt_iff_toInt_lt]; rw [Int32.le_iff_toInt_le] at h2; omega
  rw [e] at h3
  exact (Int32.ofNat_lt_iff_lt (by omega) (by omega)).mp h3
theorem nlt_le {x y : Int32} : (¬ x < y) = (y ≤ x) := by
  rw [Int32.lt_iff_toInt_lt, Int32.le_iff_toInt_le]
  exact propext Int.not_lt
theorem nle_lt {x y : Int32} : (¬ x ≤ y) = (y < x) := by
  rw [Int32.lt_iff_toInt_lt, Int32.le_iff_toInt_le]
  exact propext Int.not_le
theorem M_isCh (M : MR w S) : kx_ev wx_M (d + 1) 93 [kx_r 9 (some 4363), kx_i x] w = some (.inl (some (.inl (kx_b (isCh S x)))), w) := by
  obtain ⟨r1808, r1810, r1812, r1814, r1816, r1818, r1820, r1824, r1826, r1828, r1830, r1836, r1838, r1842, r1844, r1846, r1848, r1850, r1854, r1856, r1858, r1862, r1864, r1866, r1870, r1872, r1874, r1878, r1880, n4364, n4365, n4366, n4367, n4368, n4369, n4370, n4371, n4372, n4373, n4374, n4375, n4376, n4377, n4378, n4379, n4380, n4381, n4382, n4383, n4384, n4385, n4386, n4387, n4388, n4389, n4390, n4391, n4392⟩ := id M.sh
  obtain ⟨ψ, hψ⟩ := kx_fu
  rw [mE_93 hψ]
  unfold mb_93_0
  have a := M.ag.B 8745 (by decide)
  simp only [ob_s, hR_I, hR_L, hR_B, hN_I, hN_L, hN_B, r1808, r1810, r1812, r1814, r1816, r1818, r1820, r1824, r1826, r1828, r1830, r1836, r1838, r1842, r1844, r1846, r1848, r1850, r1854, r1856, r1858, r1862, r1864, r1866, r1870, r1872, r1874, r1878, r1880, n4364, n4365, n4366, n4367, n4368, n4369, n4370, n4371, n4372, n4373, n4374, n4375, n4376, n4377, n4378, n4379, n4380, n4381, n4382, n4383, n4384, n4385, n4386, n4387, n4388, n4389, n4390, n4391, n4392, me_93_24, mb_93_24, me_93_25, mb_93_25, kx_b_0]
  unfold isCh
  by_cases h1 : x < 0
  · rw [if_pos h1]
    have : ¬ (0 : Int32) ≤ x := by rw [nle_lt]; exact h1
    simp [this, kx_b]
  · rw [if_neg h1]
    have h0 : (0 : Int32) ≤ x := by rw [← nlt_le]; exact h1
    by_cases h2 : (512 : Int32) ≤ x
    · rw [if_pos h2]
      have : ¬ x < 512 := by rw [nlt_le]; exact h2
      simp [this, kx_b]
    · rw [if_neg h2]
      obtain ⟨h3, -⟩ := i32_ltl (k := 512) (by omega) h1 h2
      have h4 : x < 512 := by rw [← nle_lt]; exact h2
      rw [if_neg (by simp [h1]; omega)]
      show (if hp_B w 8745 _ = false then _ else _) = _
      rw [a]
      by_cases hb : hp_B S.m 8745 x.toNatClampNeg = true <;> simp [h0, h4, kx_b, hb]
theorem M_isTa (M : MR w S) : kx_ev wx_M (d + 1) 144 [kx_r 9 (some 4363), kx_i x] w = some (.inl (some (.inl (kx_b (isTa S x)))), w) := by
  obtain ⟨r1808, r1810, r1812, r1814, r1816, r1818, r1820, r1824, r1826, r1828, r1830, r1836, r1838, r1842, r1844, r1846, r1848, r1850, r1854, r1856, r1858, r1862, r1864, r1866, r1870, r1872, r1874, r1878, r1880, n4364, n4365, n4366, n4367, n4368, n4369, n4370, n4371, n4372, n4373, n4374, n4375, n4376, n4377, n4378, n4379, n4380, n4381, n4382, n4383, n4384, n4385, n4386, n4387, n4388, n4389, n4390, n4391, n4392⟩ := id M.sh
  obtain ⟨ψ, hψ⟩ := kx_fu
  rw [mE_144 hψ]
  unfold mb_144_0
  have a := M.ag.B 8729 (by decide)
  simp only [ob_s, hR_I, hR_L, hR_B, hN_I, hN_L, hN_B, r1808, r1810, r1812, r1814, r1816, r1818, r1820, r1824, r1826, r1828, r1830, r1836, r1838, r1842, r1844, r1846, r1848, r1850, r1854, r1856, r1858, r1862, r1864, r1866, r1870, r1872, r1874, r1878, r1880, n4364, n4365, n4366, n4367, n4368, n4369, n4370, n4371, n4372, n4373, n4374, n4375, n4376, n4377, n4378, n4379, n4380, n4381, n4382, n4383, n4384, n4385, n4386, n4387, n4388, n4389, n4390, n4391, n4392, me_144_24, mb_144_24, me_144_25, mb_144_25, kx_b_0]
  unfold isTa
  by_cases h1 : x < 0
  · rw [if_pos h1]
    have : ¬ (0 : Int32) ≤ x := by rw [nle_lt]; exact h1
    simp [this, kx_b]
  · rw [if_neg h1]
    have h0 : (0 : Int32) ≤ x := by rw [← nlt_le]; exact h1
    by_cases h2 : (256 : Int32) ≤ x
    · rw [if_pos h2]
      have : ¬ x < 256 := by rw [nlt_le]; exact h2
      simp [this, kx_b]
    · rw [if_neg h2]
      obtain ⟨h3, -⟩ := i32_ltl (k := 256) (by omega) h1 h2
      have h4 : x < 256 := by rw [← nle_lt]; exact h2
      rw [if_neg (by simp [h1]; omega)]
      show (if hp_B w 8729 _ = false then _ else _) = _
      rw [a]
      by_cases hb : hp_B S.m 8729 x.toNatClampNeg = true <;> simp [h0, h4, kx_b, hb]
theorem M_isGa (M : MR w S) : kx_ev wx_M (d + 1) 125 [kx_r 9 (some 4363), kx_i x] w = some (.inl (some (.inl (kx_b (isGa S x)))), w) := by
  obtain ⟨ψ, hψ⟩ := kx_fu
  rw [mE_125 hψ]
  unfold mb_125_0
  have a := M.ga
  simp only [ob_s, a]
  unfold isGa
  by_cases h1 : x < 0
  · rw [if_pos h1]
    have : ¬ (0 : Int32) ≤ x := by rw [nle_lt]; exact h1
    simp [this, kx_b, me_125_16, mb_125_16, me_125_17, mb_125_17]
  · rw [if_neg h1]
    have h0 : (0 : Int32) ≤ x := by rw [← nlt_le]; exact h1
    by_cases h2 : i32 S.gates ≤ x
    · rw [if_pos h2]
      have : ¬ x < i32 S.gates := by rw [nlt_le]; exact h2
      simp [this, kx_b, me_125_16, mb_125_16, me_125_17, mb_125_17]
    · rw [if_neg h2]
      have h4 : x < i32 S.gates := by rw [← nle_lt]; exact h2
      simp [h4, h0, kx_b, me_125_16, mb_125_16, me_125_17, mb_125_17]
end M2
