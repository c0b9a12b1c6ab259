/-! the model's small methods and its looking loops -/
def fidx (o : Option Nat) : Int32 := match o with
  | some i => i32 i
  | none => -1
theorem fi_none {α : Type} {l : List α} {p : α → Bool} (h : ∀ (i : Nat) (x : α), l[i]? = some x → p x = false) : l.findIdx? p = none := by
  rw [List.findIdx?_eq_none_iff]
  intro x hx
  obtain ⟨i, hi⟩ := List.getElem?_of_mem hx
  exact h i x hi
theorem fi_some {α : Type} {l : List α} {p : α → Bool} {j : Nat} {y : α} (h : ∀ (i : Nat) (x : α), i < j → l[i]? = some x → p x = false) (hj : l[j]? = some y) (hy : p y = true) : l.findIdx? p = some j := by
  obtain ⟨h1, h2⟩ := List.getElem?_eq_some_iff.mp hj
  rw [List.findIdx?_eq_some_iff_getElem]
  refine ⟨h1, by rw [h2]; exact hy, fun i hi => ?_⟩
  have := h i l[i] hi (List.getElem?_eq_getElem (by omega))
  simp [this]
section M1
variable {w : kx_H} {d : Nat} {mo : List kMo} {mv : List (Nat × Int64)} {sn : List kMs} {rd : List Nat}
theorem M_first_l {C : kx_C} {c : Nat} {g : Bool} (H : SH w) (O : Lmo w mo) (hm : mo.length ≤ 4352) (hc : c < 512) : ∀ n j f, j + n = mo.length → 2 * n + 1 ≤ f → (∀ (i : Nat) (x : kMo), i < j → mo[i]? = some x → (x.2.1 == c && x.2.2.1 == g) = false) →
    kx_ex (wm_94 d C) f 2 [(0, kx_r 9 (some 4363)), (1, kx_i (i32 c)), (2, kx_i (kx_b g)), (3, kx_i (i32 j))] [] w = some (.inl (some (.inl (fidx (mo.findIdx? (fun o => o.2.1 == c && o.2.2.1 == g))))), w) := by
  obtain ⟨r1808, r1810, r1812, r1814, r1816, r1818, r1820, r1824, r1826, r1828, r1830, r1836, r1838, r1842, r1844, r1846, r1848, r1850, r1854, r1856, r1858, r1862, r1864, r1866, r1870, r1872, r1874, r1878, r1880, n4364, n4365, n4366, n4367, n4368, n4369, n4370, n4371, n4372, n4373, n4374, n4375, n4376, n4377, n4378, n4379, n4380, n4381, n4382, n4383, n4384, n4385, n4386, n4387, n4388, n4389, n4390, n4391, n4392⟩ := id H
  obtain ⟨o1, o2⟩ := id O
  intro n
  induction n with
  | zero =>
    intro j f hj hf hp
    obtain ⟨f, rfl⟩ : ∃ f', f = f' + 1 := ⟨f - 1, by omega⟩
    rw [me_94_2]
    unfold mb_94_2
    rw [fi_none (fun i x hi => hp i x (by have := (List.getElem?_eq_some_iff.mp hi).1; omega) hi)]
    simp only [ob_s, hR_I, hR_L, hR_B, hN_I, hN_L, hN_B, r1808, r1810, r1812, r1814, r1816, r1818, r1820, r1824, r1826, r1828, r1830, r1836, r1838, r1842, r1844, r1846, r1848, r1850, r1854, r1856, r1858, r1862, r1864, r1866, r1870, r1872, r1874, r1878, r1880, n4364, n4365, n4366, n4367, n4368, n4369, n4370, n4371, n4372, n4373, n4374, n4375, n4376, n4377, n4378, n4379, n4380, n4381, n4382, n4383, n4384, n4385, n4386, n4387, n4388, n4389, n4390, n4391, n4392, o1]
    rw [if_pos (by rw [i32_le (by omega) (by omega)]; omega)]
    rfl
  | succ n ih =>
    intro j f hj hf hp
    obtain ⟨f, rfl⟩ : ∃ f', f = f' + 1 + 1 := ⟨f - 2, by omega⟩
    rw [me_94_2]
    unfold mb_94_2
    have hjl : j < mo.length := by omega
    obtain ⟨y, hy⟩ : ∃ y, mo[j]? = some y := ⟨mo[j], List.getElem?_eq_getElem hjl⟩
    obtain ⟨y1, y2, y3, y4, y5, y6, y7⟩ := o2 j y hy
    have hix := i32_jx (n := j) (k := 4352) (by omega) (by omega)
    have hnat := i32_nat (n := j) (by omega)
    simp only [ob_s, hR_I, hR_L, hR_B, hN_I, hN_L, hN_B, r1808, r1810, r1812, r1814, r1816, r1818, r1820, r1824, r1826, r1828, r1830, r1836, r1838, r1842, r1844, r1846, r1848, r1850, r1854, r1856, r1858, r1862, r1864, r1866, r1870, r1872, r1874, r1878, r1880, n4364, n4365, n4366, n4367, n4368, n4369, n4370, n4371, n4372, n4373, n4374, n4375, n4376, n4377, n4378, n4379, n4380, n4381, n4382, n4383, n4384, n4385, n4386, n4387, n4388, n4389, n4390, n4391, n4392, o1, hnat, hix, if_false, y2, y3, i32_eq (a := y.2.1) (b := c) (by omega) (by omega), kx_b_inj]
    rw [if_neg (by rw [i32_le (by omega) (by omega)]; omega)]
    have next : (y.2.1 == c && y.2.2.1 == g) = false → kx_ex (wm_94 d C) (f + 1) 32 [(0, kx_r 9 (some 4363)), (1, kx_i (i32 c)), (2, kx_i (kx_b g)), (3, kx_i (i32 j))] [] w = some (.inl (some (.inl (fidx (mo.findIdx? (fun o => o.2.1 == c && o.2.2.1 == g))))), w) := by
      intro hyn
      rw [me_94_32]
      unfold mb_94_32
      rw [i32_add1]
      refine ih (j + 1) f (by omega) (by omega) fun i x hi hx => ?_
      by_cases hij : i = j
      · subst hij
        rw [hy] at hx
        cases hx
        exact hyn
      · exact hp i x (by omega) hx
    by_cases h1 : y.2.1 = c
    · rw [if_pos h1]
      by_cases h2 : y.2.2.1 = g
      · rw [if_pos h2, fi_some hp hy (by simp [h1, h2])]
        rfl
      · rw [if_neg h2]
        exact next (by simp [h2])
    · rw [if_neg h1]
      exact next (by simp [h1])
theorem M_first {c : Nat} {g : Bool} (H : SH w) (O : Lmo w mo) (hm : mo.length ≤ 4352) (hc : c < 512) : kx_ev wx_M (d + 1) 94 [kx_r 9 (some 4363), kx_i (i32 c), kx_i (kx_b g)] w = some (.inl (some (.inl (fidx (mo.findIdx? (fun o => o.2.1 == c && o.2.2.1 == g))))), w) := by
  obtain ⟨ψ, hψ⟩ := kx_fl 10000 (by omega)
  rw [mE_94 hψ]
  unfold mb_94_0
  exact M_first_l H O hm hc mo.length 0 _ (by omega) (by omega) (fun i x hi => by omega)
def cnt (c : Nat) (mv : List (Nat × Int64)) : Nat := mv.countP (fun x => x.1 == c)
theorem cp_take {α : Type} {l : List α} {p : α → Bool} {j : Nat} {y : α} (hj : l[j]? = some y) : (l.take (j + 1)).countP p = (l.take j).countP p + (if p y then 1 else 0) := by
  obtain ⟨h1, h2⟩ := List.getElem?_eq_some_iff.mp hj
  rw [List.take_add_one, hj]
  simp [List.countP_append, List.countP_cons]
theorem M_held_l {C : kx_C} {c : Nat} (H : SH w) (O : Lmv w mv) (hm : mv.length ≤ 8192) (hc : c < 512) : ∀ n j f, j + n = mv.length → 2 * n + 1 ≤ f →
    kx_ex (wm_95 d C) f 4 [(0, kx_r 9 (some 4363)), (1, kx_i (i32 c)), (2, kx_i (i32 ((mv.take j).countP (fun x => x.1 == c)))), (3, kx_i (i32 j))] [] w = some (.inl (some (.inl (i32 (cnt c mv)))), w) := by
  obtain ⟨r1808, r1810, r1812, r1814, r1816, r1818, r1820, r1824, r1826, r1828, r1830, r1836, r1838, r1842, r1844, r1846, r1848, r1850, r1854, r1856, r1858, r1862, r1864, r1866, r1870, r1872, r1874, r1878, r1880, n4364, n4365, n4366, n4367, n4368, n4369, n4370, n4371, n4372, n4373, n4374, n4375, n4376, n4377, n4378, n4379, n4380, n4381, n4382, n4383, n4384, n4385, n4386, n4387, n4388, n4389, n4390, n4391, n4392⟩ := id H
  obtain ⟨o1, o2⟩ := id O
  intro n
  induction n with
  | zero =>
    intro j f hj hf
    obtain ⟨f, rfl⟩ : ∃ f', f = f' + 1 := ⟨f - 1, by omega⟩
    rw [me_95_4]
    unfold mb_95_4
    simp only [ob_s, hR_I, hR_L, hR_B, hN_I, hN_L, hN_B, r1808, r1810, r1812, r1814, r1816, r1818, r1820, r1824, r1826, r1828, r1830, r1836, r1838, r1842, r1844, r1846, r1848, r1850, r1854, r1856, r1858, r1862, r1864, r1866, r1870, r1872, r1874, r1878, r1880, n4364, n4365, n4366, n4367, n4368, n4369, n4370, n4371, n4372, n4373, n4374, n4375, n4376, n4377, n4378, n4379, n4380, n4381, n4382, n4383, n4384, n4385, n4386, n4387, n4388, n4389, n4390, n4391, n4392, o1]
    rw [if_pos (by rw [i32_le (by omega) (by omega)]; omega), List.take_of_length_le (by omega)]
    rfl
  | succ n ih =>
    intro j f hj hf
    obtain ⟨f, rfl⟩ : ∃ f', f = f' + 1 + 1 := ⟨f - 2, by omega⟩
    rw [me_95_4]
    unfold mb_95_4
    have hjl : j < mv.length := by omega
    obtain ⟨y, hy⟩ : ∃ y, mv[j]? = some y := ⟨mv[j], List.getElem?_eq_getElem hjl⟩
    obtain ⟨y1, y2, y3⟩ := o2 j y hy
    have hix := i32_jx (n := j) (k := 8192) (by omega) (by omega)
    have hnat := i32_nat (n := j) (by omega)
    have ihj := ih (j + 1) f (by omega) (by omega)
    rw [cp_take hy] at ihj
    simp only [ob_s, hR_I, hR_L, hR_B, hN_I, hN_L, hN_B, r1808, r1810, r1812, r1814, r1816, r1818, r1820, r1824, r1826, r1828, r1830, r1836, r1838, r1842, r1844, r1846, r1848, r1850, r1854, r1856, r1858, r1862, r1864, r1866, r1870, r1872, r1874, r1878, r1880, n4364, n4365, n4366, n4367, n4368, n4369, n4370, n4371, n4372, n4373, n4374, n4375, n4376, n4377, n4378, n4379, n4380, n4381, n4382, n4383, n4384, n4385, n4386, n4387, n4388, n4389, n4390, n4391, n4392, o1, hnat, hix, if_false, y1, i32_eq (a := y.1) (b := c) (by omega) (by omega)]
    rw [if_neg (by rw [i32_le (by omega) (by omega)]; omega)]
    by_cases h1 : y.1 = c
    · rw [if_pos h1, me_95_28]
      unfold mb_95_28
      rw [i32_add1, i32_add1]
      simp only [h1, beq_self_eq_true, if_true] at ihj
      exact ihj
    · rw [if_neg h1, me_95_28]
      unfold mb_95_28
      rw [i32_add1]
      have h2 : (y.1 == c) = false := by simp [h1]
      simp only [h2] at ihj
      have e : ∀ x : Int32, x + 0 = x := fun x => Int32.add_zero x
      rw [e]
      exact ihj
theorem M_held {c : Nat} (H : SH w) (O : Lmv w mv) (hm : mv.length ≤ 8192) (hc : c < 512) : kx_ev wx_M (d + 1) 95 [kx_r 9 (some 4363), kx_i (i32 c)] w = some (.inl (some (.inl (i32 (cnt c mv)))), w) := by
  obtain ⟨ψ, hψ⟩ := kx_fl 20000 (by omega)
  rw [mE_95 hψ]
  unfold mb_95_0
  exact M_held_l H O hm hc mv.length 0 _ (by omega) (by omega)
end M1
