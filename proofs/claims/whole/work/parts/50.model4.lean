/-! the model: who stands, who meets, what is taken -/
theorem fi_find {α : Type} {l : List α} {p : α → Bool} : (l.findIdx? p = none → l.find? p = none) ∧ ∀ k, l.findIdx? p = some k → ∃ y, l[k]? = some y ∧ l.find? p = some y ∧ p y = true := by
  refine ⟨fun h => ?_, fun k h => ?_⟩
  · rw [List.findIdx?_eq_none_iff] at h
    rw [List.find?_eq_none]
    intro x hx
    rw [h x hx]
    simp
  · obtain ⟨y, a1, a2, a3, a4, a5⟩ := fi_get h
    exact ⟨y, a1, a4, a2⟩
section M4
variable {w : kx_H} {d t c g : Nat} {S : kS} {n v : Int64} {f b : Bool} {x j : Int32} {L : List kMe}
theorem M_stg_l {C : kx_C} (M : MR w S) (hm : S.sn.length ≤ 256) (hg : g < 256) : ∀ n j f, j + n = S.sn.length → 3 * n + 3 ≤ f → (∀ (i : Nat) (y : kMs), i < j → S.sn[i]? = some y → gAt g x y = false) →
    kx_ex (wm_130 d C) f 2 [(0, kx_r 9 (some 4363)), (1, kx_i (i32 g)), (2, kx_i x), (3, kx_i (i32 j))] [] w = some (.inl (some (.inl (fidx (S.sn.findIdx? (gAt g x))))), w) := by
  obtain ⟨r1808, r1810, r1812, r1814, r1816, r1818, r1820, r1824, r1826, r1828, r1830, r1836, r1838, r1842, r1844, r1846, r1848, r1850, r1854, r1856, r1858, r1862, r1864, r1866, r1870, r1872, r1874, r1878, r1880, n4364, n4365, n4366, n4367, n4368, n4369, n4370, n4371, n4372, n4373, n4374, n4375, n4376, n4377, n4378, n4379, n4380, n4381, n4382, n4383, n4384, n4385, n4386, n4387, n4388, n4389, n4390, n4391, n4392⟩ := id M.sh
  obtain ⟨o1, o2⟩ := id M.sn
  intro n
  induction n with
  | zero =>
    intro j f hj hf hp
    obtain ⟨f, rfl⟩ : ∃ f', f = f' + 1 := ⟨f - 1, by omega⟩
    rw [me_130_2]
    unfold mb_130_2
    rw [fi_none (fun i y hi => hp i y (by have := (List.getElem?_eq_some_iff.mp hi).1; omega) hi)]
    simp only [ob_s, hR_I, hR_L, hR_B, hN_I, hN_L, hN_B, r1808, r1810, r1812, r1814, r1816, r1818, r1820, r1824, r1826, r1828, r1830, r1836, r1838, r1842, r1844, r1846, r1848, r1850, r1854, r1856, r1858, r1862, r1864, r1866, r1870, r1872, r1874, r1878, r1880, n4364, n4365, n4366, n4367, n4368, n4369, n4370, n4371, n4372, n4373, n4374, n4375, n4376, n4377, n4378, n4379, n4380, n4381, n4382, n4383, n4384, n4385, n4386, n4387, n4388, n4389, n4390, n4391, n4392, o1]
    rw [if_pos (by rw [i32_le (by omega) (by omega)]; omega)]
    rfl
  | succ n ih =>
    intro j f hj hf hp
    obtain ⟨f, rfl⟩ : ∃ f', f = f' + 1 + 1 + 1 := ⟨f - 3, by omega⟩
    rw [me_130_2]
    unfold mb_130_2
    obtain ⟨y, hy⟩ : ∃ y, S.sn[j]? = some y := ⟨S.sn[j], List.getElem?_eq_getElem (by omega)⟩
    obtain ⟨y1, y2, y3, y4, y5⟩ := o2 j y hy
    simp only [ob_s, hR_I, hR_L, hR_B, hN_I, hN_L, hN_B, r1808, r1810, r1812, r1814, r1816, r1818, r1820, r1824, r1826, r1828, r1830, r1836, r1838, r1842, r1844, r1846, r1848, r1850, r1854, r1856, r1858, r1862, r1864, r1866, r1870, r1872, r1874, r1878, r1880, n4364, n4365, n4366, n4367, n4368, n4369, n4370, n4371, n4372, n4373, n4374, n4375, n4376, n4377, n4378, n4379, n4380, n4381, n4382, n4383, n4384, n4385, n4386, n4387, n4388, n4389, n4390, n4391, n4392, o1, i32_nat (n := j) (by omega), i32_jx (n := j) (k := 256) (by omega) (by omega), if_false, y2, y3, i32_eq (a := y.2.1) (b := g) (by omega) (by omega)]
    rw [if_neg (by rw [i32_le (by omega) (by omega)]; omega)]
    have next : ∀ f, gAt g x y = false → 3 * n + 3 ≤ f → kx_ex (wm_130 d C) (f + 1) 46 [(0, kx_r 9 (some 4363)), (1, kx_i (i32 g)), (2, kx_i x), (3, kx_i (i32 j))] [] w = some (.inl (some (.inl (fidx (S.sn.findIdx? (gAt g x))))), w) := by
      intro f hyn hf
      rw [me_130_46]
      unfold mb_130_46
      rw [i32_add1]
      refine ih (j + 1) f (by omega) hf fun i z hi hz => ?_
      by_cases hij : i = j
      · subst hij
        rw [hy] at hz
        cases hz
        exact hyn
      · exact hp i z (by omega) hz
    by_cases h1 : y.2.1 = g
    · rw [if_pos h1]
      by_cases h2 : x = 2
      · rw [if_pos h2, fi_some hp hy (by simp [gAt, h1, h2]), me_130_44]
        unfold mb_130_44
        rfl
      · rw [if_neg h2]
        by_cases h3 : x = 1
        · rw [if_pos h3, me_130_41]
          unfold mb_130_41
          cases hb : y.2.2 with
          | true =>
            rw [if_pos (by simp [kx_b]), fi_some hp hy (by simp [gAt, h1, h3, hb]), me_130_44]
            unfold mb_130_44
            rfl
          | false =>
            rw [if_neg (by simp [kx_b])]
            exact next _ (by simp [gAt, h3, hb]) (by omega)
        · rw [if_neg h3, me_130_41]
          unfold mb_130_41
          cases hb : y.2.2 with
          | true =>
            rw [if_neg (by simp [kx_b])]
            exact next _ (by simp [gAt, h2, h3, hb]) (by omega)
          | false =>
            rw [if_pos (by simp [kx_b]), fi_some hp hy (by simp [gAt, h1, h3, hb]), me_130_44]
            unfold mb_130_44
            rfl
    · rw [if_neg h1]
      exact next _ (by simp [gAt, h1]) (by omega)
theorem M_stg (M : MR w S) (hm : S.sn.length ≤ 256) (hg : g < 256) : kx_ev wx_M (d + 1) 130 [kx_r 9 (some 4363), kx_i (i32 g), kx_i x] w = some (.inl (some (.inl (fidx (S.sn.findIdx? (gAt g x))))), w) := by
  obtain ⟨ψ, hψ⟩ := kx_fl 10000 (by omega)
  rw [mE_130 hψ]
  unfold mb_130_0
  exact M_stg_l M hm hg S.sn.length 0 _ (by omega) (by omega) (fun i y hi => by omega)
theorem M_wAt_l {C : kx_C} (M : MR w S) (hm : S.sn.length ≤ 256) (hg : g < 256) : ∀ n j f, j + n = S.sn.length → 2 * n + 1 ≤ f →
    kx_ex (wm_141 d C) f 4 [(0, kx_r 9 (some 4363)), (1, kx_i (i32 g)), (2, kx_i (i32 ((S.sn.take j).countP (fun e => e.2.1 == g)))), (3, kx_i (i32 j))] [] w = some (.inl (some (.inl (i32 (sWait S g)))), w) := by
  obtain ⟨r1808, r1810, r1812, r1814, r1816, r1818, r1820, r1824, r1826, r1828, r1830, r1836, r1838, r1842, r1844, r1846, r1848, r1850, r1854, r1856, r1858, r1862, r1864, r1866, r1870, r1872, r1874, r1878, r1880, n4364, n4365, n4366, n4367, n4368, n4369, n4370, n4371, n4372, n4373, n4374, n4375, n4376, n4377, n4378, n4379, n4380, n4381, n4382, n4383, n4384, n4385, n4386, n4387, n4388, n4389, n4390, n4391, n4392⟩ := id M.sh
  obtain ⟨o1, o2⟩ := id M.sn
  intro n
  induction n with
  | zero =>
    intro j f hj hf
    obtain ⟨f, rfl⟩ : ∃ f', f = f' + 1 := ⟨f - 1, by omega⟩
    rw [me_141_4]
    unfold mb_141_4
    simp only [ob_s, hR_I, hR_L, hR_B, hN_I, hN_L, hN_B, r1808, r1810, r1812, r1814, r1816, r1818, r1820, r1824, r1826, r1828, r1830, r1836, r1838, r1842, r1844, r1846, r1848, r1850, r1854, r1856, r1858, r1862, r1864, r1866, r1870, r1872, r1874, r1878, r1880, n4364, n4365, n4366, n4367, n4368, n4369, n4370, n4371, n4372, n4373, n4374, n4375, n4376, n4377, n4378, n4379, n4380, n4381, n4382, n4383, n4384, n4385, n4386, n4387, n4388, n4389, n4390, n4391, n4392, o1]
    rw [if_pos (by rw [i32_le (by omega) (by omega)]; omega), List.take_of_length_le (by omega)]
    rfl
  | succ n ih =>
    intro j f hj hf
    obtain ⟨f, rfl⟩ : ∃ f', f = f' + 1 + 1 := ⟨f - 2, by omega⟩
    rw [me_141_4]
    unfold mb_141_4
    obtain ⟨y, hy⟩ : ∃ y, S.sn[j]? = some y := ⟨S.sn[j], List.getElem?_eq_getElem (by omega)⟩
    obtain ⟨y1, y2, y3, y4, y5⟩ := o2 j y hy
    have ihj := ih (j + 1) f (by omega) (by omega)
    rw [cp_take hy] at ihj
    simp only [ob_s, hR_I, hR_L, hR_B, hN_I, hN_L, hN_B, r1808, r1810, r1812, r1814, r1816, r1818, r1820, r1824, r1826, r1828, r1830, r1836, r1838, r1842, r1844, r1846, r1848, r1850, r1854, r1856, r1858, r1862, r1864, r1866, r1870, r1872, r1874, r1878, r1880, n4364, n4365, n4366, n4367, n4368, n4369, n4370, n4371, n4372, n4373, n4374, n4375, n4376, n4377, n4378, n4379, n4380, n4381, n4382, n4383, n4384, n4385, n4386, n4387, n4388, n4389, n4390, n4391, n4392, o1, i32_nat (n := j) (by omega), i32_jx (n := j) (k := 256) (by omega) (by omega), if_false, y2, i32_eq (a := y.2.1) (b := g) (by omega) (by omega)]
    rw [if_neg (by rw [i32_le (by omega) (by omega)]; omega)]
    by_cases h1 : y.2.1 = g
    · rw [if_pos h1, me_141_28]
      unfold mb_141_28
      rw [i32_add1, i32_add1]
      simp only [h1, beq_self_eq_true, if_true] at ihj
      exact ihj
    · rw [if_neg h1, me_141_28]
      unfold mb_141_28
      rw [i32_add1]
      have h2 : (y.2.1 == g) = false := by simp [h1]
      simp only [h2] at ihj
      have e : ∀ x : Int32, x + 0 = x := fun x => Int32.add_zero x
      rw [e]
      exact ihj
theorem M_wAt (M : MR w S) (hm : S.sn.length ≤ 256) (hg : g < 256) : kx_ev wx_M (d + 1) 141 [kx_r 9 (some 4363), kx_i (i32 g)] w = some (.inl (some (.inl (i32 (sWait S g)))), w) := by
  obtain ⟨ψ, hψ⟩ := kx_fl 10000 (by omega)
  rw [mE_141 hψ]
  unfold mb_141_0
  exact M_wAt_l M hm hg S.sn.length 0 _ (by omega) (by omega)
/-- who stands at k meets -/
theorem M_met {k : Nat} {e : kMo} (M : MR w S) (B : SB (kS.s_me S (L))) (hm : S.mo.length ≤ 4352) (he : S.mo[k]? = some e) : ∃ w', kx_ev wx_M (d + 2) 102 [kx_r 9 (some 4363), kx_i (i32 k), kx_l n, kx_i (kx_b f), kx_i (kx_b b)] w = some (.inl none, w') ∧ MR w' (sMet S e n f b) ∧ FM w w' := by
  obtain ⟨r1808, r1810, r1812, r1814, r1816, r1818, r1820, r1824, r1826, r1828, r1830, r1836, r1838, r1842, r1844, r1846, r1848, r1850, r1854, r1856, r1858, r1862, r1864, r1866, r1870, r1872, r1874, r1878, r1880, n4364, n4365, n4366, n4367, n4368, n4369, n4370, n4371, n4372, n4373, n4374, n4375, n4376, n4377, n4378, n4379, n4380, n4381, n4382, n4383, n4384, n4385, n4386, n4387, n4388, n4389, n4390, n4391, n4392⟩ := id M.sh
  have hk := (List.getElem?_eq_some_iff.mp he).1
  have hem := List.mem_of_getElem? he
  obtain ⟨y1, y2, y3, y4, y5, y6, y7⟩ := M.mo.2 k e he
  obtain ⟨w1, a1, M1, F1⟩ := M_has (d := d) (n := n) (f := f) (x := e.2.2.2.2) (b := b) M y6
  obtain ⟨w2, a2, M2, F2⟩ := M_wdr (d := d) M1 y6 hm
  have B2 := (SB.wdr (t := e.1) (SB.has (t := e.1) (n := n) (f := f) (x := e.2.2.2.2) (b := b) B))
  have N2 := B.met_n (n := n) (f := f) (x := e.2.2.2.2) (b := b) hem
  obtain ⟨w3, a3, M3, F3⟩ := M_wake (d := d) M2 y6 (B2.rl y6 N2.1)
  refine ⟨w3, ?_, M3, (F1.tr F2).tr F3⟩
  obtain ⟨ψ, hψ⟩ := kx_fu
  rw [mE_102 hψ]
  unfold mb_102_0
  simp only [ob_s, hR_I, hR_L, hR_B, hN_I, hN_L, hN_B, r1808, r1810, r1812, r1814, r1816, r1818, r1820, r1824, r1826, r1828, r1830, r1836, r1838, r1842, r1844, r1846, r1848, r1850, r1854, r1856, r1858, r1862, r1864, r1866, r1870, r1872, r1874, r1878, r1880, n4364, n4365, n4366, n4367, n4368, n4369, n4370, n4371, n4372, n4373, n4374, n4375, n4376, n4377, n4378, n4379, n4380, n4381, n4382, n4383, n4384, n4385, n4386, n4387, n4388, n4389, n4390, n4391, n4392, i32_nat (n := k) (by omega), i32_jx (n := k) (k := 4352) (by omega) (by omega), if_false, y1, y5, a1, a2, a3, bv_n]
theorem M_fst0 (M : MR w S) (hm : S.mo.length ≤ 4352) (hc : c < 512) : kx_ev wx_M (d + 1) 94 [kx_r 9 (some 4363), kx_i (i32 c), kx_i 0] w = some (.inl (some (.inl (fidx (S.mo.findIdx? (oAt c false))))), w) := M_first (g := false) M.sh M.mo hm hc
theorem M_fst1 (M : MR w S) (hm : S.mo.length ≤ 4352) (hc : c < 512) : kx_ev wx_M (d + 1) 94 [kx_r 9 (some 4363), kx_i (i32 c), kx_i 1] w = some (.inl (some (.inl (fidx (S.mo.findIdx? (oAt c true))))), w) := M_first (g := true) M.sh M.mo hm hc
theorem M_cnt (M : MR w S) (hm : S.mv.length ≤ 8192) (hc : c < 512) : kx_ev wx_M (d + 1) 95 [kx_r 9 (some 4363), kx_i (i32 c)] w = some (.inl (some (.inl (i32 (sCnt S c)))), w) := M_held M.sh M.mv hm hc
theorem fidx_n (o : Option Nat) (h : ∀ k, o = some k → k < 1000000000) : (fidx o < 0) = (o = none) := by
  cases o with
  | none => simp [fidx]
  | some k =>
    show (i32 k < 0) = _
    rw [i32_neg (h k rfl)]
    simp
theorem fidx_p (o : Option Nat) (h : ∀ k, o = some k → k < 1000000000) : (0 ≤ fidx o) = (o.isSome = true) := by
  cases o with
  | none => simp [fidx]
  | some k =>
    show (0 ≤ i32 k) = _
    rw [i32_ge (h k rfl)]
    simp
theorem fi_lt {α : Type} {l : List α} {p : α → Bool} {k N : Nat} (h : l.length ≤ N) (e : l.findIdx? p = some k) : k < N := by
  obtain ⟨y, a1, -⟩ := fi_get e
  have := (List.getElem?_eq_some_iff.mp a1).1
  omega
theorem fi_is {α : Type} {l : List α} {p : α → Bool} : (l.findIdx? p).isSome = (l.find? p).isSome := by
  cases h : l.findIdx? p with
  | none => rw [fi_find.1 h]; rfl
  | some k =>
    obtain ⟨y, -, h2, -⟩ := fi_find.2 k h
    rw [h2]
    rfl
theorem M_del (M : MR w S) (B : SB (kS.s_me S (L))) (hm : S.mo.length ≤ 4352) (hv : S.mv.length < 8192) (hc : c < 512) : ∃ w', kx_ev wx_M (d + 3) 101 [kx_r 9 (some 4363), kx_i (i32 c), kx_l v] w = some (.inl none, w') ∧ MR w' (sDel S c v) ∧ FM w w' := by
  have a0 := M_fst0 (d := d + 1) M hm hc
  unfold sDel sFst
  cases h : S.mo.findIdx? (oAt c false) with
  | none =>
    rw [fi_find.1 h]
    obtain ⟨w1, a1, M1, F1⟩ := M_store (d := d + 1) (v := v) M hc hv
    refine ⟨w1, ?_, M1, F1⟩
    obtain ⟨ψ, hψ⟩ := kx_fu
    rw [mE_101 hψ]
    unfold mb_101_0
    rw [h] at a0
    simp only [ob_s, a0, bi_n, fidx, a1, bv_n, me_101_31, mb_101_31]
    simp
  | some k =>
    obtain ⟨e, e1, e2, e3⟩ := fi_find.2 k h
    rw [e2]
    have hk := (List.getElem?_eq_some_iff.mp e1).1
    obtain ⟨w1, a1, M1, F1⟩ := M_met (d := d) (n := v) (f := true) (b := false) M B hm e1
    refine ⟨w1, ?_, M1, F1⟩
    obtain ⟨ψ, hψ⟩ := kx_fu
    rw [mE_101 hψ]
    unfold mb_101_0
    rw [h] at a0
    rw [kx_b_t, kx_b_f] at a1
    simp only [ob_s, a0, bi_n, fidx, i32_neg (n := k) (by omega), if_false, a1, bv_n, me_101_31, mb_101_31]
theorem M_take {x : Int32} (M : MR w S) (B : SB (kS.s_me S (L))) (hm : S.mo.length ≤ 4352) (hv : S.mv.length < 8192) (hc : c < 512) (ht : S.cur = some t) : ∃ w', kx_ev wx_M (d + 3) 114 [kx_r 9 (some 4363), kx_i (i32 c), kx_i x] w = some (.inl none, w') ∧ MR w' (sTake S t c x) ∧ FM w w' := by
  obtain ⟨r1808, r1810, r1812, r1814, r1816, r1818, r1820, r1824, r1826, r1828, r1830, r1836, r1838, r1842, r1844, r1846, r1848, r1850, r1854, r1856, r1858, r1862, r1864, r1866, r1870, r1872, r1874, r1878, r1880, n4364, n4365, n4366, n4367, n4368, n4369, n4370, n4371, n4372, n4373, n4374, n4375, n4376, n4377, n4378, n4379, n4380, n4381, n4382, n4383, n4384, n4385, n4386, n4387, n4388, n4389, n4390, n4391, n4392⟩ := id M.sh
  have a0 := M_fst1 (d := d + 1) M hm hc
  have b0 := M_cnt (d := d + 1) M (by omega) hc
  have cu : hp_I w 1802 4363 = i32 t := by rw [M.cu, ht]; rfl
  have htl := B.cu t ht
  have hcl : sCnt S c < 8193 := by
    have := List.countP_le_length (p := vAt c) (l := S.mv)
    unfold sCnt
    omega
  have e0 : (i32 (sCnt S c) ≤ 0) = (¬ 0 < sCnt S c) := by
    have := i32_le (a := sCnt S c) (b := 0) (by omega) (by omega)
    rw [show i32 0 = 0 from rfl] at this
    rw [this]
    simp
  unfold sTake sFst
  obtain ⟨ψ, hψ⟩ := kx_fu
  rw [mE_114 hψ]
  unfold mb_114_0
  cases h : S.mo.findIdx? (oAt c true) with
  | none =>
    rw [fi_find.1 h]
    rw [h] at a0
    simp only [ob_s, a0, bi_n, b0, fidx, cu]
    by_cases h1 : 0 < sCnt S c
    · obtain ⟨w1, a1, M1, F1⟩ := M_tkF (d := d + 1) M hc (by omega) h1
      obtain ⟨w2, a2, M2, F2⟩ := M_has (d := d + 1) (t := t) (n := sTkV S c) (f := true) (x := x) (b := false) M1 htl
      rw [kx_b_t, kx_b_f] at a2
      rw [if_pos h1]
      refine ⟨w2, ?_, M2, F1.tr F2⟩
      rw [if_neg (by rw [e0]; exact not_not_intro h1)]
      simp only [a1, bl_n, a2, bv_n, me_114_101, mb_114_101]
      simp
    · obtain ⟨w2, a2, M2, F2⟩ := M_has (d := d + 1) (t := t) (n := 0) (f := false) (x := x) (b := false) M htl
      rw [kx_b_f] at a2
      rw [if_neg h1]
      refine ⟨w2, ?_, M2, F2⟩
      rw [if_pos (by rw [e0]; exact h1)]
      simp only [a2, bv_n, me_114_101, mb_114_101]
      simp
  | some k =>
    obtain ⟨e, e1, e2, e3⟩ := fi_find.2 k h
    rw [e2]
    rw [h] at a0
    have hk := (List.getElem?_eq_some_iff.mp e1).1
    have hk' : (4352 ≤ k) = False := by simp; omega
    obtain ⟨y1, y2, y3, y4, y5, y6, y7⟩ := M.mo.2 k e e1
    simp only [ob_s, a0, bi_n, b0, fidx, cu, i32_neg (n := k) (by omega), if_false]
    by_cases h1 : 0 < sCnt S c
    · obtain ⟨w1, a1, M1, F1⟩ := M_tkF (d := d + 1) M hc (by omega) h1
      obtain ⟨w2, a2, M2, F2⟩ := M_has (d := d + 1) (t := t) (n := sTkV S c) (f := true) (x := x) (b := false) M1 htl
      have hl1 : (sHas (sTkF S c) t (sTkV S c) true x false).mv.length < 8192 := Nat.lt_of_le_of_lt (List.eraseP_sublist.length_le) hv
      obtain ⟨w3, a3, M3, F3⟩ := M_store (d := d + 1) (v := e.2.2.2.1) M2 hc hl1
      obtain ⟨w4, a4, M4, F4⟩ := M_met (d := d) (n := 0) (f := true) (b := false) (e := e) (L := L) M3 ((B.tkF).has.store) hm e1
      rw [kx_b_t, kx_b_f] at a2 a4
      rw [if_pos h1]
      refine ⟨w4, ?_, M4, ((F1.tr F2).tr F3).tr F4⟩
      rw [if_neg (by rw [e0]; exact not_not_intro h1)]
      obtain ⟨z1, z2, z3, z4, z5, z6, z7⟩ := M2.mo.2 k e e1
      simp only [a1, bl_n, a2, bv_n, F2.r, F1.r, F2.n, F1.n, ob_s, hR_I, hR_L, hR_B, hN_I, hN_L, hN_B, r1808, r1810, r1812, r1814, r1816, r1818, r1820, r1824, r1826, r1828, r1830, r1836, r1838, r1842, r1844, r1846, r1848, r1850, r1854, r1856, r1858, r1862, r1864, r1866, r1870, r1872, r1874, r1878, r1880, n4364, n4365, n4366, n4367, n4368, n4369, n4370, n4371, n4372, n4373, n4374, n4375, n4376, n4377, n4378, n4379, n4380, n4381, n4382, n4383, n4384, n4385, n4386, n4387, n4388, n4389, n4390, n4391, n4392, i32_nat (n := k) (by omega), hk', or_self, if_false, z4, a3, a4, me_114_101, mb_114_101]
    · obtain ⟨w2, a2, M2, F2⟩ := M_has (d := d + 1) (t := t) (n := e.2.2.2.1) (f := true) (x := x) (b := false) M htl
      obtain ⟨w4, a4, M4, F4⟩ := M_met (d := d) (n := 0) (f := true) (b := false) (e := e) (L := L) M2 (B.has) hm e1
      rw [kx_b_t, kx_b_f] at a2 a4
      rw [if_neg h1]
      refine ⟨w4, ?_, M4, F2.tr F4⟩
      rw [if_pos (by rw [e0]; exact h1)]
      simp only [ob_s, hR_I, hR_L, hR_B, hN_I, hN_L, hN_B, r1808, r1810, r1812, r1814, r1816, r1818, r1820, r1824, r1826, r1828, r1830, r1836, r1838, r1842, r1844, r1846, r1848, r1850, r1854, r1856, r1858, r1862, r1864, r1866, r1870, r1872, r1874, r1878, r1880, n4364, n4365, n4366, n4367, n4368, n4369, n4370, n4371, n4372, n4373, n4374, n4375, n4376, n4377, n4378, n4379, n4380, n4381, n4382, n4383, n4384, n4385, n4386, n4387, n4388, n4389, n4390, n4391, n4392, i32_nat (n := k) (by omega), hk', or_self, if_false, y4, a2, bv_n, a4, me_114_101, mb_114_101]
theorem i32_p0 {k : Nat} (h : k < 1000000000) : (i32 k ≤ 0) = (¬ 0 < k) := by
  have := i32_le (a := k) (b := 0) (by omega) (by omega)
  rw [show i32 0 = 0 from rfl] at this
  rw [this]
  simp
theorem sCnt_le (S : kS) (c : Nat) : sCnt S c ≤ S.mv.length := List.countP_le_length
theorem maySend_i (hc : c < 512) : (maySend S (i32 c) = true) = (sClosed S c = true ∨ (sFst S c false).isSome = true ∨ i32 (sCnt S c) < sRoom S c) := by
  unfold maySend
  rw [decide_eq_true_eq, i32_nat (by omega), i32_ge (by omega), true_and]
theorem mayRecv_i (hc : c < 512) : (mayRecv S (i32 c) = true) = (sClosed S c = true ∨ (sFst S c true).isSome = true ∨ 0 < sCnt S c) := by
  unfold mayRecv
  rw [decide_eq_true_eq, i32_nat (by omega), i32_ge (by omega), true_and]
theorem M_mayS (M : MR w S) (hm : S.mo.length ≤ 4352) (hv : S.mv.length ≤ 8192) (hx : x < 0 ∨ ∃ c, c < 512 ∧ x = i32 c) : kx_ev wx_M (d + 2) 100 [kx_r 9 (some 4363), kx_i x] w = some (.inl (some (.inl (kx_b (maySend S x)))), w) := by
  obtain ⟨r1808, r1810, r1812, r1814, r1816, r1818, r1820, r1824, r1826, r1828, r1830, r1836, r1838, r1842, r1844, r1846, r1848, r1850, r1854, r1856, r1858, r1862, r1864, r1866, r1870, r1872, r1874, r1878, r1880, n4364, n4365, n4366, n4367, n4368, n4369, n4370, n4371, n4372, n4373, n4374, n4375, n4376, n4377, n4378, n4379, n4380, n4381, n4382, n4383, n4384, n4385, n4386, n4387, n4388, n4389, n4390, n4391, n4392⟩ := id M.sh
  obtain ⟨ψ, hψ⟩ := kx_fu
  rw [mE_100 hψ]
  unfold mb_100_0
  simp only [me_100_36, mb_100_36, me_100_40, mb_100_40, me_100_41, mb_100_41]
  rcases hx with hx | ⟨c, hc, rfl⟩
  · have : ¬ (0 : Int32) ≤ x := by rw [nle_lt]; exact hx
    have h9 : maySend S x = false := by unfold maySend; exact decide_eq_false (fun h => this h.1)
    simp [hx, h9, kx_b]
  · have a0 := M_fst0 (d := d) M hm hc
    have b0 := M_cnt (d := d) M hv hc
    have l := sCnt_le S c
    have a := M.ag.B 8747 (by decide) c
    have a' := M.ag.I 8749 (by decide) c
    have hc' : (512 ≤ c) = False := by simp; omega
    simp only [i32_neg (n := c) (by omega), if_false, ob_s, hR_I, hR_L, hR_B, hN_I, hN_L, hN_B, r1808, r1810, r1812, r1814, r1816, r1818, r1820, r1824, r1826, r1828, r1830, r1836, r1838, r1842, r1844, r1846, r1848, r1850, r1854, r1856, r1858, r1862, r1864, r1866, r1870, r1872, r1874, r1878, r1880, n4364, n4365, n4366, n4367, n4368, n4369, n4370, n4371, n4372, n4373, n4374, n4375, n4376, n4377, n4378, n4379, n4380, n4381, n4382, n4383, n4384, n4385, n4386, n4387, n4388, n4389, n4390, n4391, n4392, i32_nat (n := c) (by omega), hc', or_self, a, a', a0, b0, bi_n, kx_b_0, fidx_p _ (fun k hk => by have := fi_lt (p := oAt c false) hm hk; omega), fi_is]
    by_cases h1 : hp_B S.m 8747 c = true
    · have h9 : maySend S (i32 c) = true := by rw [maySend_i hc]; exact Or.inl h1
      simp [h1, h9, kx_b]
    · by_cases h2 : (S.mo.find? (oAt c false)).isSome = true
      · have h9 : maySend S (i32 c) = true := by rw [maySend_i hc]; exact Or.inr (Or.inl h2)
        simp only [h1, h2, h9, kx_b]
        simp
      · by_cases h3 : hp_I S.m 8749 c ≤ i32 (sCnt S c)
        · have h9 : maySend S (i32 c) = false := by
            rw [← Bool.not_eq_true]
            rw [maySend_i hc]
            rintro (h | h | h)
            · exact h1 h
            · exact h2 h
            · rw [← nle_lt] at h
              exact h h3
          simp only [h1, h2, h3, h9, kx_b]
          simp
        · have h9 : maySend S (i32 c) = true := by rw [maySend_i hc]; exact Or.inr (Or.inr (by rw [← nle_lt]; exact h3))
          simp only [h1, h2, h3, h9, kx_b]
          simp
theorem M_mayR (M : MR w S) (hm : S.mo.length ≤ 4352) (hv : S.mv.length ≤ 8192) (hx : x < 0 ∨ ∃ c, c < 512 ∧ x = i32 c) : kx_ev wx_M (d + 2) 113 [kx_r 9 (some 4363), kx_i x] w = some (.inl (some (.inl (kx_b (mayRecv S x)))), w) := by
  obtain ⟨r1808, r1810, r1812, r1814, r1816, r1818, r1820, r1824, r1826, r1828, r1830, r1836, r1838, r1842, r1844, r1846, r1848, r1850, r1854, r1856, r1858, r1862, r1864, r1866, r1870, r1872, r1874, r1878, r1880, n4364, n4365, n4366, n4367, n4368, n4369, n4370, n4371, n4372, n4373, n4374, n4375, n4376, n4377, n4378, n4379, n4380, n4381, n4382, n4383, n4384, n4385, n4386, n4387, n4388, n4389, n4390, n4391, n4392⟩ := id M.sh
  obtain ⟨ψ, hψ⟩ := kx_fu
  rw [mE_113 hψ]
  unfold mb_113_0
  simp only [me_113_30, mb_113_30, me_113_34, mb_113_34, me_113_35, mb_113_35]
  rcases hx with hx | ⟨c, hc, rfl⟩
  · have : ¬ (0 : Int32) ≤ x := by rw [nle_lt]; exact hx
    have h9 : mayRecv S x = false := by unfold mayRecv; exact decide_eq_false (fun h => this h.1)
    simp [hx, h9, kx_b]
  · have a0 := M_fst1 (d := d) M hm hc
    have b0 := M_cnt (d := d) M hv hc
    have l := sCnt_le S c
    have a := M.ag.B 8747 (by decide) c
    have hc' : (512 ≤ c) = False := by simp; omega
    simp only [i32_neg (n := c) (by omega), if_false, ob_s, hR_I, hR_L, hR_B, hN_I, hN_L, hN_B, r1808, r1810, r1812, r1814, r1816, r1818, r1820, r1824, r1826, r1828, r1830, r1836, r1838, r1842, r1844, r1846, r1848, r1850, r1854, r1856, r1858, r1862, r1864, r1866, r1870, r1872, r1874, r1878, r1880, n4364, n4365, n4366, n4367, n4368, n4369, n4370, n4371, n4372, n4373, n4374, n4375, n4376, n4377, n4378, n4379, n4380, n4381, n4382, n4383, n4384, n4385, n4386, n4387, n4388, n4389, n4390, n4391, n4392, i32_nat (n := c) (by omega), hc', or_self, a, a0, b0, bi_n, kx_b_0, fidx_p _ (fun k hk => by have := fi_lt (p := oAt c true) hm hk; omega), fi_is, i32_p0 (k := sCnt S c) (by omega)]
    by_cases h1 : hp_B S.m 8747 c = true
    · have h9 : mayRecv S (i32 c) = true := by rw [mayRecv_i hc]; exact Or.inl h1
      simp [h1, h9, kx_b]
    · by_cases h2 : (S.mo.find? (oAt c true)).isSome = true
      · have h9 : mayRecv S (i32 c) = true := by rw [mayRecv_i hc]; exact Or.inr (Or.inl h2)
        simp only [h1, h2, h9, kx_b]
        simp
      · by_cases h3 : 0 < sCnt S c
        · have h9 : mayRecv S (i32 c) = true := by rw [mayRecv_i hc]; exact Or.inr (Or.inr h3)
          simp only [h1, h2, h3, h9, kx_b]
          simp
        · have h9 : mayRecv S (i32 c) = false := by
            rw [← Bool.not_eq_true]
            rw [mayRecv_i hc]
            rintro (h | h | h)
            · exact h1 h
            · exact h2 h
            · exact h3 h
          simp only [h1, h2, h3, h9, kx_b]
          simp
theorem M_rings (M : MR w S) (B : SB (kS.s_me S (L))) (hm : S.mo.length ≤ 4352) (hv : S.mv.length < 8192) (hc : c < 512) : ∃ w', kx_ev wx_M (d + 4) 111 [kx_r 9 (some 4363), kx_i (i32 c)] w = some (.inl none, w') ∧ MR w' (sRings S c) ∧ FM w w' := by
  obtain ⟨r1808, r1810, r1812, r1814, r1816, r1818, r1820, r1824, r1826, r1828, r1830, r1836, r1838, r1842, r1844, r1846, r1848, r1850, r1854, r1856, r1858, r1862, r1864, r1866, r1870, r1872, r1874, r1878, r1880, n4364, n4365, n4366, n4367, n4368, n4369, n4370, n4371, n4372, n4373, n4374, n4375, n4376, n4377, n4378, n4379, n4380, n4381, n4382, n4383, n4384, n4385, n4386, n4387, n4388, n4389, n4390, n4391, n4392⟩ := id M.sh
  have a0 := M_fst0 (d := d + 2) M hm hc
  have b0 := M_cnt (d := d + 2) M (by omega) hc
  have l := sCnt_le S c
  have a := M.ag.B 8747 (by decide) c
  have a' := M.ag.I 8749 (by decide) c
  have hc' : (512 ≤ c) = False := by simp; omega
  unfold sRings
  obtain ⟨ψ, hψ⟩ := kx_fu
  rw [mE_111 hψ]
  unfold mb_111_0
  simp only [ob_s, hR_I, hR_L, hR_B, hN_I, hN_L, hN_B, r1808, r1810, r1812, r1814, r1816, r1818, r1820, r1824, r1826, r1828, r1830, r1836, r1838, r1842, r1844, r1846, r1848, r1850, r1854, r1856, r1858, r1862, r1864, r1866, r1870, r1872, r1874, r1878, r1880, n4364, n4365, n4366, n4367, n4368, n4369, n4370, n4371, n4372, n4373, n4374, n4375, n4376, n4377, n4378, n4379, n4380, n4381, n4382, n4383, n4384, n4385, n4386, n4387, n4388, n4389, n4390, n4391, n4392, i32_nat (n := c) (by omega), i32_neg (n := c) (by omega), hc', or_self, a, a', a0, b0, bi_n, kx_b_0, fidx_p _ (fun k hk => by have := fi_lt (p := oAt c false) hm hk; omega), fi_is, if_false, me_111_42, mb_111_42, me_111_33, mb_111_33, M.ck]
  obtain ⟨w1, a1, M1, F1⟩ := M_del (d := d) (v := S.clk) M B hm hv hc
  by_cases h1 : hp_B S.m 8747 c = true
  · rw [if_pos (show sClosed S c = true from h1)]
    exact ⟨w, by simp [h1], M, FM.rf⟩
  · rw [if_neg (show ¬ sClosed S c = true from h1)]
    by_cases h2 : (S.mo.find? (oAt c false)).isSome = true
    · rw [if_pos (show (sFst S c false).isSome = true ∨ i32 (sCnt S c) < sRoom S c from Or.inl h2)]
      refine ⟨w1, ?_, M1, F1⟩
      simp [h1, h2, a1, bv_n]
    · by_cases h3 : hp_I S.m 8749 c ≤ i32 (sCnt S c)
      · rw [if_neg (show ¬ ((sFst S c false).isSome = true ∨ i32 (sCnt S c) < sRoom S c) by
          rintro (h | h)
          · exact h2 h
          · unfold sRoom at h
            rw [← nle_lt] at h
            exact h h3)]
        refine ⟨w, ?_, M, FM.rf⟩
        simp only [h1, h2, h3]
        simp
      · rw [if_pos (show (sFst S c false).isSome = true ∨ i32 (sCnt S c) < sRoom S c from Or.inr (by unfold sRoom; rw [← nle_lt]; exact h3))]
        refine ⟨w1, ?_, M1, F1⟩
        simp only [h1, h2, h3, a1, bv_n]
        simp
end M4
