/-! the model's calls: choose -/
theorem i32_int {a : Nat} (h : a < 2147483648) : (i32 a).toInt = a := Int32.toInt_ofNat_of_lt (by omega)
theorem i32_mod {a b : Nat} (ha : a < 2147483648) (hb : 0 < b) (hb2 : b < 1000) : i32 a - i32 a / i32 b * i32 b = i32 (a % b) := by
  have hd : i32 a / i32 b = i32 (a / b) := by
    apply Int32.toInt_inj.mp
    have h1 : a / b ≤ a := Nat.div_le_self a b
    rw [Int32.toInt_div, i32_int ha, i32_int (by omega), i32_int (by omega)]
    have : ((a : Int).tdiv (b : Int)) = ((a / b : Nat) : Int) := by
      rw [Int.tdiv_eq_ediv_of_nonneg (by omega)]
      rfl
    rw [this]
    clear this
    generalize a / b = z at h1 ⊢
    exact Int.bmod_eq_of_le (by omega) (by omega)
  rw [hd]
  have hm : i32 (a / b) * i32 b = i32 (a / b * b) := (Int32.ofNat_mul _ _).symm
  have hle : a / b * b ≤ a := Nat.div_mul_le_self a b
  rw [hm, i32_sub hle]
  congr 1
  have := Nat.div_add_mod a b
  rw [Nat.mul_comm] at this
  omega
section CI
variable {w : kx_H} {d n t g k : Nat} {S : kS} {c x : Int32} {v : Int64} {b goes r f : Bool}
def rMt (w : kx_H) (k : Nat) (e : kMt) : Prop := hp_I w 8765 k = e.1 ∧ hp_B w 8767 k = e.2.1 ∧ hp_L w 8769 k = e.2.2
def vCh (e : kMt) : Prop := e.1 = -1 ∨ ∃ c, c < 512 ∧ e.1 = i32 c
theorem vCh.or {e : kMt} (h : vCh e) : e.1 < 0 ∨ ∃ c, c < 512 ∧ e.1 = i32 c := by
  rcases h with h | h
  · left; rw [h]; decide
  · exact Or.inr h
theorem M_isRdy {e : kMt} (M : MR w S) (hm : S.mo.length ≤ 4352) (hv : S.mv.length ≤ 8192) (hk : k < 16) (R : rMt w k e) (V : vCh e) : kx_ev wx_M (d + 3) 118 [kx_r 9 (some 4363), kx_i (i32 k)] w = some (.inl (some (.inl (kx_b (isRdy S e)))), w) := by
  obtain ⟨r1808, r1810, r1812, r1814, r1816, r1818, r1820, r1824, r1826, r1828, r1830, r1836, r1838, r1842, r1844, r1846, r1848, r1850, r1854, r1856, r1858, r1862, r1864, r1866, r1870, r1872, r1874, r1878, r1880, n4364, n4365, n4366, n4367, n4368, n4369, n4370, n4371, n4372, n4373, n4374, n4375, n4376, n4377, n4378, n4379, n4380, n4381, n4382, n4383, n4384, n4385, n4386, n4387, n4388, n4389, n4390, n4391, n4392⟩ := id M.sh
  obtain ⟨r1, r2, r3⟩ := R
  have a1 := M_mayS (d := d) (x := e.1) M hm hv V.or
  have a2 := M_mayR (d := d) (x := e.1) M hm hv V.or
  unfold isRdy
  obtain ⟨ψ, hψ⟩ := kx_fu
  rw [mE_118 hψ]
  unfold mb_118_0
  simp only [ob_s, hR_I, hR_L, hR_B, hN_I, hN_L, hN_B, r1808, r1810, r1812, r1814, r1816, r1818, r1820, r1824, r1826, r1828, r1830, r1836, r1838, r1842, r1844, r1846, r1848, r1850, r1854, r1856, r1858, r1862, r1864, r1866, r1870, r1872, r1874, r1878, r1880, n4364, n4365, n4366, n4367, n4368, n4369, n4370, n4371, n4372, n4373, n4374, n4375, n4376, n4377, n4378, n4379, n4380, n4381, n4382, n4383, n4384, n4385, n4386, n4387, n4388, n4389, n4390, n4391, n4392, Nat.reduceMul, Nat.reduceAdd, Nat.reduceEqDiff, false_and, if_false, i32_nat (n := k) (by omega), i32_jx (n := k) (k := 16) (by omega) (by omega), r1, r2, kx_b_0, a1, a2, bi_n, me_118_32, mb_118_32]
  cases h : e.2.1 with
  | true =>
    simp only [eq_self, reduceCtorEq, if_true, if_false]
    cases maySend S e.1 <;> simp [kx_b]
  | false =>
    simp only [eq_self, reduceCtorEq, if_true, if_false]
    cases mayRecv S e.1 <;> simp [kx_b]
theorem M_offerF {j : Int32} {c : Nat} (M : MR w S) (ht : t < 256) (hc : c < 512) (hr : S.mo.length < 4352) : ∃ w', kx_ev wx_M (d + 1) 107 [kx_r 9 (some 4363), kx_i (i32 t), kx_i (i32 c), kx_i (kx_b b), kx_l v, kx_i j] w = some (.inl none, w') ∧ MR w' (kS.s_mo S (S.mo ++ [(t, c, b, v, j)])) ∧ FR [1840, 8755, 8757, 8763] [8761] [] [8759] w w' := by
  obtain ⟨r1808, r1810, r1812, r1814, r1816, r1818, r1820, r1824, r1826, r1828, r1830, r1836, r1838, r1842, r1844, r1846, r1848, r1850, r1854, r1856, r1858, r1862, r1864, r1866, r1870, r1872, r1874, r1878, r1880, n4364, n4365, n4366, n4367, n4368, n4369, n4370, n4371, n4372, n4373, n4374, n4375, n4376, n4377, n4378, n4379, n4380, n4381, n4382, n4383, n4384, n4385, n4386, n4387, n4388, n4389, n4390, n4391, n4392⟩ := id M.sh
  have F : FR [1840, 8755, 8757, 8763] [8761] [] [8759] w (hp_sI (hp_sI (hp_sL (hp_sB (hp_sI (hp_sI w 8755 S.mo.length (i32 t)) 8757 S.mo.length (i32 c)) 8759 S.mo.length b) 8761 S.mo.length v) 8763 S.mo.length j) 1840 4363 (i32 (S.mo.length + 1))) := FR.sI (by decide) (FR.sI (by decide) (FR.sL (by decide) (FR.sB (by decide) (FR.sI (by decide) (FR.sI (by decide) FR.rf)))))
  refine ⟨_, ?_, M.of_mo F (Lmo.push M.mo ht hc), F⟩
  obtain ⟨ψ, hψ⟩ := kx_fu
  rw [mE_107 hψ]
  unfold mb_107_0
  have e := M.mo.1
  simp only [ob_s, hR_I, hR_L, hR_B, hN_I, hN_L, hN_B, r1808, r1810, r1812, r1814, r1816, r1818, r1820, r1824, r1826, r1828, r1830, r1836, r1838, r1842, r1844, r1846, r1848, r1850, r1854, r1856, r1858, r1862, r1864, r1866, r1870, r1872, r1874, r1878, r1880, n4364, n4365, n4366, n4367, n4368, n4369, n4370, n4371, n4372, n4373, n4374, n4375, n4376, n4377, n4378, n4379, n4380, n4381, n4382, n4383, n4384, n4385, n4386, n4387, n4388, n4389, n4390, n4391, n4392, hI_I, hI_L, hI_B, if_false, e, kx_sb_b]
  simp [i32_nat (n := S.mo.length) (by omega), i32_add1, i32_neg (n := S.mo.length) (by omega), hr, e]
def nRdy (S : kS) (l : List kMt) : Nat := l.countP (isRdy S)
theorem M_ch_a (M : MR w S) (hm : S.mo.length ≤ 4352) (hv : S.mv.length ≤ 8192) (hl : S.mt.length ≤ 16) (V : ∀ e ∈ S.mt, vCh e) {C : kx_C} (hC : C = kx_ev wx_M (d + 3)) : ∀ n j F, j + n = S.mt.length → 2 * n + 1 ≤ F →
    ∃ F', F ≤ F' + 2 * n ∧ kx_ex (wm_117 (d + 3) C) F 33 [(0, kx_r 9 (some 4363)), (1, kx_i c), (2, kx_i x), (3, kx_i (i32 (nRdy S (S.mt.take j)))), (4, kx_i (i32 j))] [] w =
      kx_ex (wm_117 (d + 3) C) F' 33 [(0, kx_r 9 (some 4363)), (1, kx_i c), (2, kx_i x), (3, kx_i (i32 (nRdy S S.mt))), (4, kx_i (i32 S.mt.length))] [] w := by
  obtain ⟨o1, o2⟩ := id M.mt
  intro n
  induction n with
  | zero =>
    intro j F hj hF
    obtain rfl : j = S.mt.length := by omega
    refine ⟨F, by omega, ?_⟩
    rw [List.take_of_length_le (Nat.le_refl _)]
  | succ n ih =>
    intro j F hj hF
    obtain ⟨F, rfl⟩ : ∃ f', F = f' + 1 + 1 := ⟨F - 2, by omega⟩
    obtain ⟨y, hy⟩ : ∃ y, S.mt[j]? = some y := ⟨S.mt[j], List.getElem?_eq_getElem (by omega)⟩
    have hym := List.mem_of_getElem? hy
    have a := M_isRdy (d := d) (k := j) M hm hv (by omega) (o2 j y hy) (V y hym)
    obtain ⟨F', h1, h2⟩ := ih (j + 1) F (by omega) (by omega)
    refine ⟨F', by omega, ?_⟩
    rw [← h2, me_117_33]
    unfold mb_117_33
    unfold nRdy
    rw [cp_take hy]
    rw [← hC] at a
    simp only [ob_s, o1, a, bi_n, me_117_57, mb_117_57, i32_add1]
    rw [if_neg (by rw [i32_le (by omega) (by omega)]; omega)]
    cases isRdy S y with
    | true => simp only [kx_b_t, i10, eq_self, reduceCtorEq, if_true, if_false, i32_add1]
    | false => simp only [kx_b_f, eq_self, reduceCtorEq, if_true, if_false, Int32.add_zero, Nat.add_zero]
theorem M_done {e : kMt} (M : MR w S) (B : SB S) (hm : S.mo.length ≤ 4352) (hv : S.mv.length < 8192) (hk : k < 16) (R : rMt w k e) {q : Nat} (hq : q < 512) (he : e.1 = i32 q) (hc : S.cur = some t) : ∃ w', kx_ev wx_M (d + 4) 119 [kx_r 9 (some 4363), kx_i (i32 k)] w = some (.inl (some (.inl (kx_b (sDone S t (e, k)).2))), w') ∧ MR w' (sDone S t (e, k)).1 ∧ FM w w' := by
  obtain ⟨r1808, r1810, r1812, r1814, r1816, r1818, r1820, r1824, r1826, r1828, r1830, r1836, r1838, r1842, r1844, r1846, r1848, r1850, r1854, r1856, r1858, r1862, r1864, r1866, r1870, r1872, r1874, r1878, r1880, n4364, n4365, n4366, n4367, n4368, n4369, n4370, n4371, n4372, n4373, n4374, n4375, n4376, n4377, n4378, n4379, n4380, n4381, n4382, n4383, n4384, n4385, n4386, n4387, n4388, n4389, n4390, n4391, n4392⟩ := id M.sh
  obtain ⟨r1, r2, r3⟩ := R
  have ht := B.cu t hc
  have hqk : (512 ≤ q) = False := by simp; omega
  have ac : hp_B w 8747 q = sClosed S q := M.ag.B 8747 (by decide) q
  unfold sDone
  obtain ⟨ψ, hψ⟩ := kx_fu
  rw [mE_119 hψ]
  unfold mb_119_0
  rw [show (e, k).1.1 = i32 q from he, i32_nat (n := q) (by omega)]
  rw [he] at r1
  simp only [ob_s, hR_I, hR_L, hR_B, hN_I, hN_L, hN_B, r1808, r1810, r1812, r1814, r1816, r1818, r1820, r1824, r1826, r1828, r1830, r1836, r1838, r1842, r1844, r1846, r1848, r1850, r1854, r1856, r1858, r1862, r1864, r1866, r1870, r1872, r1874, r1878, r1880, n4364, n4365, n4366, n4367, n4368, n4369, n4370, n4371, n4372, n4373, n4374, n4375, n4376, n4377, n4378, n4379, n4380, n4381, n4382, n4383, n4384, n4385, n4386, n4387, n4388, n4389, n4390, n4391, n4392, Nat.reduceMul, Nat.reduceAdd, Nat.reduceEqDiff, false_and, if_false, i32_nat (n := k) (by omega), i32_jx (n := k) (k := 16) (by omega) (by omega), r1, r2, r3, kx_b_0, i32_nat (n := q) (by omega), i32_neg (n := q) (by omega), hqk, or_self, ac]
  cases hg : e.2.1 with
  | false =>
    simp only [eq_self, reduceCtorEq, if_true, if_false]
    obtain ⟨w1, a1, M1, F1⟩ := M_take (d := d) (x := i32 k) (L := S.me) M B hm hv hq hc
    refine ⟨w1, ?_, And.intro M1 F1⟩
    rw [a1, bv_n]
    rfl
  | true =>
    simp only [eq_self, reduceCtorEq, if_true, if_false]
    cases hcl : sClosed S q with
    | true =>
      simp only [eq_self, reduceCtorEq, if_true, if_false]
      obtain ⟨w1, a1, M1, F1⟩ := M_no (d := d + 2) (x := 3) M
      refine ⟨w1, ?_, And.intro M1 F1⟩
      rw [a1, bi_n]
      rfl
    | false =>
      simp only [eq_self, reduceCtorEq, if_true, if_false]
      obtain ⟨w1, a1, M1, F1⟩ := M_del (d := d) (v := e.2.2) (L := S.me) M B hm hv hq
      have hcu : (sDel S q e.2.2).cur = some t := by
        unfold sDel
        cases sFst S q false <;> exact hc
      obtain ⟨w2, a2, M2, F2⟩ := M_has (d := d + 2) (t := t) (n := 0) (f := true) (x := i32 k) (b := false) M1 ht
      rw [kx_b_t, kx_b_f] at a2
      refine ⟨w2, ?_, And.intro M2 (F1.tr F2)⟩
      simp only [a1, bv_n, cu_s M1 hcu, a2]
      rfl
/-- the one that is looked for -/
theorem M_ch_b {mt : List kMt} (M : MR w S) (hmo : S.mo.length ≤ 4352) (hmv : S.mv.length ≤ 8192) (hl : mt.length ≤ 16) (R : ∀ k e, mt[k]? = some e → rMt w k e) (V : ∀ e ∈ mt, vCh e) {C : kx_C} (hC : C = kx_ev wx_M (d + 4)) {e : kMt × Nat} : ∀ n j l F, j + n = mt.length → 3 * n + 1 ≤ F → ((mt.zipIdx.drop j).filter (fun e => isRdy S e.1))[l]? = some e → l < 1000 →
    kx_ex (wm_117 (d + 4) C) F 88 [(0, kx_r 9 (some 4363)), (5, kx_i (i32 l)), (6, kx_i (i32 j))] [] w = (kx_bi (C 119 [kx_r 9 (some 4363), kx_i (i32 e.2)] w) fun y5 w4 => if y5 = 0 ∨ y5 = 1 then some (.inl (some (.inl y5)), w4) else none) := by
  intro n
  induction n with
  | zero =>
    intro j l F hj hF hl
    rw [List.drop_of_length_le (by simp; omega)] at hl
    simp at hl
  | succ n ih =>
    intro j l F hj hF he hl9
    obtain ⟨F, rfl⟩ : ∃ f', F = f' + 1 + 1 + 1 := ⟨F - 3, by omega⟩
    have hjl : j < mt.length := by omega
    obtain ⟨y, hy⟩ : ∃ y, mt[j]? = some y := ⟨mt[j], List.getElem?_eq_getElem hjl⟩
    have hym := List.mem_of_getElem? hy
    have a := M_isRdy (d := d + 1) (k := j) M hmo hmv (by omega) (R j y hy) (V y hym)
    have hd : mt.zipIdx.drop j = (y, j) :: mt.zipIdx.drop (j + 1) := by
      have hjz : j < mt.zipIdx.length := by simp; omega
      rw [List.drop_eq_getElem_cons hjz]
      congr 1
      rw [List.getElem_zipIdx]
      obtain ⟨h1, h2⟩ := List.getElem?_eq_some_iff.mp hy
      simp [h2]
    rw [hd] at he
    rw [me_117_88]
    unfold mb_117_88
    rw [← hC] at a
    simp only [ob_s, a, bi_n, me_117_102, mb_117_102, me_117_118, mb_117_118, i32_add1]
    cases hr : isRdy S y with
    | true =>
      simp only [kx_b_t, i10, eq_self, reduceCtorEq, if_true, if_false]
      simp only [List.filter_cons, hr, if_true] at he
      cases l with
      | zero =>
        simp at he
        subst he
        rw [if_neg (show ¬ 0 < i32 0 by decide)]
      | succ l =>
        simp only [List.getElem?_cons_succ] at he
        rw [if_pos (show 0 < i32 (l + 1) by rw [← nle_lt, i32_p0 (by omega)]; simp), i32_sub1]
        exact ih (j + 1) l F (by omega) (by omega) he (by omega)
    | false =>
      simp only [kx_b_f, eq_self, reduceCtorEq, if_true, if_false]
      simp only [List.filter_cons, hr, reduceCtorEq, if_false] at he
      have e0 : i32 l - 0 = i32 l := Int32.sub_zero _
      rw [e0, ite_self]
      exact ih (j + 1) l F (by omega) (by omega) he hl9
def cOf (t : Nat) : kMt × Nat → Option kMo := fun e => if e.1.1 < 0 then none else some (t, e.1.1.toNatClampNeg, e.1.2.1, e.1.2.2, i32 e.2)
theorem M_ch_c {mt : List kMt} (hl : mt.length ≤ 16) (V : ∀ e ∈ mt, vCh e) {C : kx_C} (hC : C = kx_ev wx_M (d + 7)) (ht : t < 256) : ∀ n j F w (T : kS), MR w (kS.s_mo T (T.mo ++ (mt.zipIdx.take j).filterMap (cOf t))) → T.cur = some t → T.mo.length ≤ 4000 → (∀ k e, mt[k]? = some e → rMt w k e) → j + n = mt.length → 2 * n + 1 ≤ F →
    ∃ w' F', F ≤ F' + 2 * n ∧ kx_ex (wm_117 (d + 7) C) F 158 [(0, kx_r 9 (some 4363)), (4, kx_i (i32 mt.length)), (5, kx_i (kx_b (!((mt.zipIdx.take j).filterMap (cOf t)).isEmpty))), (6, kx_i (i32 j))] [] w =
      kx_ex (wm_117 (d + 7) C) F' 158 [(0, kx_r 9 (some 4363)), (4, kx_i (i32 mt.length)), (5, kx_i (kx_b (!(mt.zipIdx.filterMap (cOf t)).isEmpty))), (6, kx_i (i32 mt.length))] [] w' ∧ MR w' (kS.s_mo T (T.mo ++ mt.zipIdx.filterMap (cOf t))) ∧ FM w w' := by
  intro n
  induction n with
  | zero =>
    intro j F w T M hc hmo R hj hF
    obtain rfl : j = mt.length := by omega
    rw [List.take_of_length_le (by simp)] at M ⊢
    exact ⟨w, F, by omega, rfl, And.intro M FM.rf⟩
  | succ n ih =>
    intro j F w T M hc hmo R hj hF
    obtain ⟨r1808, r1810, r1812, r1814, r1816, r1818, r1820, r1824, r1826, r1828, r1830, r1836, r1838, r1842, r1844, r1846, r1848, r1850, r1854, r1856, r1858, r1862, r1864, r1866, r1870, r1872, r1874, r1878, r1880, n4364, n4365, n4366, n4367, n4368, n4369, n4370, n4371, n4372, n4373, n4374, n4375, n4376, n4377, n4378, n4379, n4380, n4381, n4382, n4383, n4384, n4385, n4386, n4387, n4388, n4389, n4390, n4391, n4392⟩ := id M.sh
    obtain ⟨F, rfl⟩ : ∃ f', F = f' + 1 + 1 := ⟨F - 2, by omega⟩
    obtain ⟨y, hy⟩ : ∃ y, mt[j]? = some y := ⟨mt[j], List.getElem?_eq_getElem (by omega)⟩
    have hym := List.mem_of_getElem? hy
    obtain ⟨r1, r2, r3⟩ := R j y hy
    have hzj : mt.zipIdx[j]? = some (y, j) := by
      rw [List.getElem?_zipIdx, hy]
      simp
    have htk : (mt.zipIdx.take (j + 1)).filterMap (cOf t) = (mt.zipIdx.take j).filterMap (cOf t) ++ (cOf t (y, j)).toList := by
      rw [List.take_add_one, hzj, List.filterMap_append]
      cases h : cOf t (y, j) <;> simp [h]
    have hfl : ((mt.zipIdx.take j).filterMap (cOf t)).length ≤ 16 := by
      refine Nat.le_trans (List.length_filterMap_le _ _) ?_
      simp
      omega
    rw [me_117_158]
    unfold mb_117_158
    rw [if_neg (by rw [i32_le (by omega) (by omega)]; omega)]
    simp only [ob_s, hR_I, hR_L, hR_B, hN_I, hN_L, hN_B, r1808, r1810, r1812, r1814, r1816, r1818, r1820, r1824, r1826, r1828, r1830, r1836, r1838, r1842, r1844, r1846, r1848, r1850, r1854, r1856, r1858, r1862, r1864, r1866, r1870, r1872, r1874, r1878, r1880, n4364, n4365, n4366, n4367, n4368, n4369, n4370, n4371, n4372, n4373, n4374, n4375, n4376, n4377, n4378, n4379, n4380, n4381, n4382, n4383, n4384, n4385, n4386, n4387, n4388, n4389, n4390, n4391, n4392, Nat.reduceMul, Nat.reduceAdd, Nat.reduceEqDiff, false_and, if_false, i32_nat (n := j) (by omega), i32_jx (n := j) (k := 16) (by omega) (by omega), r1, r2, r3, me_117_212, mb_117_212, i32_add1]
    rcases V y hym with hv | ⟨q, hq, hv⟩
    · have hn : cOf t (y, j) = none := if_pos (show y.1 < 0 by rw [hv]; decide)
      rw [hn, Option.toList_none, List.append_nil] at htk
      have ih1 := ih (j + 1) F w T
      rw [htk] at ih1
      rw [hv, if_neg (show ¬ (0 : Int32) ≤ -1 by decide)]
      obtain ⟨w', F', h1, h2, h3⟩ := ih1 M hc hmo R (by omega) (by omega)
      exact ⟨w', F', by omega, h2, h3⟩
    · have hn : cOf t (y, j) = some (t, q, y.2.1, y.2.2, i32 j) := by
        unfold cOf
        rw [if_neg (show ¬ (y, j).1.1 < 0 by show ¬ y.1 < 0; rw [hv, i32_neg (by omega)]; simp)]
        show some (t, y.1.toNatClampNeg, y.2.1, y.2.2, i32 j) = _
        rw [hv, i32_nat (by omega)]
      rw [hn] at htk
      simp only [Option.toList_some] at htk
      obtain ⟨w1, a1, M1, F1⟩ := M_offerF (d := d + 6) (t := t) (c := q) (b := y.2.1) (v := y.2.2) (j := i32 j) M ht hq (by show (T.mo ++ _).length < 4352; rw [List.length_append]; omega)
      have M1' : MR w1 (kS.s_mo T (T.mo ++ (mt.zipIdx.take (j + 1)).filterMap (cOf t))) := by
        rw [htk, ← List.append_assoc]
        exact M1
      obtain ⟨w', F', h1, h2, h3, h4⟩ := ih (j + 1) F w1 T M1' hc hmo (fun k e hk => by
        obtain ⟨u1, u2, u3⟩ := R k e hk
        refine ⟨?_, ?_, ?_⟩
        · rw [F1.I 8765 (by decide)]; exact u1
        · rw [F1.B 8767 (by decide)]; exact u2
        · rw [F1.L 8769 (by decide)]; exact u3) (by omega) (by omega)
      have hne : (!((mt.zipIdx.take (j + 1)).filterMap (cOf t)).isEmpty) = true := by
        rw [htk]
        simp
      rw [hne, kx_b_t] at h2
      refine ⟨w', F', by omega, ?_, And.intro h3 ((FM.of F1 (by decide) (by decide) (by decide)).tr h4)⟩
      rw [hv, if_pos (show (0 : Int32) ≤ i32 q by rw [i32_ge (by omega)]; trivial)]
      rw [← hC] at a1
      have cu : hp_I w 1802 4363 = i32 t := cu_s M hc
      rw [cu, a1, bv_n]
      exact h2
theorem zf_cnt {S : kS} {mt : List kMt} : (mt.zipIdx.filter (fun e => isRdy S e.1)).length = nRdy S mt := by
  have h : ∀ (l : List kMt) (i : Nat), ((l.zipIdx i).filter (fun e => isRdy S e.1)).length = l.countP (isRdy S) := by
    intro l
    induction l with
    | nil => intro i; rfl
    | cons a l ih =>
      intro i
      rw [List.zipIdx_cons, List.filter_cons, List.countP_cons]
      cases isRdy S a with
      | true => simp [ih]
      | false => simp [ih]
  exact h mt 0
theorem M_choose (M : MR w S) (I : SI S n) (hn : n < 512) : ∃ w', kx_ev wx_M (d + 8) 117 [kx_r 9 (some 4363), kx_i c, kx_i (kx_b b)] w = some (.inl (some (.inl (kx_b (pChoose S c b).2))), w') ∧ MR w' (pChoose S c b).1 ∧ FM w w' := by
  obtain ⟨M0, F0⟩ := M_th (x := 0) M
  have hl1 := I.l.1
  have hl2 := I.l.2
  have hml := I.ml
  obtain ⟨ψ, hψ⟩ := kx_fl 4000 (by omega)
  unfold pChoose
  rw [mE_117 hψ]
  unfold mb_117_0
  simp only [ob_s]
  by_cases h1 : c < 0
  · obtain ⟨w1, a1, M1, F1⟩ := M_no (d := d + 6) (x := 1) M0
    rw [if_pos h1, if_neg (show ¬ 0 ≤ c by rw [nle_lt]; exact h1)]
    refine ⟨w1, ?_, And.intro M1 (F0.tr F1)⟩
    rw [a1, bi_n]
    rfl
  · rw [if_neg h1, if_pos (show 0 ≤ c by rw [← nlt_le]; exact h1)]
    rcases cur_or S with hc | ⟨t, hc⟩
    · obtain ⟨w1, a1, M1, F1⟩ := M_no (d := d + 6) (x := 2) M0
      rw [hc, cu_n M0 hc, if_neg (show ¬ (0 : Int32) ≤ -1 by decide)]
      refine ⟨w1, ?_, And.intro M1 (F0.tr F1)⟩
      rw [a1, bi_n]
      rfl
    · have ht := I.b.cu t hc
      have h0 := I.cs t hc
      have hni := I.b.nin0 h0
      rw [hc, cu_s M0 hc, if_pos (show (0 : Int32) ≤ i32 t by rw [i32_ge (by omega)]; trivial)]
      have V : ∀ e ∈ S.mt, vCh e := I.mc
      obtain ⟨F', hF, e1⟩ := M_ch_a (d := d + 4) (c := c) (x := kx_b b) (S := sTh S 0) M0 (by show S.mo.length ≤ _; omega) (by show S.mv.length ≤ _; omega) hml V (C := kx_ev wx_M (d + 7)) rfl S.mt.length 0 (ψ + 4000) (by show 0 + S.mt.length = S.mt.length; omega) (by omega)
      obtain ⟨F', rfl⟩ : ∃ f, F' = f + 1 := ⟨F' - 1, by omega⟩
      have e1' : kx_ex (wm_117 (d + 7) (kx_ev wx_M (d + 7))) (ψ + 4000) 33 [(0, kx_r 9 (some 4363)), (1, kx_i c), (2, kx_i (kx_b b)), (3, kx_i 0), (4, kx_i 0)] [] (hp_sI w 1800 4363 0) = kx_ex (wm_117 (d + 7) (kx_ev wx_M (d + 7))) (F' + 1) 33 [(0, kx_r 9 (some 4363)), (1, kx_i c), (2, kx_i (kx_b b)), (3, kx_i (i32 (nRdy S S.mt))), (4, kx_i (i32 S.mt.length))] [] (hp_sI w 1800 4363 0) := e1
      rw [e1', me_117_33]
      unfold mb_117_33
      have em : hp_I (hp_sI w 1800 4363 0) 1852 4363 = i32 S.mt.length := M0.mt.1
      have Fx : FR [1852, 8765] [8769] [] [8767] (hp_sI w 1800 4363 0) (hp_sI (hp_sI w 1800 4363 0) 1852 4363 0) := FR.sI (by decide) FR.rf
      have M1 : MR (hp_sI (hp_sI w 1800 4363 0) 1852 4363 0) (kS.s_mt ((kS.s_th S (0))) ([])) := M0.of_mt (v := []) Fx ⟨by simp [hI_I]; rfl, by simp⟩
      have F1 := F0.tr (FM.of Fx (by decide) (by decide) (by decide))
      have R1 : ∀ k e, S.mt[k]? = some e → rMt (hp_sI (hp_sI w 1800 4363 0) 1852 4363 0) k e := fun k e hk => by
        obtain ⟨u1, u2, u3⟩ := M.mt.2 k e hk
        refine ⟨?_, ?_, ?_⟩
        · simp [hI_I, hI_L, hI_R, hI_B, hI_b, hL_I, hL_L, hL_R, hL_B, hL_b, hR_I, hR_L, hR_R, hR_B, hR_b, hB_I, hB_L, hB_R, hB_B, hB_b, hN_I, hN_L, hN_R, hN_B, hN_b, hT_I, hT_L, hT_R, hT_B, hT_b, hX_I, hX_L, hX_R, hX_B, hX_b, hC_I, hC_L, hC_R, hC_B, hC_b, hU_I, hU_L, hU_R, hU_B, hU_b]; exact u1
        · simp [hI_I, hI_L, hI_R, hI_B, hI_b, hL_I, hL_L, hL_R, hL_B, hL_b, hR_I, hR_L, hR_R, hR_B, hR_b, hB_I, hB_L, hB_R, hB_B, hB_b, hN_I, hN_L, hN_R, hN_B, hN_b, hT_I, hT_L, hT_R, hT_B, hT_b, hX_I, hX_L, hX_R, hX_B, hX_b, hC_I, hC_L, hC_R, hC_B, hC_b, hU_I, hU_L, hU_R, hU_B, hU_b]; exact u2
        · simp [hI_I, hI_L, hI_R, hI_B, hI_b, hL_I, hL_L, hL_R, hL_B, hL_b, hR_I, hR_L, hR_R, hR_B, hR_b, hB_I, hB_L, hB_R, hB_B, hB_b, hN_I, hN_L, hN_R, hN_B, hN_b, hT_I, hT_L, hT_R, hT_B, hT_b, hX_I, hX_L, hX_R, hX_B, hX_b, hC_I, hC_L, hC_R, hC_B, hC_b, hU_I, hU_L, hU_R, hU_B, hU_b]; exact u3
      have hnr : nRdy S S.mt ≤ 16 := Nat.le_trans List.countP_le_length hml
      have hcr : (cRdy S).length = nRdy S S.mt := zf_cnt
      simp only [ob_s, em]
      rw [if_pos (by rw [i32_le (by omega) (by omega)]; omega)]
      by_cases hz : nRdy S S.mt = 0
      · have hnil : cRdy S = [] := List.eq_nil_of_length_eq_zero (by omega)
        rw [hz, if_pos (show i32 0 ≤ 0 by decide), hnil]
        simp only [List.getElem?_nil]
        cases b with
        | true =>
          obtain ⟨w2, a2, M2, F2⟩ := M_has (d := d + 6) (t := t) (n := 0) (f := false) (x := -1) (b := false) M1 ht
          rw [kx_b_f] at a2
          simp only [eq_self, reduceCtorEq, if_true, if_false]
          refine ⟨w2, ?_, And.intro M2 (F1.tr F2)⟩
          have cu : hp_I (hp_sI (hp_sI w 1800 4363 0) 1852 4363 0) 1802 4363 = i32 t := cu_s M1 hc
          simp only [kx_b_t, i10, if_false, cu, a2, bv_n]
          rfl
        | false =>
          have hco : cOff t S.mt = S.mt.zipIdx.filterMap (cOf t) := rfl
          obtain ⟨w2, F2', g1, g2, M2, F2⟩ := M_ch_c (d := d) (t := t) (mt := S.mt) hml V (C := kx_ev wx_M (d + 7)) rfl ht S.mt.length 0 F' _ (kS.s_mt ((kS.s_th S (0))) ([])) (by simpa using M1) hc (by show S.mo.length ≤ 4000; omega) R1 (by omega) (by omega)
          obtain ⟨F2', rfl⟩ : ∃ f, F2' = f + 1 + 1 := ⟨F2' - 2, by omega⟩
          rw [← hco] at M2 g2
          have hlen : (cOff t S.mt).length ≤ S.mt.length := by
            refine Nat.le_trans (List.length_filterMap_le _ _) ?_
            simp
          have hX : ∀ e ∈ cOff t S.mt, e.1 = t ∧ e.2.1 < 512 := by
            intro e he
            obtain ⟨q, hq1, hq2⟩ := List.mem_filterMap.mp he
            obtain ⟨q1, q2⟩ := q
            have hqm : q1 ∈ S.mt := by
              have := List.mem_zipIdx hq1
              rw [this.2.2]
              exact List.getElem_mem _
            split at hq2
            · cases hq2
            · cases hq2
              refine ⟨rfl, ?_⟩
              rcases V q1 hqm with h5 | ⟨q3, h5, h6⟩
              · rename_i h7
                exact absurd (by rw [h5]; decide) h7
              · show q1.1.toNatClampNeg < 512
                rw [h6, i32_nat (by omega)]
                exact h5
          have rest : ∀ how, (how = 2 ∨ how = 3 ∨ how = 4 ∨ cOff t S.mt = []) → ∃ w', kx_ev wx_M (d + 7) 108 [kx_r 9 (some 4363), kx_i how, kx_i (-1)] w2 = some (.inl none, w') ∧ MR w' (sRest (kS.s_mo ((kS.s_mt ((kS.s_th S (0))) ([]))) (S.mo ++ cOff t S.mt)) t how (-1)) ∧ FM w2 w' := by
            intro how hh
            have BR := SB.rest (how := how) (place := -1) I.b hni ht (cOff t S.mt) [] [] (fun e he => ⟨(hX e he).1, (hX e he).2, by
              rcases hh with h | h | h | h
              · exact Or.inl h
              · exact Or.inr (Or.inl h)
              · exact Or.inr (Or.inr h)
              · rw [h] at he; simp at he⟩) (Or.inl rfl) (Or.inl rfl)
            simp only [List.append_nil] at BR
            have BR2 : SB (kS.s_cur ((kS.s_m ((kS.s_mo ((kS.s_mt ((kS.s_th S (0))) ([]))) (S.mo ++ cOff t S.mt))) (hp_sI (hp_sI S.m 8731 t how) 8733 t (-1)))) (none)) := BR.of BR.cu (fun _ _ => rfl) (List.Sublist.refl _) (List.Sublist.refl _) (List.Sublist.refl _) (List.Sublist.refl _)
            exact M_rest (d := d) (k := n + 1) (how := how) (place := -1) (S := (kS.s_mo ((kS.s_mt ((kS.s_th S (0))) ([]))) (S.mo ++ cOff t S.mt))) M2 hc ht BR2 ⟨by show S.mv.length + S.me.length ≤ _; omega, by show (S.mo ++ cOff t S.mt).length + 0 ≤ _; rw [List.length_append]; omega⟩ (by omega) I.a
          have go : ∀ how, (how = 2 ∨ how = 3 ∨ how = 4 ∨ cOff t S.mt = []) → how = (if cOff t S.mt = [] then 7 else 4) → ∃ w', kx_ex (wm_117 (d + 7) (kx_ev wx_M (d + 7))) (F2' + 1) 230 [] [kx_i how, kx_r 9 (some 4363)] w2 = some (.inl (some (.inl (kx_b false))), w') ∧ MR w' (sRest (kS.s_mo ((kS.s_mt ((kS.s_th S (0))) ([]))) (S.mo ++ cOff t S.mt)) t (if cOff t S.mt = [] then 7 else 4) (-1)) ∧ FM w w' := by
            intro how hh he
            obtain ⟨w3, a3, M3, F3⟩ := rest how hh
            rw [← he]
            refine ⟨w3, ?_, And.intro M3 ((F1.tr F2).tr F3)⟩
            rw [me_117_230]
            unfold mb_117_230
            simp only [ob_s, a3, bv_n]
            rfl
          simp only [eq_self, reduceCtorEq, if_true, if_false, kx_b_f]
          have g3 : kx_ex (wm_117 (d + 7) (kx_ev wx_M (d + 7))) F' 158 [(0, kx_r 9 (some 4363)), (4, kx_i (i32 S.mt.length)), (5, kx_i 0), (6, kx_i 0)] [] (hp_sI (hp_sI w 1800 4363 0) 1852 4363 0) = kx_ex (wm_117 (d + 7) (kx_ev wx_M (d + 7))) (F2' + 1 + 1) 158 [(0, kx_r 9 (some 4363)), (4, kx_i (i32 S.mt.length)), (5, kx_i (kx_b (!(cOff t S.mt).isEmpty))), (6, kx_i (i32 S.mt.length))] [] w2 := g2
          rw [g3, me_117_158]
          unfold mb_117_158
          rw [if_pos (by rw [i32_le (by omega) (by omega)]; omega)]
          cases hcn : cOff t S.mt with
          | nil =>
            rw [hcn] at go
            rw [if_pos (show kx_b (!([] : List kMo).isEmpty) = 0 by rfl)]
            exact go 7 (Or.inr (Or.inr (Or.inr rfl))) (by simp)
          | cons a l =>
            rw [hcn] at go
            rw [if_neg (show ¬ kx_b (!(a :: l).isEmpty) = 0 by simp [kx_b])]
            exact go 4 (Or.inr (Or.inr (Or.inl rfl))) (by simp)
      · rw [if_neg (show ¬ i32 (nRdy S S.mt) ≤ 0 by rw [i32_p0 (by omega)]; omega), if_neg (show ¬ i32 (nRdy S S.mt) = 0 by rw [show (0 : Int32) = i32 0 from rfl, i32_eq (by omega) (by omega)]; exact hz)]
        obtain ⟨ec, eb⟩ := i32_of h1
        have hlt : c.toNatClampNeg % nRdy S S.mt < nRdy S S.mt := Nat.mod_lt _ (by omega)
        have hmod : c - c / i32 (nRdy S S.mt) * i32 (nRdy S S.mt) = i32 (c.toNatClampNeg % nRdy S S.mt) := by
          conv => lhs; rw [ec]
          exact i32_mod eb (by omega) (by omega)
        rw [hmod, hcr]
        obtain ⟨e, he⟩ : ∃ e, (cRdy S)[c.toNatClampNeg % nRdy S S.mt]? = some e := ⟨_, List.getElem?_eq_getElem (by rw [hcr]; exact hlt)⟩
        rw [he]
        have hem := List.mem_of_getElem? he
        obtain ⟨hm1, hm2⟩ := List.mem_filter.mp hem
        obtain ⟨e1q, e2q⟩ := e
        have hk := List.mem_zipIdx hm1
        have hk2 : e2q < S.mt.length := by omega
        have hg : S.mt[e2q]? = some e1q := by
          rw [List.getElem?_eq_getElem hk2]
          congr 1
          exact hk.2.2.symm
        have hem2 := List.mem_of_getElem? hg
        have hrd : isRdy S e1q = true := hm2
        obtain ⟨q, hq, hqe⟩ : ∃ q, q < 512 ∧ e1q.1 = i32 q := by
          rcases V e1q hem2 with h5 | h5
          · exfalso
            unfold isRdy maySend mayRecv at hrd
            rw [h5] at hrd
            split at hrd
            · have := of_decide_eq_true hrd
              exact absurd this.1 (by decide)
            · have := of_decide_eq_true hrd
              exact absurd this.1 (by decide)
          · exact h5
        have hb := M_ch_b (d := d + 3) (mt := S.mt) (e := (e1q, e2q)) M1 (by show S.mo.length ≤ _; omega) (by show S.mv.length ≤ _; omega) hml R1 V (C := kx_ev wx_M (d + 7)) rfl S.mt.length 0 (c.toNatClampNeg % nRdy S S.mt) F' (by omega) (by omega) (by rw [List.drop_zero]; exact he) (by omega)
        have hb' : kx_ex (wm_117 (d + 7) (kx_ev wx_M (d + 7))) F' 88 [(0, kx_r 9 (some 4363)), (5, kx_i (i32 (c.toNatClampNeg % nRdy S S.mt))), (6, kx_i 0)] [] (hp_sI (hp_sI w 1800 4363 0) 1852 4363 0) = (kx_bi (kx_ev wx_M (d + 7) 119 [kx_r 9 (some 4363), kx_i (i32 e2q)] (hp_sI (hp_sI w 1800 4363 0) 1852 4363 0)) fun y5 w4 => if y5 = 0 ∨ y5 = 1 then some (.inl (some (.inl y5)), w4) else none) := hb
        rw [hb']
        have B1 : SB (kS.s_mt ((kS.s_th S (0))) ([])) := I.b.of I.b.cu (fun _ _ => rfl) (List.Sublist.refl _) (List.Sublist.refl _) (List.Sublist.refl _) (List.Sublist.refl _)
        obtain ⟨w2, a2, M2, F2⟩ := M_done (d := d + 3) (k := e2q) (e := e1q) (q := q) (t := t) M1 B1 (by show S.mo.length ≤ _; omega) (by show S.mv.length < _; omega) (by omega) (R1 e2q e1q hg) hq hqe hc
        refine ⟨w2, ?_, And.intro M2 (F1.tr F2)⟩
        rw [a2, bi_n, if_pos (kx_b_ok _)]
end CI
