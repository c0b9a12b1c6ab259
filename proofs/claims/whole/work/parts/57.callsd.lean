/-! the model's calls: gates -/
section CD
variable {w : kx_H} {d n t g k : Nat} {S : kS} {c x : Int32} {v : Int64} {b goes r f : Bool}
theorem M_pass (M : MR w S) (B : SB S) (hc : S.cur = some t) (h0 : stt S t = 0) (hg : g < 256) (hl : SL S k) (hk : k ≤ 512) (ha : SA S) : ∃ w', kx_ev wx_M (d + 8) 127 [kx_r 9 (some 4363), kx_i (kx_b goes), kx_i (i32 g), kx_i (kx_b r), kx_i (kx_b f)] w = some (.inl (some (.inl (kx_b (sPass S t goes g r f).2))), w') ∧ MR w' (sPass S t goes g r f).1 ∧ FM w w' := by
  have ht := B.cu t hc
  have cu := cu_s M hc
  unfold sPass
  cases goes with
  | true =>
    obtain ⟨w1, a1, M1, F1⟩ := M_has (d := d + 6) (t := t) (n := 0) (f := f) (x := -1) (b := false) M ht
    rw [kx_b_f] at a1
    simp only [eq_self, reduceCtorEq, if_true, if_false]
    refine ⟨w1, ?_, And.intro M1 F1⟩
    obtain ⟨ψ, hψ⟩ := kx_fu
    rw [mE_127 hψ]
    unfold mb_127_0
    simp only [ob_s, kx_b_t, cu, a1, bv_n]
    rfl
  | false =>
    have hn := B.nin0 h0
    obtain ⟨w1, a1, M1, F1⟩ := M_stand (d := d + 6) (t := t) (g := g) (b := r) M ht hg (B.sl ht hn.2.2.1)
    have BR := SB.rest (how := 6) (place := i32 g) B hn ht [] [] [(t, g, r)] (by simp) (Or.inl rfl) (Or.inr ⟨g, r, rfl, hg, rfl⟩)
    simp only [List.append_nil] at BR
    obtain ⟨w2, a2, M2, F2⟩ := M_rest (d := d) (k := k) (how := 6) (place := i32 g) (S := (kS.s_sn S (S.sn ++ [(t, g, r)]))) M1 hc ht BR hl hk ha
    simp only [eq_self, reduceCtorEq, if_true, if_false]
    refine ⟨w2, ?_, And.intro M2 (F1.tr F2)⟩
    obtain ⟨ψ, hψ⟩ := kx_fu
    rw [mE_127 hψ]
    unfold mb_127_0
    simp only [ob_s, kx_b_f, if_true, cu, a1, bv_n, a2]
    rfl
theorem un_same (S : kS) (g : Nat) : (sUnlock S g).cur = S.cur ∧ (sUnlock S g).mv = S.mv ∧ (sUnlock S g).me = S.me ∧ (sUnlock S g).mo = S.mo ∧ (sUnlock S g).mt = S.mt ∧ (sUnlock S g).al = S.al := by
  unfold sUnlock
  cases sStg S g 2 <;> exact ⟨rfl, rfl, rfl, rfl, rfl, rfl⟩
theorem stt_lets {e : kMs} (S : kS) (f : Bool) (q : Nat) (h : q ≠ e.1) : stt (sLets S e f) q = stt S q := by
  unfold sLets
  rw [stt_wake, if_neg h, stt_has]
  rfl
theorem stt_held (S : kS) (g : Nat) (x : Int32) (q : Nat) : stt (stHeld S g x) q = stt S q := by
  simp [stt, stHeld, hI_I, kS.th, kS.s_th, kS.cur, kS.s_cur, kS.std, kS.s_std, kS.clk, kS.s_clk, kS.m, kS.s_m, kS.rd, kS.s_rd, kS.rooms, kS.s_rooms, kS.mv, kS.s_mv, kS.mo, kS.s_mo, kS.mt, kS.s_mt, kS.gates, kS.s_gates, kS.sn, kS.s_sn, kS.me, kS.s_me, kS.al, kS.s_al]
theorem un_stt (B : SB S) (h0 : stt S t = 0) : stt (sUnlock S g) t = 0 := by
  unfold sUnlock
  cases h : sStg S g 2 with
  | none => rw [← h0]; exact stt_held S g 0 t
  | some e =>
    show stt (sLets S e true) t = 0
    rw [stt_lets S true t (fun z => ?_)]
    · exact h0
    · have := (B.ss e (sStg_mem h).1).2.2
      rw [← z, h0] at this
      revert this; decide
theorem ga_or (S : kS) (c : Int32) : isGa S c = false ∨ isGa S c = true := by cases isGa S c <;> simp
theorem M_enter (M : MR w S) (I : SI S n) (hn : n < 512) : ∃ w', kx_ev wx_M (d + 9) 126 [kx_r 9 (some 4363), kx_i c] w = some (.inl (some (.inl (kx_b (pEnter S c).2))), w') ∧ MR w' (pEnter S c).1 ∧ FM w w' := by
  obtain ⟨r1808, r1810, r1812, r1814, r1816, r1818, r1820, r1824, r1826, r1828, r1830, r1836, r1838, r1842, r1844, r1846, r1848, r1850, r1854, r1856, r1858, r1862, r1864, r1866, r1870, r1872, r1874, r1878, r1880, n4364, n4365, n4366, n4367, n4368, n4369, n4370, n4371, n4372, n4373, n4374, n4375, n4376, n4377, n4378, n4379, n4380, n4381, n4382, n4383, n4384, n4385, n4386, n4387, n4388, n4389, n4390, n4391, n4392⟩ := id M.sh
  obtain ⟨M0, F0⟩ := M_th (x := 0) M
  have ch := M_isGa (d := d + 7) (x := c) M0
  have ch' : isGa (sTh S 0) c = isGa S c := rfl
  rw [ch'] at ch
  have hgl := I.gl
  unfold pEnter
  rcases ga_or S c with hA | hA
  · rw [if_pos hA]
    obtain ⟨w1, a1, M1, F1⟩ := M_no (d := d + 7) (x := 1) M0
    refine ⟨w1, ?_, And.intro M1 (F0.tr F1)⟩
    obtain ⟨ψ, hψ⟩ := kx_fu
    rw [mE_126 hψ]
    unfold mb_126_0
    rw [hA] at ch
    simp only [ob_s, ch, bi_n, kx_b_f, if_true, a1]
    rfl
  · rw [if_neg (by rw [hA]; simp)]
    obtain ⟨g, hg, rfl⟩ := isGa_t hgl hA
    rw [hA] at ch
    obtain ⟨ψ, hψ⟩ := kx_fu
    rw [mE_126 hψ]
    unfold mb_126_0
    rcases cur_or S with hc | ⟨t, hc⟩
    · obtain ⟨w1, a1, M1, F1⟩ := M_no (d := d + 7) (x := 2) M0
      rw [hc]
      refine ⟨w1, ?_, And.intro M1 (F0.tr F1)⟩
      simp only [ob_s, ch, bi_n, kx_b_t, cu_n M0 hc, a1]
      rfl
    · have ht := I.b.cu t hc
      have h0 := I.cs t hc
      rw [hc]
      have hnat := i32_nat (n := g) (by omega)
      have hneg := i32_neg (n := g) (by omega)
      have hgk : (256 ≤ g) = False := by simp; omega
      have ak : hp_I w 8771 g = sKind S g := M.ag.I 8771 (by decide) g
      have ah : hp_I w 8773 g = sHeld S g := M.ag.I 8773 (by decide) g
      have aL : hp_I w 8775 g = sLock S g := M.ag.I 8775 (by decide) g
      have ge := i32_ge (n := t) (by omega)
      simp only [hnat, ob_s, ch, bi_n, kx_b_t, cu_s M0 hc, ge, if_true, if_neg (show ¬ (1 : Int32) = 0 by decide), ob_s, hR_I, hR_L, hR_B, hN_I, hN_L, hN_B, r1808, r1810, r1812, r1814, r1816, r1818, r1820, r1824, r1826, r1828, r1830, r1836, r1838, r1842, r1844, r1846, r1848, r1850, r1854, r1856, r1858, r1862, r1864, r1866, r1870, r1872, r1874, r1878, r1880, n4364, n4365, n4366, n4367, n4368, n4369, n4370, n4371, n4372, n4373, n4374, n4375, n4376, n4377, n4378, n4379, n4380, n4381, n4382, n4383, n4384, n4385, n4386, n4387, n4388, n4389, n4390, n4391, n4392, Nat.reduceMul, Nat.reduceAdd, Nat.reduceEqDiff, false_and, if_false, hneg, hgk, or_self, hI_I, ak, ah, aL, me_126_93, mb_126_93, me_126_111, mb_126_111, me_126_121, mb_126_121, me_126_138, mb_126_138]
      have sl : ∀ T : kS, T.mv = S.mv → T.me = S.me → T.mo = S.mo → T.mt = S.mt → SL T n := fun T e1 e2 e3 e4 => ⟨by rw [e1, e2]; exact I.l.1, by rw [e3, e4]; exact I.l.2⟩
      have pass : ∀ (w1 : kx_H) (T : kS) (goes fl : Bool), MR w1 T → FM w w1 → SB T → T.cur = some t → stt T t = 0 → SL T n → SA T → ∃ w', (kx_bi (kx_ev wx_M (d + 8) 127 [kx_r 9 (some 4363), kx_i (kx_b goes), kx_i (i32 g), kx_i 0, kx_i (kx_b fl)] w1) fun y2 w1 => if y2 = 0 ∨ y2 = 1 then some (.inl (some (.inl y2)), w1) else none) = some (.inl (some (.inl (kx_b (sPass T t goes g false fl).2))), w') ∧ MR w' (sPass T t goes g false fl).1 ∧ FM w w' := by
        intro w1 T goes fl M1 F1 B1 c1 s1 l1 a1
        obtain ⟨w2, a2, M2, F2⟩ := M_pass (d := d) (k := n) (g := g) (goes := goes) (r := false) (f := fl) M1 B1 c1 s1 (by omega) l1 (by omega) a1
        rw [kx_b_f] at a2
        refine ⟨w2, ?_, And.intro M2 (F1.tr F2)⟩
        rw [a2, bi_n, if_pos (kx_b_ok _)]
      by_cases k0 : sKind S g = 0
      · rw [if_pos k0, if_pos k0]
        obtain ⟨M1, F1⟩ := M_held1 (x := 1) M0 (g := g) (by omega)
        have p := fun q => pass _ (stHeld (sTh S 0) g 1) q true M1 (F0.tr F1) (SB.held (SB.th I.b)) hc ((stt_held _ _ _ _).trans h0) (sl _ rfl rfl rfl rfl) I.a
        by_cases hh : sHeld S g = 0
        · rw [if_pos hh, show decide (sHeld S g = 0) = true from decide_eq_true hh]
          exact p true
        · rw [if_neg hh, show decide (sHeld S g = 0) = false from decide_eq_false hh]
          exact p false
      · rw [if_neg k0, if_neg k0]
        by_cases k1 : sKind S g = 1
        · rw [if_pos k1, if_pos k1]
          obtain ⟨M1, F1⟩ := M_held1 (x := -1) M0 (g := g) (by omega)
          by_cases hh : sHeld S g = 0
          · simp only [hh, if_true, show decide ((0 : Int32) = 0) = true from rfl]
            exact pass _ (stHeld (sTh S 0) g (-1)) true true M1 (F0.tr F1) (SB.held (SB.th I.b)) hc ((stt_held _ _ _ _).trans h0) (sl _ rfl rfl rfl rfl) I.a
          · simp only [if_neg hh, show decide (sHeld S g = 0) = false from decide_eq_false hh]
            exact pass _ (sTh S 0) false true M0 F0 (SB.th I.b) hc h0 (sl _ rfl rfl rfl rfl) I.a
        · rw [if_neg k1, if_neg k1]
          by_cases k2 : sKind S g = 2
          · rw [if_pos k2, if_pos k2]
            have p := fun q => pass _ (sTh S 0) q true M0 F0 (SB.th I.b) hc h0 (sl _ rfl rfl rfl rfl) I.a
            by_cases hh : sHeld S g = 0
            · rw [if_pos hh, show decide (sHeld S g = 0) = true from decide_eq_true hh]
              exact p true
            · rw [if_neg hh, show decide (sHeld S g = 0) = false from decide_eq_false hh]
              exact p false
          · rw [if_neg k2, if_neg k2]
            by_cases k3 : sKind S g = 3
            · rw [if_pos k3, if_pos k3]
              obtain ⟨l, l1, l2, l3⟩ := I.lk g hg k3
              have hl4 : (i32 l).toNatClampNeg = l := i32_nat (by omega)
              have hlk : (256 ≤ l) = False := by simp; omega
              have ahl : hp_I w 8773 l = sHeld S l := M.ag.I 8773 (by decide) l
              rw [l2, hl4]
              simp only [i32_neg (n := l) (by omega), hlk, or_self, if_false, ahl]
              by_cases hh : sHeld S l = 0
              · rw [if_pos hh, if_pos hh]
                obtain ⟨w1, a1, M1, F1⟩ := M_no (d := d + 7) (x := 3) M0
                refine ⟨w1, ?_, And.intro M1 (F0.tr F1)⟩
                simp only [a1, bi_n]
                rfl
              · rw [if_neg hh, if_neg hh]
                obtain ⟨w1, a1, M1, F1⟩ := M_unlock (d := d + 5) (g := l) M0 (SB.th I.b) (by omega)
                obtain ⟨u1, u2, u3, u4, u5, u6⟩ := un_same (sTh S 0) l
                have a := I.a
                obtain ⟨w2, a2, M2, F2⟩ := pass w1 (sUnlock (sTh S 0) l) false true M1 (F0.tr F1) (SB.unlock (SB.th I.b)) (u1.trans hc) (un_stt (SB.th I.b) h0) (sl _ u2 u3 u4 u5) (by unfold SA; rw [u6, u3]; exact a)
                refine ⟨w2, ?_, And.intro M2 F2⟩
                rw [kx_b_f, kx_b_t] at a2
                rw [a1, bv_n]
                exact a2
            · rw [if_neg k3, if_neg k3]
              simp only [me_126_198, mb_126_198, me_126_210, mb_126_210, me_126_221, mb_126_221, ob_s, hR_I, hR_L, hR_B, hN_I, hN_L, hN_B, r1808, r1810, r1812, r1814, r1816, r1818, r1820, r1824, r1826, r1828, r1830, r1836, r1838, r1842, r1844, r1846, r1848, r1850, r1854, r1856, r1858, r1862, r1864, r1866, r1870, r1872, r1874, r1878, r1880, n4364, n4365, n4366, n4367, n4368, n4369, n4370, n4371, n4372, n4373, n4374, n4375, n4376, n4377, n4378, n4379, n4380, n4381, n4382, n4383, n4384, n4385, n4386, n4387, n4388, n4389, n4390, n4391, n4392, Nat.reduceMul, Nat.reduceAdd, Nat.reduceEqDiff, false_and, if_false, hneg, hnat, hgk, or_self]
              obtain ⟨M1, F1⟩ := M_held1 (x := if sHeld S g = 0 then 1 else sHeld S g) M0 (g := g) (by omega)
              have p := fun q fl => pass _ (stHeld (sTh S 0) g (if sHeld S g = 0 then 1 else sHeld S g)) q fl M1 (F0.tr F1) (SB.held (SB.th I.b)) hc ((stt_held _ _ _ _).trans h0) (sl _ rfl rfl rfl rfl) I.a
              by_cases hh : sHeld S g = 0
              · have p1 := p true true
                rw [show decide (sHeld S g ≠ 1) = true from decide_eq_true (by rw [hh]; decide), show decide (sHeld S g = 0) = true from decide_eq_true hh]
                simp only [hh, if_true, if_neg (show ¬ (0 : Int32) = 1 by decide)] at p1 ⊢
                exact p1
              · rw [show decide (sHeld S g = 0) = false from decide_eq_false hh]
                by_cases h1 : sHeld S g = 1
                · have p1 := p false false
                  rw [show decide (sHeld S g ≠ 1) = false from decide_eq_false (by rw [h1]; simp)]
                  simp only [h1, if_true, if_neg (show ¬ (1 : Int32) = 0 by decide)] at p1 ⊢
                  exact p1
                · have p1 := p true false
                  rw [show decide (sHeld S g ≠ 1) = true from decide_eq_true h1]
                  simp only [if_neg hh, if_neg h1] at p1 ⊢
                  exact p1
theorem M_read (M : MR w S) (I : SI S n) (hn : n < 512) : ∃ w', kx_ev wx_M (d + 9) 133 [kx_r 9 (some 4363), kx_i c] w = some (.inl (some (.inl (kx_b (pRead S c).2))), w') ∧ MR w' (pRead S c).1 ∧ FM w w' := by
  obtain ⟨r1808, r1810, r1812, r1814, r1816, r1818, r1820, r1824, r1826, r1828, r1830, r1836, r1838, r1842, r1844, r1846, r1848, r1850, r1854, r1856, r1858, r1862, r1864, r1866, r1870, r1872, r1874, r1878, r1880, n4364, n4365, n4366, n4367, n4368, n4369, n4370, n4371, n4372, n4373, n4374, n4375, n4376, n4377, n4378, n4379, n4380, n4381, n4382, n4383, n4384, n4385, n4386, n4387, n4388, n4389, n4390, n4391, n4392⟩ := id M.sh
  obtain ⟨M0, F0⟩ := M_th (x := 0) M
  have ch := M_isGa (d := d + 7) (x := c) M0
  have ch' : isGa (sTh S 0) c = isGa S c := rfl
  rw [ch'] at ch
  have hgl := I.gl
  have hsl := I.b.sl2
  obtain ⟨w1, a1, M1, F1⟩ := M_no (d := d + 7) (x := 1) M0
  unfold pRead
  rcases ga_or S c with hA | hA
  · rw [if_pos (Or.inl hA)]
    refine ⟨w1, ?_, And.intro M1 (F0.tr F1)⟩
    obtain ⟨ψ, hψ⟩ := kx_fu
    rw [mE_133 hψ]
    unfold mb_133_0
    rw [hA] at ch
    simp only [ob_s, ch, bi_n, kx_b_f, if_true, me_133_23, mb_133_23, a1]
    rfl
  · obtain ⟨g, hg, rfl⟩ := isGa_t hgl hA
    rw [hA] at ch
    obtain ⟨ψ, hψ⟩ := kx_fu
    rw [mE_133 hψ]
    unfold mb_133_0
    have hnat := i32_nat (n := g) (by omega)
    have hneg := i32_neg (n := g) (by omega)
    have hgk : (256 ≤ g) = False := by simp; omega
    have ak : hp_I w 8771 g = sKind S g := M.ag.I 8771 (by decide) g
    have ah : hp_I w 8773 g = sHeld S g := M.ag.I 8773 (by decide) g
    simp only [hnat, ob_s, ch, bi_n, kx_b_t, if_neg (show ¬ (1 : Int32) = 0 by decide), ob_s, hR_I, hR_L, hR_B, hN_I, hN_L, hN_B, r1808, r1810, r1812, r1814, r1816, r1818, r1820, r1824, r1826, r1828, r1830, r1836, r1838, r1842, r1844, r1846, r1848, r1850, r1854, r1856, r1858, r1862, r1864, r1866, r1870, r1872, r1874, r1878, r1880, n4364, n4365, n4366, n4367, n4368, n4369, n4370, n4371, n4372, n4373, n4374, n4375, n4376, n4377, n4378, n4379, n4380, n4381, n4382, n4383, n4384, n4385, n4386, n4387, n4388, n4389, n4390, n4391, n4392, Nat.reduceMul, Nat.reduceAdd, Nat.reduceEqDiff, false_and, if_false, hneg, hgk, or_self, hI_I, ak, ah, me_133_23, mb_133_23, a1]
    by_cases k1 : sKind S g = 1
    · rw [if_pos k1, if_neg (show ¬ (isGa S (i32 g) = false ∨ sKind S g ≠ 1) by rw [hA, k1]; simp)]
      rcases cur_or S with hc | ⟨t, hc⟩
      · obtain ⟨w1, a1, M1, F1⟩ := M_no (d := d + 7) (x := 2) M0
        have cu := cu_n M hc
        rw [hc]
        refine ⟨w1, ?_, And.intro M1 (F0.tr F1)⟩
        simp only [cu, if_neg (show ¬ (0 : Int32) ≤ -1 by decide), a1, bi_n]
        rfl
      · have ht := I.b.cu t hc
        have h0 := I.cs t hc
        have cu := cu_s M hc
        rw [hc]
        simp only [cu, i32_ge (n := t) (by omega), if_true]
        have a0 := M_stg (d := d + 7) (x := 0) M0 hsl (g := g) (by omega)
        have e0 : S.sn.findIdx? (gAt g 0) = (sTh S 0).sn.findIdx? (gAt g 0) := rfl
        have p := fun w1 (T : kS) goes M1 (F1 : FM w w1) => (fun B1 c1 s1 l1 a1 => by
          obtain ⟨w2, a2, M2, F2⟩ := M_pass (d := d) (k := n) (g := g) (goes := goes) (r := true) (f := true) (w := w1) (S := T) M1 B1 c1 s1 (by omega) l1 (by omega) a1
          rw [kx_b_t] at a2
          exact ⟨w2, a2, M2, F1.tr F2⟩ : SB T → T.cur = some t → stt T t = 0 → SL T n → SA T → ∃ w', kx_ev wx_M (d + 8) 127 [kx_r 9 (some 4363), kx_i (kx_b goes), kx_i (i32 g), kx_i 1, kx_i 1] w1 = some (.inl (some (.inl (kx_b (sPass T t goes g true true).2))), w') ∧ MR w' (sPass T t goes g true true).1 ∧ FM w w')
        by_cases hh : sHeld S g < 0
        · rw [if_pos hh, if_neg (show ¬ (0 ≤ sHeld S g ∧ sStg S g 0 = none) by
            rintro ⟨h1, -⟩
            rw [← nlt_le] at h1
            exact h1 hh)]
          obtain ⟨w2, a2, M2, F2⟩ := p _ (sTh S 0) false M0 F0 (SB.th I.b) hc h0 I.l I.a
          rw [kx_b_f] at a2
          refine ⟨w2, ?_, And.intro M2 F2⟩
          simp only [me_133_64, mb_133_64, me_133_65, mb_133_65, if_true, me_133_80, mb_133_80, ob_s, a2, bi_n]
          rfl
        · rw [if_neg hh]
          have hge : 0 ≤ sHeld S g := by rw [← nlt_le]; exact hh
          rw [a0, bi_n]
          simp only [fidx_p ((sTh S 0).sn.findIdx? (gAt g 0)) (fun k hk => by have := fi_lt (p := gAt g 0) (N := 256) (l := (sTh S 0).sn) hsl hk; omega), fi_is]
          cases hs : sStg S g 0 with
          | some e =>
            have hs' : ((sTh S 0).sn.find? (gAt g 0)).isSome = true := by
              show (sStg S g 0).isSome = true
              rw [hs]; rfl
            rw [if_neg (show ¬ (0 ≤ sHeld S g ∧ some e = none) by simp)]
            obtain ⟨w2, a2, M2, F2⟩ := p _ (sTh S 0) false M0 F0 (SB.th I.b) hc h0 I.l I.a
            rw [kx_b_f] at a2
            refine ⟨w2, ?_, And.intro M2 F2⟩
            simp only [hs', if_true, me_133_64, mb_133_64, me_133_65, mb_133_65, me_133_80, mb_133_80, ob_s, a2, bi_n]
            rfl
          | none =>
            have hs' : ((sTh S 0).sn.find? (gAt g 0)).isSome = false := by
              show (sStg S g 0).isSome = false
              rw [hs]; rfl
            rw [if_pos (show 0 ≤ sHeld S g ∧ (none : Option kMs) = none from ⟨hge, rfl⟩)]
            obtain ⟨M3, F3⟩ := M_held1 (x := sHeld S g + 1) M0 (g := g) (by omega)
            obtain ⟨w2, a2, M2, F2⟩ := p _ (stHeld (sTh S 0) g (sHeld S g + 1)) true M3 (F0.tr F3) (SB.held (SB.th I.b)) hc ((stt_held _ _ _ _).trans h0) I.l I.a
            rw [kx_b_t] at a2
            refine ⟨w2, ?_, And.intro M2 F2⟩
            simp only [hs', reduceCtorEq, if_false, me_133_65, mb_133_65, if_neg (show ¬ (1 : Int32) = 0 by decide), ob_s, hR_I, hR_L, hR_B, hN_I, hN_L, hN_B, r1808, r1810, r1812, r1814, r1816, r1818, r1820, r1824, r1826, r1828, r1830, r1836, r1838, r1842, r1844, r1846, r1848, r1850, r1854, r1856, r1858, r1862, r1864, r1866, r1870, r1872, r1874, r1878, r1880, n4364, n4365, n4366, n4367, n4368, n4369, n4370, n4371, n4372, n4373, n4374, n4375, n4376, n4377, n4378, n4379, n4380, n4381, n4382, n4383, n4384, n4385, n4386, n4387, n4388, n4389, n4390, n4391, n4392, Nat.reduceMul, Nat.reduceAdd, Nat.reduceEqDiff, false_and, if_false, hneg, hnat, hgk, or_self, hI_I, ah, me_133_80, mb_133_80, a2, bi_n]
            rfl
    · rw [if_neg k1, if_pos (show isGa S (i32 g) = false ∨ sKind S g ≠ 1 from Or.inr k1)]
      exact ⟨w1, rfl, And.intro M1 (F0.tr F1)⟩
theorem M_leave (M : MR w S) (I : SI S n) (hn : n < 512) : ∃ w', kx_ev wx_M (d + 9) 134 [kx_r 9 (some 4363), kx_i c] w = some (.inl none, w') ∧ MR w' (pLeave S c) ∧ FM w w' := by
  obtain ⟨r1808, r1810, r1812, r1814, r1816, r1818, r1820, r1824, r1826, r1828, r1830, r1836, r1838, r1842, r1844, r1846, r1848, r1850, r1854, r1856, r1858, r1862, r1864, r1866, r1870, r1872, r1874, r1878, r1880, n4364, n4365, n4366, n4367, n4368, n4369, n4370, n4371, n4372, n4373, n4374, n4375, n4376, n4377, n4378, n4379, n4380, n4381, n4382, n4383, n4384, n4385, n4386, n4387, n4388, n4389, n4390, n4391, n4392⟩ := id M.sh
  have ch := M_isGa (d := d + 7) (x := c) M
  have hgl := I.gl
  have bad : ∀ (e : Int32), e = 1 ∨ e = 2 → ∀ f, ∃ w', kx_ex (wm_134 (d + 8) (kx_ev wx_M (d + 8))) (f + 1) 25 [(0, kx_r 9 (some 4363)), (1, kx_i c)] [kx_i e, kx_r 9 (some 4363)] w = some (.inl none, w') ∧ MR w' (sTh S e) ∧ FM w w' := by
    intro e he f
    obtain ⟨M1, F1⟩ := M_th (x := e) M
    refine ⟨_, ?_, And.intro M1 F1⟩
    rw [me_134_25]
    unfold mb_134_25
    have e1 : hp_I (hp_sI w 1800 4363 e) 1800 4363 = e := by simp [hI_I]
    simp only [ob_s, e1]
    rcases he with rfl | rfl
    · rw [if_neg (by decide)]
    · rw [if_neg (by decide)]
  unfold pLeave
  rcases ga_or S c with hA | hA
  · rw [if_pos hA]
    obtain ⟨ψ, hψ⟩ := kx_fu
    rw [mE_134 hψ]
    unfold mb_134_0
    rw [hA] at ch
    simp only [ob_s, ch, bi_n, kx_b_f, if_true]
    exact bad 1 (Or.inl rfl) _
  · rw [if_neg (by rw [hA]; simp)]
    obtain ⟨g, hg, rfl⟩ := isGa_t hgl hA
    rw [hA] at ch
    obtain ⟨ψ, hψ⟩ := kx_fu
    rw [mE_134 hψ]
    unfold mb_134_0
    simp only [ob_s, ch, bi_n, kx_b_t, if_neg (show ¬ (1 : Int32) = 0 by decide)]
    rcases cur_or S with hc | ⟨t, hc⟩
    · rw [if_pos hc, cu_n M hc, if_neg (show ¬ (0 : Int32) ≤ -1 by decide)]
      exact bad 2 (Or.inr rfl) _
    · have ht := I.b.cu t hc
      rw [if_neg (show ¬ S.cur = none by rw [hc]; simp), cu_s M hc, if_pos (show (0 : Int32) ≤ i32 t by rw [i32_ge (by omega)]; trivial)]
      have hnat := i32_nat (n := g) (by omega)
      have hneg := i32_neg (n := g) (by omega)
      have hgk : (256 ≤ g) = False := by simp; omega
      have ak : hp_I w 8771 g = sKind S g := M.ag.I 8771 (by decide) g
      have ah : hp_I w 8773 g = sHeld S g := M.ag.I 8773 (by decide) g
      obtain ⟨M0, F0⟩ := M_th (x := 0) M
      obtain ⟨M3, F3⟩ := M_th (x := 3) M0
      rw [me_134_25]
      unfold mb_134_25
      have e1 : hp_I (hp_sI w 1800 4363 0) 1800 4363 = 0 := by simp [hI_I]
      simp only [hnat, ob_s, e1, if_pos (show (0 : Int32) ≤ 0 by decide)]
      simp only [ob_s, hR_I, hR_L, hR_B, hN_I, hN_L, hN_B, r1808, r1810, r1812, r1814, r1816, r1818, r1820, r1824, r1826, r1828, r1830, r1836, r1838, r1842, r1844, r1846, r1848, r1850, r1854, r1856, r1858, r1862, r1864, r1866, r1870, r1872, r1874, r1878, r1880, n4364, n4365, n4366, n4367, n4368, n4369, n4370, n4371, n4372, n4373, n4374, n4375, n4376, n4377, n4378, n4379, n4380, n4381, n4382, n4383, n4384, n4385, n4386, n4387, n4388, n4389, n4390, n4391, n4392, Nat.reduceMul, Nat.reduceAdd, Nat.reduceEqDiff, false_and, if_false, hneg, hgk, or_self, hI_I, ak, ah, me_134_84, mb_134_84]
      have go : ∀ f, ∃ w', kx_ex (wm_134 (d + 8) (kx_ev wx_M (d + 8))) (f + 1 + 1) 90 [(0, kx_r 9 (some 4363)), (1, kx_i (i32 g)), (3, kx_i (sKind S g))] [] (hp_sI w 1800 4363 0) = some (.inl none, w') ∧ MR w' (if sKind S g = 0 then sUnlock (sTh S 0) g else if sKind S g = 1 then sLetR (sTh S 0) g else if sKind S g = 2 then sGrow (sTh S 0) g (-1) else if sKind S g = 3 then sSignal (sTh S 0) g else sLetAll (stHeld (sTh S 0) g 2) g 2 false) ∧ FM w w' := by
        intro f
        rw [me_134_90]
        unfold mb_134_90
        simp only [me_134_155, mb_134_155]
        by_cases k0 : sKind S g = 0
        · rw [if_pos k0, if_pos k0]
          obtain ⟨w1, a1, M1, F1⟩ := M_unlock (d := d + 5) (g := g) M0 (SB.th I.b) (by omega)
          refine ⟨w1, ?_, And.intro M1 (F0.tr F1)⟩
          simp only [ob_s, a1, bv_n]
        · rw [if_neg k0, if_neg k0]
          by_cases k1 : sKind S g = 1
          · rw [if_pos k1, if_pos k1]
            obtain ⟨w1, a1, M1, F1⟩ := M_letR (d := d + 4) (g := g) M0 (SB.th I.b) (by omega)
            refine ⟨w1, ?_, And.intro M1 (F0.tr F1)⟩
            simp only [ob_s, a1, bv_n]
          · rw [if_neg k1, if_neg k1]
            by_cases k2 : sKind S g = 2
            · rw [if_pos k2, if_pos k2]
              obtain ⟨w1, a1, M1, F1⟩ := M_grow (d := d + 4) (g := g) (x := -1) M0 (SB.th I.b) (by omega)
              refine ⟨w1, ?_, And.intro M1 (F0.tr F1)⟩
              simp only [ob_s, a1, bv_n]
            · rw [if_neg k2, if_neg k2]
              by_cases k3 : sKind S g = 3
              · rw [if_pos k3, if_pos k3]
                obtain ⟨l, l1, l2, l3⟩ := I.lk g hg k3
                obtain ⟨w1, a1, M1, F1⟩ := M_signal (d := d + 5) (g := g) (l := l) M0 (SB.th I.b) (by omega) l2 (by omega)
                refine ⟨w1, ?_, And.intro M1 (F0.tr F1)⟩
                simp only [ob_s, a1, bv_n]
              · rw [if_neg k3, if_neg k3]
                obtain ⟨M1, F1⟩ := M_held1 (x := 2) M0 (g := g) (by omega)
                obtain ⟨w2, a2, M2, F2⟩ := M_letAll (d := d + 5) (f := false) M1 (SB.held (SB.th I.b)) (g := g) (by omega)
                rw [kx_b_f] at a2
                refine ⟨w2, ?_, And.intro M2 ((F0.tr F1).tr F2)⟩
                simp only [ob_s, hR_I, hR_L, hR_B, hN_I, hN_L, hN_B, r1808, r1810, r1812, r1814, r1816, r1818, r1820, r1824, r1826, r1828, r1830, r1836, r1838, r1842, r1844, r1846, r1848, r1850, r1854, r1856, r1858, r1862, r1864, r1866, r1870, r1872, r1874, r1878, r1880, n4364, n4365, n4366, n4367, n4368, n4369, n4370, n4371, n4372, n4373, n4374, n4375, n4376, n4377, n4378, n4379, n4380, n4381, n4382, n4383, n4384, n4385, n4386, n4387, n4388, n4389, n4390, n4391, n4392, Nat.reduceMul, Nat.reduceAdd, Nat.reduceEqDiff, false_and, if_false, hnat, hneg, hgk, or_self, a2, bv_n]
      by_cases k1 : sKind S g = 1
      · rw [if_pos k1]
        by_cases hh : sHeld S g < 0
        · rw [if_pos hh, if_neg (show ¬ (if sKind S g = 1 then 0 ≤ sHeld S g else if sKind S g = 4 then sHeld S g ≠ 1 else sKind S g ≠ 3 ∧ sHeld S g = 0) by rw [if_pos k1, ← nlt_le]; exact not_not_intro hh)]
          exact go _
        · rw [if_neg hh, if_pos (show (if sKind S g = 1 then 0 ≤ sHeld S g else if sKind S g = 4 then sHeld S g ≠ 1 else sKind S g ≠ 3 ∧ sHeld S g = 0) by rw [if_pos k1, ← nlt_le]; exact hh)]
          exact ⟨_, rfl, And.intro M3 (F0.tr F3)⟩
      · rw [if_neg k1]
        by_cases k4 : sKind S g = 4
        · rw [if_pos k4]
          by_cases hh : sHeld S g = 1
          · rw [if_pos hh, if_neg (show ¬ (if sKind S g = 1 then 0 ≤ sHeld S g else if sKind S g = 4 then sHeld S g ≠ 1 else sKind S g ≠ 3 ∧ sHeld S g = 0) by rw [if_neg k1, if_pos k4]; exact not_not_intro hh)]
            exact go _
          · rw [if_neg hh, if_pos (show (if sKind S g = 1 then 0 ≤ sHeld S g else if sKind S g = 4 then sHeld S g ≠ 1 else sKind S g ≠ 3 ∧ sHeld S g = 0) by rw [if_neg k1, if_pos k4]; exact hh)]
            exact ⟨_, rfl, And.intro M3 (F0.tr F3)⟩
        · rw [if_neg k4]
          by_cases k3 : sKind S g = 3
          · rw [if_pos k3, if_neg (show ¬ (if sKind S g = 1 then 0 ≤ sHeld S g else if sKind S g = 4 then sHeld S g ≠ 1 else sKind S g ≠ 3 ∧ sHeld S g = 0) by rw [if_neg k1, if_neg k4]; exact fun h => h.1 k3)]
            exact go _
          · rw [if_neg k3]
            by_cases hh : sHeld S g = 0
            · rw [if_pos hh, if_pos (show (if sKind S g = 1 then 0 ≤ sHeld S g else if sKind S g = 4 then sHeld S g ≠ 1 else sKind S g ≠ 3 ∧ sHeld S g = 0) by rw [if_neg k1, if_neg k4]; exact ⟨k3, hh⟩)]
              exact ⟨_, rfl, And.intro M3 (F0.tr F3)⟩
            · rw [if_neg hh, if_neg (show ¬ (if sKind S g = 1 then 0 ≤ sHeld S g else if sKind S g = 4 then sHeld S g ≠ 1 else sKind S g ≠ 3 ∧ sHeld S g = 0) by rw [if_neg k1, if_neg k4]; exact fun h => hh h.2)]
              exact go _
theorem sg_lock (S : kS) (g q : Nat) : sLock (sSignal S g) q = sLock S q := by
  unfold sSignal
  cases sStg S g 2 with
  | none => rfl
  | some e =>
    show sLock (if _ then _ else _) q = _
    split
    · simp [sLock, sLets, sWake, sHas, sOut, stHeld, hI_I, hI_B, hI_L, kS.th, kS.s_th, kS.cur, kS.s_cur, kS.std, kS.s_std, kS.clk, kS.s_clk, kS.m, kS.s_m, kS.rd, kS.s_rd, kS.rooms, kS.s_rooms, kS.mv, kS.s_mv, kS.mo, kS.s_mo, kS.mt, kS.s_mt, kS.gates, kS.s_gates, kS.sn, kS.s_sn, kS.me, kS.s_me, kS.al, kS.s_al]
    · simp [sLock, sOut, hI_I, kS.th, kS.s_th, kS.cur, kS.s_cur, kS.std, kS.s_std, kS.clk, kS.s_clk, kS.m, kS.s_m, kS.rd, kS.s_rd, kS.rooms, kS.s_rooms, kS.mv, kS.s_mv, kS.mo, kS.s_mo, kS.mt, kS.s_mt, kS.gates, kS.s_gates, kS.sn, kS.s_sn, kS.me, kS.s_me, kS.al, kS.s_al]
theorem M_sigs_l {C : kx_C} (hC : C = kx_ev wx_M (d + 8)) {g l : Nat} (hg : g < 256) (hl : l < 256) {m : Nat} (hm : m < 1000) : ∀ n j F w (S : kS), MR w S → SB S → sLock S g = i32 l → j + n = m → n + 2 ≤ F →
    ∃ w', kx_ex (wm_140 (d + 8) C) F 181 [(0, kx_r 9 (some 4363)), (1, kx_i (i32 g)), (5, kx_i (i32 m)), (6, kx_i (i32 j))] [] w = some (.inl none, w') ∧ MR w' (sSigs n S g) ∧ FM w w' := by
  intro n
  induction n with
  | zero =>
    intro j F w S M B hL hj hF
    obtain ⟨F, rfl⟩ : ∃ f', F = f' + 1 + 1 := ⟨F - 2, by omega⟩
    refine ⟨w, ?_, And.intro M FM.rf⟩
    rw [me_140_181]
    unfold mb_140_181
    rw [if_pos (by rw [i32_le (by omega) (by omega)]; omega), me_140_199]
    unfold mb_140_199
    rfl
  | succ n ih =>
    intro j F w S M B hL hj hF
    obtain ⟨F, rfl⟩ : ∃ f', F = f' + 1 := ⟨F - 1, by omega⟩
    obtain ⟨w1, a1, M1, F1⟩ := M_signal (d := d + 5) (g := g) (l := l) M B hg hL hl
    obtain ⟨w', r1, r2, r3⟩ := ih (j + 1) F w1 (sSignal S g) M1 (B.signal (by rw [hL, i32_nat (by omega)]; exact hl)) (by rw [sg_lock]; exact hL) (by omega) (by omega)
    refine ⟨w', ?_, And.intro r2 (F1.tr r3)⟩
    rw [me_140_181]
    unfold mb_140_181
    rw [if_neg (by rw [i32_le (by omega) (by omega)]; omega)]
    rw [← hC] at a1
    simp only [ob_s, a1, bv_n, i32_add1]
    exact r1
theorem M_change (M : MR w S) (I : SI S n) (hn : n < 512) (hk5 : ∀ g, g < S.gates → sKind S g = 0 ∨ sKind S g = 1 ∨ sKind S g = 2 ∨ sKind S g = 3 ∨ sKind S g = 4) : ∃ w', kx_ev wx_M (d + 9) 140 [kx_r 9 (some 4363), kx_i c, kx_i x] w = some (.inl none, w') ∧ MR w' (pChange S c x) ∧ FM w w' := by
  obtain ⟨r1808, r1810, r1812, r1814, r1816, r1818, r1820, r1824, r1826, r1828, r1830, r1836, r1838, r1842, r1844, r1846, r1848, r1850, r1854, r1856, r1858, r1862, r1864, r1866, r1870, r1872, r1874, r1878, r1880, n4364, n4365, n4366, n4367, n4368, n4369, n4370, n4371, n4372, n4373, n4374, n4375, n4376, n4377, n4378, n4379, n4380, n4381, n4382, n4383, n4384, n4385, n4386, n4387, n4388, n4389, n4390, n4391, n4392⟩ := id M.sh
  have ch := M_isGa (d := d + 7) (x := c) M
  have hgl := I.gl
  have hsl := I.b.sl2
  have bad : ∀ (e : Int32), e = 1 ∨ e = 2 → ∀ f, ∃ w', kx_ex (wm_140 (d + 8) (kx_ev wx_M (d + 8))) (f + 1) 44 [(0, kx_r 9 (some 4363)), (1, kx_i c), (2, kx_i x)] [kx_i e, kx_r 9 (some 4363)] w = some (.inl none, w') ∧ MR w' (sTh S e) ∧ FM w w' := by
    intro e he f
    obtain ⟨M1, F1⟩ := M_th (x := e) M
    refine ⟨_, ?_, And.intro M1 F1⟩
    rw [me_140_44]
    unfold mb_140_44
    have e1 : hp_I (hp_sI w 1800 4363 e) 1800 4363 = e := by simp [hI_I]
    simp only [ob_s, e1]
    rcases he with rfl | rfl
    · rw [if_neg (by decide)]
    · rw [if_neg (by decide)]
  obtain ⟨ψ, hψ⟩ := kx_fl 5000 (by omega)
  obtain ⟨φ, h600, hφ⟩ : ∃ φ, 600 ≤ φ ∧ ψ + 5000 = φ + 1 + 1 + 1 + 1 + 1 := ⟨ψ + 4995, by omega, by omega⟩
  rw [mE_140 hψ, hφ]
  unfold mb_140_0 pChange
  rcases ga_or S c with hA | hA
  · rw [if_pos (show isGa S c = false ∨ sKind S c.toNatClampNeg = 0 ∨ sKind S c.toNatClampNeg = 4 from Or.inl hA)]
    rw [hA] at ch
    simp only [ob_s, ch, bi_n, kx_b_f, if_true, me_140_28, mb_140_28]
    exact bad 1 (Or.inl rfl) _
  · obtain ⟨g, hg, rfl⟩ := isGa_t hgl hA
    rw [hA] at ch
    have hnat := i32_nat (n := g) (by omega)
    have hneg := i32_neg (n := g) (by omega)
    have hgk : (256 ≤ g) = False := by simp; omega
    have ak : hp_I w 8771 g = sKind S g := M.ag.I 8771 (by decide) g
    have ah : hp_I w 8773 g = sHeld S g := M.ag.I 8773 (by decide) g
    simp only [hnat, ob_s, ch, bi_n, kx_b_t, if_neg (show ¬ (1 : Int32) = 0 by decide), me_140_28, mb_140_28, ob_s, hR_I, hR_L, hR_B, hN_I, hN_L, hN_B, r1808, r1810, r1812, r1814, r1816, r1818, r1820, r1824, r1826, r1828, r1830, r1836, r1838, r1842, r1844, r1846, r1848, r1850, r1854, r1856, r1858, r1862, r1864, r1866, r1870, r1872, r1874, r1878, r1880, n4364, n4365, n4366, n4367, n4368, n4369, n4370, n4371, n4372, n4373, n4374, n4375, n4376, n4377, n4378, n4379, n4380, n4381, n4382, n4383, n4384, n4385, n4386, n4387, n4388, n4389, n4390, n4391, n4392, Nat.reduceMul, Nat.reduceAdd, Nat.reduceEqDiff, false_and, if_false, hneg, hgk, or_self, ak, ah]
    by_cases k0 : sKind S g = 0
    · rw [if_pos k0, if_pos (show isGa S (i32 g) = false ∨ sKind S g = 0 ∨ sKind S g = 4 from Or.inr (Or.inl k0))]
      exact bad 1 (Or.inl rfl) _
    · rw [if_neg k0]
      by_cases k4 : sKind S g = 4
      · rw [if_pos k4, if_pos (show isGa S (i32 g) = false ∨ sKind S g = 0 ∨ sKind S g = 4 from Or.inr (Or.inr k4))]
        exact bad 1 (Or.inl rfl) _
      · rw [if_neg k4, if_neg (show ¬ (isGa S (i32 g) = false ∨ sKind S g = 0 ∨ sKind S g = 4) by rw [hA]; simp [k0, k4])]
        rcases cur_or S with hc | ⟨t, hc⟩
        · rw [if_pos hc, cu_n M hc, if_neg (show ¬ (0 : Int32) ≤ -1 by decide)]
          exact bad 2 (Or.inr rfl) _
        · have ht := I.b.cu t hc
          rw [if_neg (show ¬ S.cur = none by rw [hc]; simp), cu_s M hc, if_pos (show (0 : Int32) ≤ i32 t by rw [i32_ge (by omega)]; trivial)]
          obtain ⟨M0, F0⟩ := M_th (x := 0) M
          obtain ⟨M3, F3⟩ := M_th (x := 3) M0
          rw [me_140_44]
          unfold mb_140_44
          have e1 : hp_I (hp_sI w 1800 4363 0) 1800 4363 = 0 := by simp [hI_I]
          simp only [hnat, ob_s, e1, if_pos (show (0 : Int32) ≤ 0 by decide)]
          simp only [ob_s, hR_I, hR_L, hR_B, hN_I, hN_L, hN_B, r1808, r1810, r1812, r1814, r1816, r1818, r1820, r1824, r1826, r1828, r1830, r1836, r1838, r1842, r1844, r1846, r1848, r1850, r1854, r1856, r1858, r1862, r1864, r1866, r1870, r1872, r1874, r1878, r1880, n4364, n4365, n4366, n4367, n4368, n4369, n4370, n4371, n4372, n4373, n4374, n4375, n4376, n4377, n4378, n4379, n4380, n4381, n4382, n4383, n4384, n4385, n4386, n4387, n4388, n4389, n4390, n4391, n4392, Nat.reduceMul, Nat.reduceAdd, Nat.reduceEqDiff, false_and, if_false, hneg, hgk, or_self, hI_I, ak, ah, me_140_109, mb_140_109, me_140_85, mb_140_85, me_140_115, mb_140_115, hnat, me_140_199, mb_140_199, lg_neg, lg_le]
          rcases hk5 g hg with h | k1 | k2 | k3 | h
          · exact absurd h k0
          · have n2 : ¬ sKind S g = 2 := by rw [k1]; decide
            rw [if_pos k1]
            by_cases hh : sHeld S g ≤ 0
            · rw [if_pos hh, if_pos (show (sKind S g = 1 ∧ sHeld S g ≤ 0) ∨ (sKind S g = 2 ∧ _) from Or.inl ⟨k1, hh⟩)]
              exact ⟨_, rfl, And.intro M3 (F0.tr F3)⟩
            · rw [if_neg hh, if_neg (show ¬ ((sKind S g = 1 ∧ sHeld S g ≤ 0) ∨ (sKind S g = 2 ∧ _)) by rintro (h | h); exact hh h.2; exact n2 h.1)]
              simp only [if_neg n2, if_pos k1]
              obtain ⟨M4, F4⟩ := M_held1 (x := sHeld S g - 1) M0 (g := g) (by omega)
              by_cases h1 : sHeld S g - 1 = 0
              · obtain ⟨w5, a5, M5, F5⟩ := M_writer (d := d + 5) (g := g) M4 (SB.held (SB.th I.b)) (by omega)
                rw [h1] at a5 M5
                simp only [h1, if_true, and_self, a5, bv_n]
                exact ⟨w5, rfl, And.intro M5 ((F0.tr F4).tr F5)⟩
              · simp only [h1, if_true, if_false, and_self]
                exact ⟨_, rfl, And.intro M4 (F0.tr F4)⟩
          · have n1 : ¬ sKind S g = 1 := by rw [k2]; decide
            simp only [if_neg n1, if_pos k2]
            by_cases h1 : (sHeld S g).toInt64 + x.toInt64 < 0
            · rw [if_pos h1, if_pos (show (sKind S g = 1 ∧ sHeld S g ≤ 0) ∨ (sKind S g = 2 ∧ ((sHeld S g).toInt64 + x.toInt64 < 0 ∨ 1000000000 < (sHeld S g).toInt64 + x.toInt64)) from Or.inr ⟨k2, Or.inl h1⟩)]
              exact ⟨_, rfl, And.intro M3 (F0.tr F3)⟩
            · rw [if_neg h1]
              by_cases h2 : 1000000000 < (sHeld S g).toInt64 + x.toInt64
              · rw [if_neg (not_not_intro h2), if_pos (show (sKind S g = 1 ∧ sHeld S g ≤ 0) ∨ (sKind S g = 2 ∧ ((sHeld S g).toInt64 + x.toInt64 < 0 ∨ 1000000000 < (sHeld S g).toInt64 + x.toInt64)) from Or.inr ⟨k2, Or.inr h2⟩)]
                exact ⟨_, rfl, And.intro M3 (F0.tr F3)⟩
              · rw [if_pos h2, if_neg (show ¬ ((sKind S g = 1 ∧ sHeld S g ≤ 0) ∨ (sKind S g = 2 ∧ ((sHeld S g).toInt64 + x.toInt64 < 0 ∨ 1000000000 < (sHeld S g).toInt64 + x.toInt64))) by
                  rintro (h | ⟨-, h | h⟩)
                  · exact n1 h.1
                  · exact h1 h
                  · exact h2 h)]
                obtain ⟨w1, a1, M1, F1⟩ := M_grow (d := d + 4) (g := g) (x := x) M0 (SB.th I.b) (by omega)
                rw [a1, bv_n]
                exact ⟨w1, rfl, And.intro M1 (F0.tr F1)⟩
          · have n1 : ¬ sKind S g = 1 := by rw [k3]; decide
            have n2 : ¬ sKind S g = 2 := by rw [k3]; decide
            simp only [if_neg n1, if_neg n2]
            rw [if_neg (show ¬ ((sKind S g = 1 ∧ sHeld S g ≤ 0) ∨ (sKind S g = 2 ∧ _)) by rintro (h | h); exact n1 h.1; exact n2 h.1)]
            obtain ⟨l, l1, l2, l3⟩ := I.lk g hg k3
            have aw := M_wAt (d := d + 7) (g := g) M0 hsl (by omega)
            have hw : sWait S g ≤ 256 := Nat.le_trans List.countP_le_length hsl
            obtain ⟨w1, a1, M1, F1⟩ := M_sigs_l (d := d) rfl (g := g) (l := l) (by omega) (by omega) (m := sWait S g) (by omega) (sWait S g) 0 (φ + 2) _ (sTh S 0) M0 (SB.th I.b) l2 (by omega) (by omega)
            refine ⟨w1, ?_, And.intro M1 (F0.tr F1)⟩
            rw [aw, bi_n]
            exact a1
          · exact absurd h k4
end CD
