/-! the model's calls: finish, release, choose -/
section CG
variable {w : kx_H} {d n t g k : Nat} {S : kS} {c x : Int32} {v : Int64} {b goes r f : Bool}
def kill (m : kx_H) (j : Nat) : kx_H := (List.range j).foldl (fun m t => hp_sB m 8729 t false) m
theorem kill_succ (m : kx_H) (j : Nat) : kill m (j + 1) = hp_sB (kill m j) 8729 j false := by
  unfold kill
  rw [List.range_succ, List.foldl_append]
  rfl
theorem sKill_kill (m : kx_H) : sKill m = kill m 256 := by
  unfold sKill kill
  rfl
theorem M_fin_a {C : kx_C} : ∀ n j F w (S : kS) (m0 : kx_H), MR w (S.s_m (kill m0 j)) → j + n = 256 → n + 1 ≤ F →
    ∃ w' F', F ≤ F' + n ∧ kx_ex (wm_122 d C) F 51 [(0, kx_r 9 (some 4363)), (1, kx_i (i32 j))] [] w = kx_ex (wm_122 d C) F' 51 [(0, kx_r 9 (some 4363)), (1, kx_i (i32 256))] [] w' ∧ MR w' (S.s_m (kill m0 256)) ∧ FM w w' := by
  intro n
  induction n with
  | zero =>
    intro j F w S m0 M hj hF
    obtain rfl : j = 256 := by omega
    exact ⟨w, F, by omega, rfl, M, FM.rf⟩
  | succ n ih =>
    intro j F w S m0 M hj hF
    obtain ⟨r1808, r1810, r1812, r1814, r1816, r1818, r1820, r1824, r1826, r1828, r1830, r1836, r1838, r1842, r1844, r1846, r1848, r1850, r1854, r1856, r1858, r1862, r1864, r1866, r1870, r1872, r1874, r1878, r1880, n4364, n4365, n4366, n4367, n4368, n4369, n4370, n4371, n4372, n4373, n4374, n4375, n4376, n4377, n4378, n4379, n4380, n4381, n4382, n4383, n4384, n4385, n4386, n4387, n4388, n4389, n4390, n4391, n4392⟩ := id M.sh
    obtain ⟨F, rfl⟩ : ∃ f', F = f' + 1 := ⟨F - 1, by omega⟩
    have F1 : FR [8731, 8733, 8739, 8749, 8771, 8773, 8775] [8735] [] [8729, 8737, 8741, 8745, 8747] w (hp_sB w 8729 j false) := FR.sB (by decide) FR.rf
    have M1 : MR (hp_sB w 8729 j false) (S.s_m (kill m0 (j + 1))) := by
      rw [kill_succ]
      exact M.of_ag F1 (AG.sB M.ag)
    obtain ⟨w', F', h1, h2, h3, h4⟩ := ih (j + 1) F (hp_sB w 8729 j false) S m0 M1 (by omega) (by omega)
    refine ⟨w', F', by omega, ?_, h3, (FM.of F1 (by decide) (by decide) (by decide)).tr h4⟩
    rw [← h2, me_122_51]
    unfold mb_122_51
    rw [if_neg (show ¬ (256 : Int32) ≤ i32 j by rw [show (256 : Int32) = i32 256 from rfl, i32_le (by omega) (by omega)]; omega)]
    simp only [ob_s, hR_I, hR_L, hR_B, hN_I, hN_L, hN_B, r1808, r1810, r1812, r1814, r1816, r1818, r1820, r1824, r1826, r1828, r1830, r1836, r1838, r1842, r1844, r1846, r1848, r1850, r1854, r1856, r1858, r1862, r1864, r1866, r1870, r1872, r1874, r1878, r1880, n4364, n4365, n4366, n4367, n4368, n4369, n4370, n4371, n4372, n4373, n4374, n4375, n4376, n4377, n4378, n4379, n4380, n4381, n4382, n4383, n4384, n4385, n4386, n4387, n4388, n4389, n4390, n4391, n4392, Nat.reduceMul, Nat.reduceAdd, Nat.reduceEqDiff, false_and, if_false, i32_nat (n := j) (by omega), i32_jx (n := j) (k := 256) (by omega) (by omega), kx_sb_0, i32_add1]
theorem M_fin_b {C : kx_C} {me : List kMe} (hm : me.length ≤ 512) (hts : ∀ t x, (Sum.inl t, x) ∈ me → t < 256) (hcs : ∀ c x, (Sum.inr c, x) ∈ me → c < 512) : ∀ n j F w (T : kS), j + n = me.length → 2 * n + 1 ≤ F →
    MR w (kS.s_me T ((me.take j).filter (fun e => e.1.isRight) ++ me.drop ((me.take j).filter (fun e => e.1.isRight)).length)) →
    ∃ w', kx_ex (wm_122 d C) F 90 [(0, kx_r 9 (some 4363)), (1, kx_i (i32 ((me.take j).filter (fun e => e.1.isRight)).length)), (2, kx_i (i32 j))] [] w = some (.inl (some (.inl (-1))), w') ∧ MR w' (kS.s_std ((kS.s_cur ((kS.s_me T (me.filter (fun e => e.1.isRight)))) (none))) (1)) ∧ FM w w' := by
  intro n
  induction n with
  | zero =>
    intro j F w T hj hF M
    obtain ⟨F, rfl⟩ : ∃ f', F = f' + 1 := ⟨F - 1, by omega⟩
    rw [List.take_of_length_le (by omega)] at M ⊢
    have hle : (me.filter (fun e => e.1.isRight)).length ≤ me.length := List.length_filter_le _ _
    have F1 : FR [1876, 8783] [8785] [] [] w (hp_sI w 1876 4363 (i32 (me.filter (fun e => e.1.isRight)).length)) := FR.sI (by decide) FR.rf
    have M1 := M.of_me (v := me.filter (fun e => e.1.isRight)) F1 (by
      refine ⟨by simp [hI_I], fun i z hz => ?_⟩
      have hil := (List.getElem?_eq_some_iff.mp hz).1
      have := M.me.2 i z (by rw [List.getElem?_append_left hil]; exact hz)
      simp [hI_I, hI_L, hI_R, hI_B, hI_b, hL_I, hL_L, hL_R, hL_B, hL_b, hR_I, hR_L, hR_R, hR_B, hR_b, hB_I, hB_L, hB_R, hB_B, hB_b, hN_I, hN_L, hN_R, hN_B, hN_b, hT_I, hT_L, hT_R, hT_B, hT_b, hX_I, hX_L, hX_R, hX_B, hX_b, hC_I, hC_L, hC_R, hC_B, hC_b, hU_I, hU_L, hU_R, hU_B, hU_b]
      exact this)
    rw [kS_me_me] at M1
    have F2 : FR [1802] [] [] [] (hp_sI w 1876 4363 (i32 (me.filter (fun e => e.1.isRight)).length)) (hp_sI (hp_sI w 1876 4363 (i32 (me.filter (fun e => e.1.isRight)).length)) 1802 4363 (-1)) := FR.sI (by decide) FR.rf
    have M2 := M1.of_cu (v := none) F2 (by simp [hI_I, fidx])
    have F3 : FR [1804] [] [] [] (hp_sI (hp_sI w 1876 4363 (i32 (me.filter (fun e => e.1.isRight)).length)) 1802 4363 (-1)) (hp_sI (hp_sI (hp_sI w 1876 4363 (i32 (me.filter (fun e => e.1.isRight)).length)) 1802 4363 (-1)) 1804 4363 1) := FR.sI (by decide) FR.rf
    have M3 := M2.of_st (v := 1) F3 (by simp [hI_I])
    have FF := ((FM.of F1 (by decide) (by decide) (by decide)).tr (FM.of F2 (by decide) (by decide) (by decide))).tr (FM.of F3 (by decide) (by decide) (by decide))
    refine ⟨_, ?_, And.intro M3 FF⟩
    have e : hp_I w 1876 4363 = i32 (me.filter (fun e => e.1.isRight) ++ me.drop (me.filter (fun e => e.1.isRight)).length).length := M.me.1
    have e2 : (me.filter (fun e => e.1.isRight) ++ me.drop (me.filter (fun e => e.1.isRight)).length).length = me.length := by
      rw [List.length_append, List.length_drop]
      omega
    rw [e2] at e
    rw [me_122_90]
    unfold mb_122_90
    simp only [ob_s, e]
    rw [if_pos (by rw [i32_le (by omega) (by omega)]; omega)]
  | succ n ih =>
    intro j F w T hj hF M
    obtain ⟨r1808, r1810, r1812, r1814, r1816, r1818, r1820, r1824, r1826, r1828, r1830, r1836, r1838, r1842, r1844, r1846, r1848, r1850, r1854, r1856, r1858, r1862, r1864, r1866, r1870, r1872, r1874, r1878, r1880, n4364, n4365, n4366, n4367, n4368, n4369, n4370, n4371, n4372, n4373, n4374, n4375, n4376, n4377, n4378, n4379, n4380, n4381, n4382, n4383, n4384, n4385, n4386, n4387, n4388, n4389, n4390, n4391, n4392⟩ := id M.sh
    obtain ⟨F, rfl⟩ : ∃ f', F = f' + 1 + 1 := ⟨F - 2, by omega⟩
    obtain ⟨y, hy⟩ : ∃ y, me[j]? = some y := ⟨me[j], List.getElem?_eq_getElem (by omega)⟩
    have hym := List.mem_of_getElem? hy
    have hkl := tk_l me (fun e => e.1.isRight) j
    have e9 := tk_f (p := fun e : kMe => e.1.isRight) hy
    obtain ⟨y1, y2⟩ := M.me.2 j y (by rw [gd_app hkl]; exact hy)
    have e : hp_I w 1876 4363 = i32 ((me.take j).filter (fun e => e.1.isRight) ++ me.drop ((me.take j).filter (fun e => e.1.isRight)).length).length := M.me.1
    have e2 : ((me.take j).filter (fun e => e.1.isRight) ++ me.drop ((me.take j).filter (fun e => e.1.isRight)).length).length = me.length := by
      rw [List.length_append, List.length_drop]
      omega
    rw [e2] at e
    rw [me_122_90]
    unfold mb_122_90
    simp only [ob_s, hR_I, hR_L, hR_B, hN_I, hN_L, hN_B, r1808, r1810, r1812, r1814, r1816, r1818, r1820, r1824, r1826, r1828, r1830, r1836, r1838, r1842, r1844, r1846, r1848, r1850, r1854, r1856, r1858, r1862, r1864, r1866, r1870, r1872, r1874, r1878, r1880, n4364, n4365, n4366, n4367, n4368, n4369, n4370, n4371, n4372, n4373, n4374, n4375, n4376, n4377, n4378, n4379, n4380, n4381, n4382, n4383, n4384, n4385, n4386, n4387, n4388, n4389, n4390, n4391, n4392, Nat.reduceMul, Nat.reduceAdd, Nat.reduceEqDiff, false_and, if_false, e, i32_nat (n := j) (by omega), i32_jx (n := j) (k := 512) (by omega) (by omega), y1]
    rw [if_neg (by rw [i32_le (by omega) (by omega)]; omega)]
    obtain ⟨ye, yx⟩ := y
    cases ye with
    | inl t =>
      have ht := hts t yx hym
      have e9' : (me.take (j + 1)).filter (fun e => e.1.isRight) = (me.take j).filter (fun e => e.1.isRight) := by rw [e9]; simp
      rw [if_neg (show ¬ ecode (Sum.inl t) < 0 by rw [ecode_nn ht]; simp)]
      obtain ⟨w', r1, r2, r3⟩ := ih (j + 1) F w T (by omega) (by omega) (by rw [e9']; exact M)
      rw [e9'] at r1
      refine ⟨w', ?_, And.intro r2 r3⟩
      rw [me_122_137]
      unfold mb_122_137
      rw [i32_add1]
      exact r1
    | inr c =>
      have hc := hcs c yx hym
      have e9' : (me.take (j + 1)).filter (fun e => e.1.isRight) = (me.take j).filter (fun e => e.1.isRight) ++ [(Sum.inr c, yx)] := by rw [e9]; simp
      rw [if_pos (show ecode (Sum.inr c) < 0 by rw [(ecode_n hc).1]; trivial)]
      have F1 : FR [1876, 8783] [8785] [] [] w (hp_sL (hp_sI w 8783 ((me.take j).filter (fun e => e.1.isRight)).length (ecode (Sum.inr c))) 8785 ((me.take j).filter (fun e => e.1.isRight)).length yx) := FR.sL (by decide) (FR.sI (by decide) FR.rf)
      have hset : ((me.take j).filter (fun e => e.1.isRight) ++ me.drop ((me.take j).filter (fun e => e.1.isRight)).length).set ((me.take j).filter (fun e => e.1.isRight)).length (Sum.inr c, yx) = (me.take j).filter (fun e => e.1.isRight) ++ [(Sum.inr c, yx)] ++ me.drop (((me.take j).filter (fun e => e.1.isRight)).length + 1) := by
        rw [List.set_append_right _ _ (Nat.le_refl _), Nat.sub_self]
        have hlt : ((me.take j).filter (fun e => e.1.isRight)).length < me.length := by omega
        rw [List.drop_eq_getElem_cons hlt, List.set_cons_zero, List.append_assoc]
        rfl
      have M1 := M.of_me (v := (me.take j).filter (fun e => e.1.isRight) ++ [(Sum.inr c, yx)] ++ me.drop (((me.take j).filter (fun e => e.1.isRight)).length + 1)) F1 (by rw [← hset]; exact Lme.put (y := (Sum.inr c, yx)) M.me (by show _ < (_ ++ _ : List kMe).length; simp; omega))
      rw [kS_me_me] at M1
      obtain ⟨w', r1, r2, r3⟩ := ih (j + 1) F _ T (by omega) (by omega) (by rw [e9', List.length_append]; exact M1)
      rw [e9', List.length_append] at r1
      refine ⟨w', ?_, And.intro r2 ((FM.of F1 (by decide) (by decide) (by decide)).tr r3)⟩
      generalize ((me.take j).filter (fun e => e.1.isRight)).length = K at *
      have y2' : hp_L w 8785 j = yx := y2
      simp only [i32_nat (n := K) (by omega), i32_jx (n := K) (k := 512) (by omega) (by omega), if_false, hL_I, y2']
      rw [me_122_137]
      unfold mb_122_137
      rw [i32_add1, i32_add1]
      exact r1
theorem Lrd.nil {w : kx_H} (h : hp_I w 1822 4363 = 0) : Lrd w [] := ⟨h, by simp⟩
theorem M_finish (M : MR w S) (I : SI S n) (hn : n < 512) : ∃ w', kx_ev wx_M (d + 8) 122 [kx_r 9 (some 4363)] w = some (.inl (some (.inl (pFinish S).2)), w') ∧ MR w' (pFinish S).1 ∧ FM w w' := by
  obtain ⟨r1808, r1810, r1812, r1814, r1816, r1818, r1820, r1824, r1826, r1828, r1830, r1836, r1838, r1842, r1844, r1846, r1848, r1850, r1854, r1856, r1858, r1862, r1864, r1866, r1870, r1872, r1874, r1878, r1880, n4364, n4365, n4366, n4367, n4368, n4369, n4370, n4371, n4372, n4373, n4374, n4375, n4376, n4377, n4378, n4379, n4380, n4381, n4382, n4383, n4384, n4385, n4386, n4387, n4388, n4389, n4390, n4391, n4392⟩ := id M.sh
  obtain ⟨M0, F0⟩ := M_th (x := 0) M
  have hl1 := I.l.1
  obtain ⟨ψ, hψ⟩ := kx_fl 4000 (by omega)
  unfold pFinish
  rw [mE_122 hψ]
  unfold mb_122_0
  simp only [ob_s]
  rcases cur_or S with hc | ⟨t, hc⟩
  · obtain ⟨w1, a1, M1, F1⟩ := M_fail (d := d + 6) (x := 1) M0
    rw [hc, cu_n M0 hc, if_neg (show ¬ (0 : Int32) ≤ -1 by decide)]
    refine ⟨w1, ?_, And.intro M1 (F0.tr F1)⟩
    rw [a1, bi_n]
  · have ht := I.b.cu t hc
    have cu := cu_s M hc
    have htk : (256 ≤ t) = False := by simp; omega
    rw [hc, cu_s M0 hc, if_pos (show (0 : Int32) ≤ i32 t by rw [i32_ge (by omega)]; trivial)]
    have F1 : FR [8731, 8733, 8739, 8749, 8771, 8773, 8775] [8735] [] [8729, 8737, 8741, 8745, 8747] (hp_sI w 1800 4363 0) (hp_sB (hp_sI w 1800 4363 0) 8729 t false) := FR.sB (by decide) FR.rf
    have M1 := M0.of_ag F1 (AG.sB M0.ag)
    simp only [ob_s, hR_I, hR_L, hR_B, hN_I, hN_L, hN_B, r1808, r1810, r1812, r1814, r1816, r1818, r1820, r1824, r1826, r1828, r1830, r1836, r1838, r1842, r1844, r1846, r1848, r1850, r1854, r1856, r1858, r1862, r1864, r1866, r1870, r1872, r1874, r1878, r1880, n4364, n4365, n4366, n4367, n4368, n4369, n4370, n4371, n4372, n4373, n4374, n4375, n4376, n4377, n4378, n4379, n4380, n4381, n4382, n4383, n4384, n4385, n4386, n4387, n4388, n4389, n4390, n4391, n4392, Nat.reduceMul, Nat.reduceAdd, Nat.reduceEqDiff, false_and, if_false, i32_nat (n := t) (by omega), i32_neg (n := t) (by omega), htk, or_self, kx_sb_0, hI_B, hI_I, cu]
    cases t with
    | zero =>
      rw [if_pos (show i32 0 ≤ 0 by decide)]
      have hz : ∀ m : kx_H, kill (hp_sB m 8729 0 false) 256 = kill m 256 := by
        intro m
        have h : ∀ j, kill (hp_sB m 8729 0 false) (j + 1) = kill m (j + 1) := by
          intro j
          induction j with
          | zero =>
            rw [kill_succ, kill_succ]
            show hp_sB (hp_sB m 8729 0 false) 8729 0 false = hp_sB m 8729 0 false
            unfold hp_sB
            refine Prod.ext rfl (Prod.ext rfl (Prod.ext rfl (Prod.ext rfl (Prod.ext ?_ rfl))))
            funext a k
            show (if a = 8729 ∧ k = 0 then false else if a = 8729 ∧ k = 0 then false else _) = (if a = 8729 ∧ k = 0 then false else _)
            split <;> rfl
          | succ j ih => rw [kill_succ, ih, kill_succ m (j + 1)]
        exact h 255
      obtain ⟨w2, F', h1, h2, M2, F2⟩ := M_fin_a (d := d + 7) (C := kx_ev wx_M (d + 7)) 256 0 (ψ + 4000) (hp_sB (hp_sI w 1800 4363 0) 8729 0 false) (sTh S 0) (hp_sB S.m 8729 0 false) M1 (by omega) (by omega)
      rw [hz] at M2
      obtain ⟨F', rfl⟩ : ∃ f, F' = f + 1 := ⟨F' - 1, by omega⟩
      have G1 : FR [1822, 8743] [] [] [] w2 (hp_sI w2 1822 4363 0) := FR.sI (by decide) FR.rf
      have N1 := M2.of_rd (v := []) G1 (Lrd.nil (by simp [hI_I]))
      have G2 : FR [1840, 8755, 8757, 8763] [8761] [] [8759] (hp_sI w2 1822 4363 0) (hp_sI (hp_sI w2 1822 4363 0) 1840 4363 0) := FR.sI (by decide) FR.rf
      have N2 := N1.of_mo (v := []) G2 ⟨by simp [hI_I]; rfl, by simp⟩
      have G3 : FR [1868, 8777, 8779] [] [] [8781] (hp_sI (hp_sI w2 1822 4363 0) 1840 4363 0) (hp_sI (hp_sI (hp_sI w2 1822 4363 0) 1840 4363 0) 1868 4363 0) := FR.sI (by decide) FR.rf
      have N3 := N2.of_sn (v := []) G3 ⟨by simp [hI_I]; rfl, by simp⟩
      have Nm : MR (hp_sI (hp_sI (hp_sI w2 1822 4363 0) 1840 4363 0) 1868 4363 0) (kS.s_me ((kS.s_sn ((kS.s_mo ((kS.s_rd ((kS.s_m ((kS.s_th S (0))) (sKill S.m))) ([]))) ([]))) ([]))) ((S.me.take 0).filter (fun e => e.1.isRight) ++ S.me.drop ((S.me.take 0).filter (fun e => e.1.isRight)).length)) := by
        have e0 : (S.me.take 0).filter (fun e => e.1.isRight) ++ S.me.drop ((S.me.take 0).filter (fun e => e.1.isRight)).length = S.me := by simp
        rw [e0, sKill_kill]
        revert N3
        generalize kill S.m 256 = K9
        intro N3
        exact N3
      obtain ⟨w4, r1, N4, F4⟩ := M_fin_b (d := d + 7) (C := kx_ev wx_M (d + 7)) (me := S.me) (by omega) (fun t x h => (I.b.es t x h).1) (fun c x h => I.b.ec c x h) S.me.length 0 F' _ _ (by omega) (by omega) Nm
      have FF := (((((F0.tr (FM.of F1 (by decide) (by decide) (by decide))).tr F2).tr (FM.of G1 (by decide) (by decide) (by decide))).tr (FM.of G2 (by decide) (by decide) (by decide))).tr (FM.of G3 (by decide) (by decide) (by decide))).tr F4
      refine ⟨w4, ?_, And.intro N4 FF⟩
      rw [show kx_i (0 : Int32) = kx_i (i32 0) from rfl, h2, me_122_51]
      unfold mb_122_51
      rw [if_pos (show (256 : Int32) ≤ i32 256 by decide)]
      simp only [ob_s]
      exact r1
    | succ t =>
      rw [if_neg (show ¬ i32 (t + 1) ≤ 0 by rw [i32_p0 (by omega)]; simp)]
      have F2 : FR [1802] [] [] [] (hp_sB (hp_sI w 1800 4363 0) 8729 (t + 1) false) (hp_sI (hp_sB (hp_sI w 1800 4363 0) 8729 (t + 1) false) 1802 4363 (-1)) := FR.sI (by decide) FR.rf
      have M2 := M1.of_cu (v := none) F2 (by simp [hI_I, fidx])
      have B2 : SB (kS.s_cur ((kS.s_m ((kS.s_th S (0))) (hp_sB S.m 8729 (t + 1) false))) (none)) := I.b.of (fun _ h => nomatch h) (fun _ _ => rfl) (List.Sublist.refl _) (List.Sublist.refl _) (List.Sublist.refl _) (List.Sublist.refl _)
      obtain ⟨w3, a3, M3, F3⟩ := M_next (d := d + 1) (k := n) M2 B2 I.l (by omega) I.a
      refine ⟨w3, ?_, And.intro M3 (((F0.tr (FM.of F1 (by decide) (by decide) (by decide))).tr (FM.of F2 (by decide) (by decide) (by decide))).tr F3)⟩
      rw [a3, bv_n, M3.cu]
      rfl
end CG
