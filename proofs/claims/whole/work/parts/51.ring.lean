/-! what rings; who is next -/
theorem kS_me_me (S : kS) (a b : List kMe) : (S.s_me a).s_me b = S.s_me b := Eq.trans rfl rfl
theorem kS_wake_me (S : kS) (a : List kMe) (t : Nat) : sWake (S.s_me a) t = (sWake S t).s_me a := Eq.trans rfl rfl
theorem kS_al_me (S : kS) (a : List kMe) (k : Nat) : (S.s_me a).s_al k = (S.s_al k).s_me a := Eq.trans rfl rfl
section RG
variable {S : kS} {t c g : Nat} {n v x : Int64} {f b : Bool} {j : Int32} {e : kMe} {L : List kMe}
theorem sRings_me : sRings (kS.s_me S (L)) c = (kS.s_me (sRings S c) (L)) := by
  unfold sRings
  have e1 : sClosed (kS.s_me S (L)) c = sClosed S c := rfl
  have e2 : sFst (kS.s_me S (L)) c false = sFst S c false := rfl
  have e3 : sCnt (kS.s_me S (L)) c = sCnt S c := rfl
  have e4 : sRoom (kS.s_me S (L)) c = sRoom S c := rfl
  rw [e1, e2, e3, e4]
  split
  · rfl
  · split
    · unfold sDel
      rw [e2]
      cases sFst S c false <;> rfl
    · rfl
theorem sRings_al : (sRings S c).al = S.al := by
  unfold sRings
  split
  · rfl
  · split
    · unfold sDel
      cases sFst S c false <;> rfl
    · rfl
theorem sRing1_me : sRing1 x (kS.s_me S (L)) e = (kS.s_me (sRing1 x S e) (L)) := by
  unfold sRing1
  split
  · obtain ⟨e1, e2⟩ := e
    cases e1 with
    | inl t => rfl
    | inr c => exact sRings_me (S := (kS.s_al S (S.al - 1)))
  · rfl
theorem sR1_l {e2 : Int64} (h : e2 = x) : sRing1 x S (Sum.inl t, e2) = sWake S t := if_pos h
theorem sR1_r {e2 : Int64} (h : e2 = x) : sRing1 x S (Sum.inr c, e2) = sRings (kS.s_al S (S.al - 1)) c := if_pos h
theorem SB.al (B : SB S) {k : Nat} : SB (kS.s_al S (k)) := B.of B.cu (fun _ _ => rfl) (List.Sublist.refl _) (List.Sublist.refl _) (List.Sublist.refl _) (List.Sublist.refl _)
theorem SB.clk (B : SB S) {k : Int64} : SB (kS.s_clk S (k)) := B.of B.cu (fun _ _ => rfl) (List.Sublist.refl _) (List.Sublist.refl _) (List.Sublist.refl _) (List.Sublist.refl _)
theorem SB.meS (B : SB S) (h : L.Sublist S.me) : SB (kS.s_me S (L)) := B.of B.cu (fun _ _ => rfl) (List.Sublist.refl _) (List.Sublist.refl _) (List.Sublist.refl _) h
theorem SB.rings (B : SB S) : SB (sRings S c) := by
  unfold sRings
  split
  · exact B
  · split
    · exact B.del
    · exact B
theorem SB.r1 {K R : List kMe} (B : SB (kS.s_me S (K ++ e :: R))) (h : e.2 = x) : SB (kS.s_me (sRing1 x S e) (K ++ R)) := by
  obtain ⟨e1, e2⟩ := e
  rw [← sRing1_me]
  unfold sRing1
  rw [if_pos h]
  have hsub : (K ++ R).Sublist (K ++ (e1, e2) :: R) := List.Sublist.append_left (List.sublist_cons_self _ _) _
  have B1 : SB (kS.s_me S (K ++ R)) := SB.meS (S := (kS.s_me S (K ++ (e1, e2) :: R))) B hsub
  cases e1 with
  | inr c => exact SB.rings B1.al
  | inl t =>
    obtain ⟨h1, h2⟩ := B.es t e2 (List.mem_append_right _ List.mem_cons_self)
    have hn : nIn (kS.s_me S (K ++ R)) t := by
      have h2' : stt (kS.s_me S (K ++ R)) t = 5 := h2
      refine ⟨fun h => ?_, fun q hq z => ?_, fun q hq z => ?_, fun y hy => ?_⟩
      · have := (B1.rs t h).2
        rw [h2'] at this
        revert this; decide
      · have := (B1.os q hq).2.2
        rw [z, h2'] at this
        revert this; decide
      · have := (B1.ss q hq).2.2
        rw [z, h2'] at this
        revert this; decide
      · have nd : (eTs (K ++ (Sum.inl t, e2) :: R)).Nodup := B.en
        unfold eTs at nd
        rw [List.filterMap_append, List.filterMap_cons_some (f := fun e : kMe => e.1.getLeft?) (a := (Sum.inl t, e2)) (b := t) rfl, List.nodup_append] at nd
        obtain ⟨n1, n2, n3⟩ := nd
        rw [List.nodup_cons] at n2
        rcases List.mem_append.mp hy with hy | hy
        · exact n3 t (List.mem_filterMap.mpr ⟨_, hy, rfl⟩) t List.mem_cons_self rfl
        · exact n2.1 (List.mem_filterMap.mpr ⟨_, hy, rfl⟩)
    exact B1.wake h1 hn
theorem sRing1_len : (sRing1 x S e).mv.length ≤ S.mv.length + 1 ∧ (sRing1 x S e).mo.length ≤ S.mo.length ∧ (sRing1 x S e).mt = S.mt ∧ (sRing1 x S e).cur = S.cur := by
  have hr : ∀ (S : kS) c, (sRings S c).mv.length ≤ S.mv.length + 1 ∧ (sRings S c).mo.length ≤ S.mo.length ∧ (sRings S c).mt = S.mt ∧ (sRings S c).cur = S.cur := by
    intro S c
    unfold sRings
    split
    · exact ⟨by omega, Nat.le_refl _, rfl, rfl⟩
    · split
      · unfold sDel
        cases sFst S c false with
        | none => exact ⟨by simp [sStore, kS.th, kS.s_th, kS.cur, kS.s_cur, kS.std, kS.s_std, kS.clk, kS.s_clk, kS.m, kS.s_m, kS.rd, kS.s_rd, kS.rooms, kS.s_rooms, kS.mv, kS.s_mv, kS.mo, kS.s_mo, kS.mt, kS.s_mt, kS.gates, kS.s_gates, kS.sn, kS.s_sn, kS.me, kS.s_me, kS.al, kS.s_al], Nat.le_refl _, rfl, rfl⟩
        | some e => exact ⟨by simp [sMet, sWake, sWdr, sHas, kS.th, kS.s_th, kS.cur, kS.s_cur, kS.std, kS.s_std, kS.clk, kS.s_clk, kS.m, kS.s_m, kS.rd, kS.s_rd, kS.rooms, kS.s_rooms, kS.mv, kS.s_mv, kS.mo, kS.s_mo, kS.mt, kS.s_mt, kS.gates, kS.s_gates, kS.sn, kS.s_sn, kS.me, kS.s_me, kS.al, kS.s_al], List.length_filter_le _ _, rfl, rfl⟩
      · exact ⟨by omega, Nat.le_refl _, rfl, rfl⟩
  unfold sRing1
  split
  · obtain ⟨e1, e2⟩ := e
    cases e1 with
    | inl t => exact ⟨by simp [sWake, kS.th, kS.s_th, kS.cur, kS.s_cur, kS.std, kS.s_std, kS.clk, kS.s_clk, kS.m, kS.s_m, kS.rd, kS.s_rd, kS.rooms, kS.s_rooms, kS.mv, kS.s_mv, kS.mo, kS.s_mo, kS.mt, kS.s_mt, kS.gates, kS.s_gates, kS.sn, kS.s_sn, kS.me, kS.s_me, kS.al, kS.s_al], Nat.le_refl _, rfl, rfl⟩
    | inr c => exact hr (kS.s_al S (S.al - 1)) c
  · exact ⟨by omega, Nat.le_refl _, rfl, rfl⟩
/-- the fold, round by round -/
theorem SB.fold (R : List kMe) : ∀ (K : List kMe) (S : kS), SB (kS.s_me S (K ++ R)) → SB (kS.s_me (R.foldl (sRing1 x) S) (K ++ R.filter (fun e => e.2 != x))) := by
  induction R with
  | nil => intro K S B; simpa using B
  | cons e R ih =>
    intro K S B
    rw [List.foldl_cons]
    by_cases h : e.2 = x
    · have := ih K (sRing1 x S e) (B.r1 h)
      simpa [h] using this
    · have e1 : sRing1 x S e = S := if_neg h
      rw [e1]
      have := ih (K ++ [e]) S (by simpa using B)
      simpa [h] using this
theorem fold_len (R : List kMe) : ∀ S : kS, (R.foldl (sRing1 x) S).mv.length ≤ S.mv.length + (R.filter (fun e => e.2 == x)).length ∧ (R.foldl (sRing1 x) S).mo.length ≤ S.mo.length ∧ (R.foldl (sRing1 x) S).mt = S.mt ∧ (R.foldl (sRing1 x) S).cur = S.cur := by
  induction R with
  | nil => intro S; simp
  | cons e R ih =>
    intro S
    rw [List.foldl_cons]
    obtain ⟨a1, a2, a3, a4⟩ := ih (sRing1 x S e)
    obtain ⟨b1, b2, b3, b4⟩ := sRing1_len (x := x) (S := S) (e := e)
    by_cases h : e.2 = x
    · have ef : ((e :: R).filter (fun e => e.2 == x)).length = (R.filter (fun e => e.2 == x)).length + 1 := by simp [h]
      rw [ef]
      exact ⟨by omega, by omega, a3.trans b3, a4.trans b4⟩
    · have e1 : sRing1 x S e = S := if_neg h
      rw [e1] at a1 a2 a3 a4 ⊢
      have ef : (e :: R).filter (fun e => e.2 == x) = R.filter (fun e => e.2 == x) := by simp [h]
      rw [ef]
      exact ⟨a1, a2, a3, a4⟩
theorem SB.ring (B : SB S) : SB (sRing S) := by
  unfold sRing
  have := SB.fold (x := sLeast S.me) S.me [] (kS.s_clk S (sLeast S.me)) (SB.clk B)
  simpa using this
/-- lengths -/
def SL (S : kS) (n : Nat) : Prop := S.mv.length + S.me.length ≤ n ∧ S.mo.length + S.mt.length ≤ n
theorem fl_split {l : List kMe} : (l.filter (fun e => e.2 == x)).length + (l.filter (fun e => e.2 != x)).length = l.length := by
  induction l with
  | nil => rfl
  | cons a l ih =>
    by_cases h : a.2 = x <;> simp [h] at ih ⊢ <;> omega
theorem sLeast_mem : ∀ {l : List kMe}, l ≠ [] → ∃ e ∈ l, e.2 = sLeast l := by
  intro l hl
  cases l with
  | nil => exact absurd rfl hl
  | cons e r =>
    show ∃ q ∈ e :: r, q.2 = r.foldl _ e.2
    clear hl
    induction r generalizing e with
    | nil => exact ⟨e, by simp, rfl⟩
    | cons a r ih =>
      rw [List.foldl_cons]
      by_cases h : a.2 < e.2
      · rw [if_pos h]
        obtain ⟨q, h1, h2⟩ := ih a
        exact ⟨q, List.mem_cons_of_mem _ h1, h2⟩
      · rw [if_neg h]
        obtain ⟨q, h1, h2⟩ := ih e
        refine ⟨q, ?_, h2⟩
        rcases List.mem_cons.mp h1 with rfl | h3
        · simp
        · simp [h3]
theorem SL.ring {k : Nat} (h : SL S k) : SL (sRing S) k := by
  obtain ⟨a1, a2, a3, -⟩ := fold_len (x := sLeast S.me) S.me (kS.s_clk S (sLeast S.me))
  have := fl_split (x := sLeast S.me) (l := S.me)
  refine ⟨?_, ?_⟩
  · show (List.foldl (sRing1 (sLeast S.me)) (kS.s_clk S (sLeast S.me)) S.me).mv.length + (S.me.filter (fun e => e.2 != sLeast S.me)).length ≤ k
    have h1 := h.1
    have : ((kS.s_clk S (sLeast S.me)) : kS).mv.length = S.mv.length := rfl
    omega
  · show (List.foldl (sRing1 (sLeast S.me)) (kS.s_clk S (sLeast S.me)) S.me).mo.length + (List.foldl (sRing1 (sLeast S.me)) (kS.s_clk S (sLeast S.me)) S.me).mt.length ≤ k
    rw [a3]
    have h2 := h.2
    have : ((kS.s_clk S (sLeast S.me)) : kS).mo.length = S.mo.length := rfl
    have : ((kS.s_clk S (sLeast S.me)) : kS).mt.length = S.mt.length := rfl
    omega
theorem sRing_lt (h : S.me ≠ []) : (sRing S).me.length < S.me.length := by
  show (S.me.filter _).length < _
  obtain ⟨e, h1, h2⟩ := sLeast_mem h
  have := fl_split (x := sLeast S.me) (l := S.me)
  have h3 : 0 < (S.me.filter (fun e => e.2 == sLeast S.me)).length := List.length_pos_of_mem (List.mem_filter.mpr ⟨h1, by simp [h2]⟩)
  omega
theorem SB.loop {k : Nat} : ∀ {S : kS}, SB S → SB (sLoop k S) := by
  induction k with
  | zero => intro S B; exact B
  | succ k ih =>
    intro S B
    unfold sLoop
    split
    · exact ih B.ring
    · exact B
theorem SB.pick (B : SB S) : SB (sPick S) := by
  unfold sPick
  cases h : S.rd with
  | nil =>
    show SB (S.s_std 2)
    exact B.of B.cu (fun _ _ => rfl) (List.Sublist.refl _) (List.Sublist.refl _) (List.Sublist.refl _) (List.Sublist.refl _)
  | cons t r =>
    show SB (kS.s_m ((kS.s_rd ((kS.s_cur S (some t))) (r))) (hp_sI S.m 8731 t 0))
    have ht := B.rs t (by rw [h]; simp)
    have nd := B.rn
    rw [h, List.nodup_cons] at nd
    have hst : ∀ q, q ≠ t → stt (kS.s_m ((kS.s_rd ((kS.s_cur S (some t))) (r))) (hp_sI S.m 8731 t 0)) q = stt S q := fun q hq => by simp [stt, hI_I, hq, kS.th, kS.s_th, kS.cur, kS.s_cur, kS.std, kS.s_std, kS.clk, kS.s_clk, kS.m, kS.s_m, kS.rd, kS.s_rd, kS.rooms, kS.s_rooms, kS.mv, kS.s_mv, kS.mo, kS.s_mo, kS.mt, kS.s_mt, kS.gates, kS.s_gates, kS.sn, kS.s_sn, kS.me, kS.s_me, kS.al, kS.s_al]
    refine B.of (fun q hq => ?_) (fun q hq => hst q ?_) (by rw [h]; exact List.sublist_cons_self _ _) (List.Sublist.refl _) (List.Sublist.refl _) (List.Sublist.refl _)
    · cases hq; exact ht.1
    · rintro rfl
      rcases hq with hq | ⟨e, h1, h2⟩ | ⟨e, h1, h2⟩ | ⟨y, h1⟩
      · exact nd.1 hq
      · have := (B.os e h1).2.2
        rw [h2, ht.2] at this
        revert this; decide
      · have := (B.ss e h1).2.2
        rw [h2, ht.2] at this
        revert this; decide
      · have := (B.es q y h1).2
        rw [ht.2] at this
        revert this; decide
theorem SB.next (B : SB S) : SB (sNext S) := (B.loop).pick
end RG
section M5
variable {w : kx_H} {d t c g : Nat} {S : kS} {v : Int64}
theorem lg_lt (a b : Int64) : (0 ≤ lg_cmp a b) = (¬ a < b) := by
  unfold lg_cmp
  have g : (a > b) = (b.toInt < a.toInt) := propext Int64.lt_iff_toInt_lt
  rw [Int64.lt_iff_toInt_lt]
  simp only [g]
  by_cases h : b.toInt < a.toInt
  · have : ¬ a.toInt < b.toInt := by omega
    simp [h, this]
  · by_cases h2 : a = b
    · subst h2
      simp
    · have h3 : a.toInt < b.toInt := by
        have : a.toInt ≠ b.toInt := fun e => h2 (Int64.toInt_inj.mp e)
        omega
      simp [h, h2, h3]
theorem lg_eq (a b : Int64) : (lg_cmp a b = 0) = (a = b) := by
  unfold lg_cmp
  have g : (a > b) = (b.toInt < a.toInt) := propext Int64.lt_iff_toInt_lt
  simp only [g]
  by_cases h : b.toInt < a.toInt
  · have : a ≠ b := fun e => by rw [e] at h; omega
    simp [h, this]
  · by_cases h2 : a = b
    · subst h2
      simp
    · simp [h, h2]
def rMe (w : kx_H) (k : Nat) (x : kMe) : Prop := hp_I w 8783 k = ecode x.1 ∧ hp_L w 8785 k = x.2
theorem Lme.put {l : List kMe} {k : Nat} {y : kMe} (h : Lme w l) (hk : k < l.length) : Lme (hp_sL (hp_sI w 8783 k (ecode y.1)) 8785 k y.2) (l.set k y) := by
  refine ⟨by simp [hI_I, hI_L, hI_R, hI_B, hI_b, hL_I, hL_L, hL_R, hL_B, hL_b, hR_I, hR_L, hR_R, hR_B, hR_b, hB_I, hB_L, hB_R, hB_B, hB_b, hN_I, hN_L, hN_R, hN_B, hN_b, hT_I, hT_L, hT_R, hT_B, hT_b, hX_I, hX_L, hX_R, hX_B, hX_b, hC_I, hC_L, hC_R, hC_B, hC_b, hU_I, hU_L, hU_R, hU_B, hU_b, h.1], fun i z hz => ?_⟩
  rw [List.getElem?_set] at hz
  by_cases hik : k = i
  · subst hik
    simp [hk] at hz
    subst hz
    simp [hI_I, hI_L, hI_R, hI_B, hI_b, hL_I, hL_L, hL_R, hL_B, hL_b, hR_I, hR_L, hR_R, hR_B, hR_b, hB_I, hB_L, hB_R, hB_B, hB_b, hN_I, hN_L, hN_R, hN_B, hN_b, hT_I, hT_L, hT_R, hT_B, hT_b, hX_I, hX_L, hX_R, hX_B, hX_b, hC_I, hC_L, hC_R, hC_B, hC_b, hU_I, hU_L, hU_R, hU_B, hU_b]
  · simp [hik] at hz
    have := h.2 i z hz
    simp [hI_I, hI_L, hI_R, hI_B, hI_b, hL_I, hL_L, hL_R, hL_B, hL_b, hR_I, hR_L, hR_R, hR_B, hR_b, hB_I, hB_L, hB_R, hB_B, hB_b, hN_I, hN_L, hN_R, hN_B, hN_b, hT_I, hT_L, hT_R, hT_B, hT_b, hX_I, hX_L, hX_R, hX_B, hX_b, hC_I, hC_L, hC_R, hC_B, hC_b, hU_I, hU_L, hU_R, hU_B, hU_b, Ne.symm hik]
    exact this
theorem M_ring_a {C : kx_C} (M : MR w S) (hm : S.me.length ≤ 512) {e0 : kMe} {r0 : List kMe} (h0 : S.me = e0 :: r0) : ∀ n j f, j + n = r0.length → 2 * n + 1 ≤ f →
    ∃ f', f ≤ f' + 2 * n + 1 ∧ kx_ex (wm_110 d C) f 9 [(0, kx_r 9 (some 4363)), (1, kx_l ((r0.take j).foldl (fun x e => if e.2 < x then e.2 else x) e0.2)), (3, kx_i (i32 (j + 1)))] [] w =
      kx_ex (wm_110 d C) f' 61 [(0, kx_r 9 (some 4363)), (1, kx_l (sLeast S.me)), (3, kx_i (i32 0)), (4, kx_i (i32 S.me.length)), (5, kx_i (i32 0))] [] (hp_sL w 1806 4363 (sLeast S.me)) := by
  obtain ⟨r1808, r1810, r1812, r1814, r1816, r1818, r1820, r1824, r1826, r1828, r1830, r1836, r1838, r1842, r1844, r1846, r1848, r1850, r1854, r1856, r1858, r1862, r1864, r1866, r1870, r1872, r1874, r1878, r1880, n4364, n4365, n4366, n4367, n4368, n4369, n4370, n4371, n4372, n4373, n4374, n4375, n4376, n4377, n4378, n4379, n4380, n4381, n4382, n4383, n4384, n4385, n4386, n4387, n4388, n4389, n4390, n4391, n4392⟩ := id M.sh
  have hl : S.me.length = r0.length + 1 := by rw [h0]; rfl
  intro n
  induction n with
  | zero =>
    intro j f hj hf
    obtain ⟨f, rfl⟩ : ∃ f', f = f' + 1 := ⟨f - 1, by omega⟩
    refine ⟨f, by omega, ?_⟩
    rw [List.take_of_length_le (by omega), me_110_9]
    unfold mb_110_9
    simp only [ob_s, M.me.1, hI_L]
    rw [if_pos (by rw [i32_le (by omega) (by omega)]; omega), h0]
    rfl
  | succ n ih =>
    intro j f hj hf
    obtain ⟨f, rfl⟩ : ∃ f', f = f' + 1 + 1 := ⟨f - 2, by omega⟩
    obtain ⟨y, hy⟩ : ∃ y, r0[j]? = some y := ⟨r0[j], List.getElem?_eq_getElem (by omega)⟩
    obtain ⟨y1, y2⟩ := M.me.2 (j + 1) y (by rw [h0]; simpa using hy)
    obtain ⟨f', h1, h2⟩ := ih (j + 1) f (by omega) (by omega)
    refine ⟨f', by omega, ?_⟩
    rw [← h2, me_110_9]
    unfold mb_110_9
    have e9 : (r0.take (j + 1)).foldl (fun x e => if e.2 < x then e.2 else x) e0.2 = if y.2 < (r0.take j).foldl (fun x e => if e.2 < x then e.2 else x) e0.2 then y.2 else (r0.take j).foldl (fun x e => if e.2 < x then e.2 else x) e0.2 := by
      rw [List.take_add_one, hy, List.foldl_append]
      rfl
    rw [e9]
    simp only [ob_s, hR_I, hR_L, hR_B, hN_I, hN_L, hN_B, r1808, r1810, r1812, r1814, r1816, r1818, r1820, r1824, r1826, r1828, r1830, r1836, r1838, r1842, r1844, r1846, r1848, r1850, r1854, r1856, r1858, r1862, r1864, r1866, r1870, r1872, r1874, r1878, r1880, n4364, n4365, n4366, n4367, n4368, n4369, n4370, n4371, n4372, n4373, n4374, n4375, n4376, n4377, n4378, n4379, n4380, n4381, n4382, n4383, n4384, n4385, n4386, n4387, n4388, n4389, n4390, n4391, n4392, M.me.1, i32_nat (n := j + 1) (by omega), i32_jx (n := j + 1) (k := 512) (by omega) (by omega), if_false, y2, lg_lt]
    rw [if_neg (by rw [i32_le (by omega) (by omega)]; omega)]
    by_cases hlt : y.2 < (r0.take j).foldl (fun x e => if e.2 < x then e.2 else x) e0.2
    · rw [if_pos hlt, if_neg (by simpa using hlt), me_110_38]
      unfold mb_110_38
      rw [i32_add1]
    · rw [if_neg hlt, if_pos hlt, me_110_38]
      unfold mb_110_38
      rw [i32_add1]
theorem gd_app {l K : List kMe} {i : Nat} (h : K.length ≤ i) : (K ++ l.drop K.length)[i]? = l[i]? := by
  rw [List.getElem?_append_right h, List.getElem?_drop]
  congr 1
  omega
theorem ecode_nn {t : Nat} (h : t < 256) : (ecode (.inl t) < 0) = False := i32_neg (by omega)
theorem ecode_n {c : Nat} (h : c < 512) : (ecode (.inr c) < 0) = True ∧ -1 - ecode (.inr c) = i32 c := by
  show ((-1 - i32 c < 0) = True) ∧ -1 - (-1 - i32 c) = i32 c
  refine ⟨?_, ?_⟩
  · have h1 : (i32 c).toInt = c := Int32.toInt_ofNat_of_lt (by omega)
    have h2 : (-1 - i32 c).toInt = -1 - (c : Int) := by
      rw [Int32.toInt_sub, h1]
      show Int.bmod (-1 - (c : Int)) (2 ^ 32) = _
      rw [Int.bmod_eq_of_le (by omega) (by omega)]
    have : -1 - i32 c < 0 := by
      rw [Int32.lt_iff_toInt_lt, h2]
      show -1 - (c : Int) < 0
      omega
    simp [this]
  · rw [Int32.sub_eq_iff_eq_add, Int32.add_comm, Int32.sub_add_cancel]
theorem M_ring_b {C : kx_C} (hC : C = kx_ev wx_M (d + 4)) {me : List kMe} {k0 : Nat} {x : Int64} (hm : me.length ≤ 512) (hk : k0 ≤ 4352) : ∀ n j f w (T : kS), j + n = me.length → 2 * n + 1 ≤ f →
    MR w (kS.s_me T ((me.take j).filter (fun e => e.2 != x) ++ me.drop ((me.take j).filter (fun e => e.2 != x)).length)) → SB (kS.s_me T ((me.take j).filter (fun e => e.2 != x) ++ me.drop j)) → T.mv.length + n ≤ k0 → T.mo.length ≤ k0 → (me.drop j).countP (fun e => e.1.isRight) ≤ T.al →
    ∃ w', kx_ex (wm_110 (d + 4) C) f 61 [(0, kx_r 9 (some 4363)), (1, kx_l x), (3, kx_i (i32 ((me.take j).filter (fun e => e.2 != x)).length)), (4, kx_i (i32 me.length)), (5, kx_i (i32 j))] [] w = some (.inl none, w') ∧
      MR w' (kS.s_me ((me.drop j).foldl (sRing1 x) T) (me.filter (fun e => e.2 != x))) ∧ FM w w' := by
  intro n
  induction n with
  | zero =>
    intro j f w T hj hf M B hv ho ha
    obtain ⟨f, rfl⟩ : ∃ f', f = f' + 1 := ⟨f - 1, by omega⟩
    have e1 : me.drop j = [] := List.drop_of_length_le (by omega)
    rw [List.take_of_length_le (by omega)] at M ⊢
    have F : FR [1876, 8783] [8785] [] [] w (hp_sI w 1876 4363 (i32 (me.filter (fun e => e.2 != x)).length)) := FR.sI (by decide) FR.rf
    rw [e1, List.foldl_nil]
    have M1 := M.of_me (v := me.filter (fun e => e.2 != x)) F (by
      refine ⟨by simp [hI_I], fun i z hz => ?_⟩
      have hil := (List.getElem?_eq_some_iff.mp hz).1
      have := M.me.2 i z (by rw [List.getElem?_append_left hil]; exact hz)
      simp [hI_I, hI_L, hI_R, hI_B, hI_b, hL_I, hL_L, hL_R, hL_B, hL_b, hR_I, hR_L, hR_R, hR_B, hR_b, hB_I, hB_L, hB_R, hB_B, hB_b, hN_I, hN_L, hN_R, hN_B, hN_b, hT_I, hT_L, hT_R, hT_B, hT_b, hX_I, hX_L, hX_R, hX_B, hX_b, hC_I, hC_L, hC_R, hC_B, hC_b, hU_I, hU_L, hU_R, hU_B, hU_b]
      exact this)
    rw [kS_me_me] at M1
    have FF := FM.of F (by decide) (by decide) (by decide)
    refine ⟨hp_sI w 1876 4363 (i32 (me.filter (fun e => e.2 != x)).length), ?_⟩
    refine ⟨?_, ?_⟩
    rotate_left
    exact And.intro M1 FF
    rw [me_110_61]
    unfold mb_110_61
    rw [if_pos (by rw [i32_le (by omega) (by omega)]; omega)]
    simp only [ob_s]
  | succ n ih =>
    intro j f w T hj hf M B hv ho ha
    obtain ⟨f, rfl⟩ : ∃ f', f = f' + 1 + 1 := ⟨f - 2, by omega⟩
    obtain ⟨r1808, r1810, r1812, r1814, r1816, r1818, r1820, r1824, r1826, r1828, r1830, r1836, r1838, r1842, r1844, r1846, r1848, r1850, r1854, r1856, r1858, r1862, r1864, r1866, r1870, r1872, r1874, r1878, r1880, n4364, n4365, n4366, n4367, n4368, n4369, n4370, n4371, n4372, n4373, n4374, n4375, n4376, n4377, n4378, n4379, n4380, n4381, n4382, n4383, n4384, n4385, n4386, n4387, n4388, n4389, n4390, n4391, n4392⟩ := id M.sh
    obtain ⟨y, hy⟩ : ∃ y, me[j]? = some y := ⟨me[j], List.getElem?_eq_getElem (by omega)⟩
    have hkl := tk_l me (fun e => e.2 != x) j
    have hd : me.drop j = y :: me.drop (j + 1) := by
      obtain ⟨h1, h2⟩ := List.getElem?_eq_some_iff.mp hy
      rw [List.drop_eq_getElem_cons h1, h2]
    have e9 := tk_f (p := fun e => e.2 != x) hy
    obtain ⟨y1, y2⟩ := M.me.2 j y (by rw [gd_app hkl]; exact hy)
    rw [me_110_61]
    unfold mb_110_61
    rw [if_neg (by rw [i32_le (by omega) (by omega)]; omega)]
    rw [hd, List.foldl_cons]
    rw [hd] at B
    by_cases hyx : y.2 = x
    · have e9' : (me.take (j + 1)).filter (fun e => e.2 != x) = (me.take j).filter (fun e => e.2 != x) := by rw [e9]; simp [hyx]
      simp only [ob_s, hR_I, hR_L, hR_B, hN_I, hN_L, hN_B, r1808, r1810, r1812, r1814, r1816, r1818, r1820, r1824, r1826, r1828, r1830, r1836, r1838, r1842, r1844, r1846, r1848, r1850, r1854, r1856, r1858, r1862, r1864, r1866, r1870, r1872, r1874, r1878, r1880, n4364, n4365, n4366, n4367, n4368, n4369, n4370, n4371, n4372, n4373, n4374, n4375, n4376, n4377, n4378, n4379, n4380, n4381, n4382, n4383, n4384, n4385, n4386, n4387, n4388, n4389, n4390, n4391, n4392, i32_nat (n := j) (by omega), i32_jx (n := j) (k := 512) (by omega) (by omega), if_false, y1, y2, lg_eq, hyx, if_true, hI_I]
      have B1 := B.r1 hyx
      have ih1 := fun w (T : kS) => ih (j + 1) f w T (by omega) (by omega)
      rw [e9'] at ih1
      obtain ⟨ye, yx⟩ := y
      have ln := sRing1_len (x := x) (S := T) (e := (ye, yx))
      cases ye with
      | inl t =>
        have el : sRing1 x T (Sum.inl t, yx) = sWake T t := sR1_l hyx
        have hes := B.es t yx (List.mem_append_right _ List.mem_cons_self)
        have ht := hes.1
        have htn : t ∉ T.rd := (fun h => by
          have h1 := (B.rs t h).2
          have h2 := hes.2
          have h3 : stt T t = 5 := h2
          have h4 : stt T t = 1 := h1
          rw [h3] at h4
          revert h4; decide)
        have htn2 := htn
        obtain ⟨w1, a1, M1, F1⟩ := M_wake (d := d + 3) M ht (B.rl ht htn)
        obtain ⟨w', r1, r2, r3⟩ := ih1 w1 (sRing1 x T (Sum.inl t, yx)) (by rw [el, ← kS_wake_me]; exact M1) B1 (by omega) (by omega) (by
          rw [el]; rw [hd] at ha; simpa [sWake, kS.th, kS.s_th, kS.cur, kS.s_cur, kS.std, kS.s_std, kS.clk, kS.s_clk, kS.m, kS.s_m, kS.rd, kS.s_rd, kS.rooms, kS.s_rooms, kS.mv, kS.s_mv, kS.mo, kS.s_mo, kS.mt, kS.s_mt, kS.gates, kS.s_gates, kS.sn, kS.s_sn, kS.me, kS.s_me, kS.al, kS.s_al] using ha)
        refine ⟨w', ?_, And.intro r2 (F1.tr r3)⟩
        rw [if_neg (show ¬ ecode (Sum.inl t) < 0 by rw [ecode_nn ht]; simp)]
        show kx_bv (C 105 [kx_r 9 (some 4363), kx_i (i32 t)] w) _ = _
        rw [← hC] at a1
        rw [a1, bv_n, me_110_159]
        unfold mb_110_159
        rw [i32_add1]
        exact r1
      | inr c =>
        have el : sRing1 x T (Sum.inr c, yx) = sRings (kS.s_al T (T.al - 1)) c := sR1_r hyx
        have hc := B.ec c yx (List.mem_append_right _ List.mem_cons_self)
        have hal : 1 ≤ T.al := by
          rw [hd, List.countP_cons] at ha
          simp only [Sum.isRight_inr, if_true] at ha
          omega
        have F0 : FR [1882] [] [] [] w (hp_sI w 1882 4363 (i32 (T.al - 1))) := FR.sI (by decide) FR.rf
        have M0 := M.of_al (v := T.al - 1) F0 (by simp [hI_I])
        rw [kS_al_me] at M0
        have ela : i32 T.al - 1 = i32 (T.al - 1) := by
          obtain ⟨q, hq⟩ : ∃ q, T.al = q + 1 := ⟨T.al - 1, by omega⟩
          rw [hq, i32_sub1]
          rfl
        have Bx := SB.al (k := T.al - 1) (SB.meS (L := (me.take j).filter (fun e => e.2 != x) ++ me.drop (j + 1)) (S := (kS.s_me T ((me.take j).filter (fun e => e.2 != x) ++ (Sum.inr c, yx) :: me.drop (j + 1)))) B (List.Sublist.append_left (List.sublist_cons_self _ _) _))
        rw [kS_me_me, kS_al_me, ← kS_me_me (T.s_al (T.al - 1)) ((me.take j).filter (fun e => e.2 != x) ++ me.drop ((me.take j).filter (fun e => e.2 != x)).length)] at Bx
        obtain ⟨w1, a1, M1, F1⟩ := M_rings (d := d) M0 Bx (by show T.mo.length ≤ 4352; omega) (by show T.mv.length < 8192; omega) hc
        obtain ⟨w', r1, r2, r3⟩ := ih1 w1 (sRing1 x T (Sum.inr c, yx)) (by rw [el]; rw [sRings_me] at M1; exact M1) B1 (by omega) (by omega) (by
          have hz : (sRing1 x T (Sum.inr c, yx)).al = T.al - 1 := by rw [el]; exact sRings_al
          rw [hz]
          rw [hd, List.countP_cons] at ha
          simp only [Sum.isRight_inr, if_true] at ha
          omega)
        refine ⟨w', ?_, r2, (FM.of F0 (by decide) (by decide) (by decide)).tr (F1.tr r3)⟩
        have hec := ecode_n hc
        rw [if_pos (show ecode (Sum.inr c) < 0 by rw [hec.1]; trivial)]
        have hal2 : hp_I w 1882 4363 = i32 T.al := M.al
        rw [← hC] at a1
        simp only [hal2, ela, Nat.reduceMul, Nat.reduceAdd, Nat.reduceEqDiff, false_and, if_false, y1, hec.2, a1, bv_n]
        rw [me_110_159]
        unfold mb_110_159
        rw [i32_add1]
        exact r1
    · have e9' : (me.take (j + 1)).filter (fun e => e.2 != x) = (me.take j).filter (fun e => e.2 != x) ++ [y] := by rw [e9]; simp [hyx]
      have e1 : sRing1 x T y = T := if_neg hyx
      rw [e1]
      have F : FR [1876, 8783] [8785] [] [] w (hp_sL (hp_sI w 8783 ((me.take j).filter (fun e => e.2 != x)).length (ecode y.1)) 8785 ((me.take j).filter (fun e => e.2 != x)).length y.2) := FR.sL (by decide) (FR.sI (by decide) FR.rf)
      have hset : ((me.take j).filter (fun e => e.2 != x) ++ me.drop ((me.take j).filter (fun e => e.2 != x)).length).set ((me.take j).filter (fun e => e.2 != x)).length y = (me.take j).filter (fun e => e.2 != x) ++ [y] ++ me.drop (((me.take j).filter (fun e => e.2 != x)).length + 1) := by
        rw [List.set_append_right _ _ (Nat.le_refl _), Nat.sub_self]
        have hlt : ((me.take j).filter (fun e => e.2 != x)).length < me.length := by omega
        rw [List.drop_eq_getElem_cons hlt, List.set_cons_zero, List.append_assoc]
        rfl
      have M1 := M.of_me (v := (me.take j).filter (fun e => e.2 != x) ++ [y] ++ me.drop (((me.take j).filter (fun e => e.2 != x)).length + 1)) F (by rw [← hset]; exact Lme.put M.me (by show _ < (_ ++ _ : List kMe).length; simp; omega))
      rw [kS_me_me] at M1
      obtain ⟨w', r1, r2, r3⟩ := ih (j + 1) f _ T (by omega) (by omega) (by rw [e9', List.length_append]; exact M1) (by rw [e9']; simpa using B) (by omega) ho (by
          rw [hd, List.countP_cons] at ha
          omega)
      refine ⟨w', ?_, r2, (FM.of F (by decide) (by decide) (by decide)).tr r3⟩
      rw [e9', List.length_append] at r1
      generalize ((me.take j).filter (fun e => e.2 != x)).length = K at *
      simp only [ob_s, hR_I, hR_L, hR_B, hN_I, hN_L, hN_B, r1808, r1810, r1812, r1814, r1816, r1818, r1820, r1824, r1826, r1828, r1830, r1836, r1838, r1842, r1844, r1846, r1848, r1850, r1854, r1856, r1858, r1862, r1864, r1866, r1870, r1872, r1874, r1878, r1880, n4364, n4365, n4366, n4367, n4368, n4369, n4370, n4371, n4372, n4373, n4374, n4375, n4376, n4377, n4378, n4379, n4380, n4381, n4382, n4383, n4384, n4385, n4386, n4387, n4388, n4389, n4390, n4391, n4392, i32_nat (n := j) (by omega), i32_jx (n := j) (k := 512) (by omega) (by omega), i32_nat (n := K) (by omega), i32_jx (n := K) (k := 512) (by omega) (by omega), if_false, y1, y2, lg_eq, hyx, hL_I]
      rw [me_110_159]
      unfold mb_110_159
      rw [i32_add1, i32_add1]
      exact r1
theorem M_ring (M : MR w S) (B : SB S) {k : Nat} (hl : SL S k) (hk : k ≤ 512) (ha : S.me.countP (fun e => e.1.isRight) ≤ S.al) (h0 : S.me ≠ []) : ∃ w', kx_ev wx_M (d + 5) 110 [kx_r 9 (some 4363)] w = some (.inl none, w') ∧ MR w' (sRing S) ∧ FM w w' := by
  obtain ⟨r1808, r1810, r1812, r1814, r1816, r1818, r1820, r1824, r1826, r1828, r1830, r1836, r1838, r1842, r1844, r1846, r1848, r1850, r1854, r1856, r1858, r1862, r1864, r1866, r1870, r1872, r1874, r1878, r1880, n4364, n4365, n4366, n4367, n4368, n4369, n4370, n4371, n4372, n4373, n4374, n4375, n4376, n4377, n4378, n4379, n4380, n4381, n4382, n4383, n4384, n4385, n4386, n4387, n4388, n4389, n4390, n4391, n4392⟩ := id M.sh
  obtain ⟨e0, r0, h1⟩ : ∃ e r, S.me = e :: r := by
    cases h : S.me with
    | nil => exact absurd h h0
    | cons e r => exact ⟨e, r, rfl⟩
  have hl1 := hl.1
  have hl2 := hl.2
  have hlen : S.me.length = r0.length + 1 := by rw [h1]; rfl
  obtain ⟨ψ, hψ⟩ := kx_fl 20000 (by omega)
  obtain ⟨f', f1, f2⟩ := M_ring_a (d := d + 4) (C := kx_ev wx_M (d + 4)) M (by omega) h1 r0.length 0 (ψ + 20000) (by omega) (by omega)
  have F : FR [] [1806] [] [] w (hp_sL w 1806 4363 (sLeast S.me)) := FR.sL (by decide) FR.rf
  have M1 := M.of_ck (v := sLeast S.me) F (by simp [hL_L])
  obtain ⟨w', r1, r2, r3⟩ := M_ring_b (d := d) rfl (me := S.me) (x := sLeast S.me) (k0 := 512) (by omega) (by omega) S.me.length 0 f' (hp_sL w 1806 4363 (sLeast S.me)) (kS.s_clk S (sLeast S.me)) (by omega) (by omega) (by simpa using M1) (by simpa using SB.clk B) (by show S.mv.length + _ ≤ _; omega) (by show S.mo.length ≤ _; omega) (by simpa using ha)
  refine ⟨w', ?_, by simpa [sRing] using r2, (FM.of F (by decide) (by decide) (by decide)).tr r3⟩
  rw [mE_110 hψ]
  unfold mb_110_0
  obtain ⟨y1, y2⟩ := M.me.2 0 e0 (by rw [h1]; rfl)
  have z0 : (0 : Int32).toNatClampNeg = 0 := rfl
  simp only [ob_s, hR_I, hR_L, hR_B, hN_I, hN_L, hN_B, r1808, r1810, r1812, r1814, r1816, r1818, r1820, r1824, r1826, r1828, r1830, r1836, r1838, r1842, r1844, r1846, r1848, r1850, r1854, r1856, r1858, r1862, r1864, r1866, r1870, r1872, r1874, r1878, r1880, n4364, n4365, n4366, n4367, n4368, n4369, n4370, n4371, n4372, n4373, n4374, n4375, n4376, n4377, n4378, n4379, n4380, n4381, n4382, n4383, n4384, n4385, n4386, n4387, n4388, n4389, n4390, n4391, n4392, z0, y2]
  rw [if_neg (by simp)]
  have f3 := f2
  simp at f3
  rw [show (1 : Int32) = i32 1 from rfl, f3]
  simpa using r1
/-- who is next -/
theorem M_next_s {C : kx_C} {l : List Nat} (hl : l.length ≤ 256) (h0 : 0 < l.length) : ∀ n i f w, SH w → i + n + 1 = l.length → n + 1 ≤ f → hp_I w 1822 4363 = i32 (l.length - 1) →
    (∀ j x, j < i → (l.eraseIdx 0)[j]? = some x → rRd w j x) → (∀ j x, i < j → l[j]? = some x → rRd w j x) →
    ∃ w' f', kx_ex (wm_109 d C) f 56 [(0, kx_r 9 (some 4363)), (1, kx_i (i32 i))] [] w = kx_ex (wm_109 d C) (f' + 1) 56 [(0, kx_r 9 (some 4363)), (1, kx_i (i32 (l.length - 1)))] [] w' ∧ Lrd w' (l.eraseIdx 0) ∧ FR [1822, 8743] [] [] [] w w' := by
  intro n
  induction n with
  | zero =>
    intro i f w H hi hf h1 h2 h3
    obtain ⟨f, rfl⟩ : ∃ f', f = f' + 1 := ⟨f - 1, by omega⟩
    refine ⟨w, f, by rw [show l.length - 1 = i by omega], ⟨by rw [List.length_eraseIdx_of_lt h0]; exact h1, fun j x hj => h2 j x ?_ hj⟩, FR.rf⟩
    have := (List.getElem?_eq_some_iff.mp hj).1
    rw [List.length_eraseIdx_of_lt h0] at this
    omega
  | succ n ih =>
    intro i f w H hi hf h1 h2 h3
    obtain ⟨r1808, r1810, r1812, r1814, r1816, r1818, r1820, r1824, r1826, r1828, r1830, r1836, r1838, r1842, r1844, r1846, r1848, r1850, r1854, r1856, r1858, r1862, r1864, r1866, r1870, r1872, r1874, r1878, r1880, n4364, n4365, n4366, n4367, n4368, n4369, n4370, n4371, n4372, n4373, n4374, n4375, n4376, n4377, n4378, n4379, n4380, n4381, n4382, n4383, n4384, n4385, n4386, n4387, n4388, n4389, n4390, n4391, n4392⟩ := id H
    obtain ⟨f, rfl⟩ : ∃ f', f = f' + 1 := ⟨f - 1, by omega⟩
    obtain ⟨y, hy⟩ : ∃ y, l[i + 1]? = some y := ⟨l[i + 1], List.getElem?_eq_getElem (by omega)⟩
    obtain ⟨y1, y2⟩ := h3 (i + 1) y (by omega) hy
    have F : FR [1822, 8743] [] [] [] w (hp_sI w 8743 i (i32 y)) := FR.sI (by decide) FR.rf
    obtain ⟨w', f', r1, r2, r3⟩ := ih (i + 1) f (hp_sI w 8743 i (i32 y)) (H.cong rfl rfl) (by omega) (by omega) (by simpa [hI_I, hI_L, hI_R, hI_B, hI_b, hL_I, hL_L, hL_R, hL_B, hL_b, hR_I, hR_L, hR_R, hR_B, hR_b, hB_I, hB_L, hB_R, hB_B, hB_b, hN_I, hN_L, hN_R, hN_B, hN_b, hT_I, hT_L, hT_R, hT_B, hT_b, hX_I, hX_L, hX_R, hX_B, hX_b, hC_I, hC_L, hC_R, hC_B, hC_b, hU_I, hU_L, hU_R, hU_B, hU_b] using h1) (by
        intro j x hj hx
        by_cases hji : j = i
        · subst hji
          rw [List.getElem?_eraseIdx_of_ge (by omega), hy] at hx
          cases hx
          simp [rRd, hI_I, hI_L, hI_R, hI_B, hI_b, hL_I, hL_L, hL_R, hL_B, hL_b, hR_I, hR_L, hR_R, hR_B, hR_b, hB_I, hB_L, hB_R, hB_B, hB_b, hN_I, hN_L, hN_R, hN_B, hN_b, hT_I, hT_L, hT_R, hT_B, hT_b, hX_I, hX_L, hX_R, hX_B, hX_b, hC_I, hC_L, hC_R, hC_B, hC_b, hU_I, hU_L, hU_R, hU_B, hU_b, y2]
        · have := h2 j x (by omega) hx
          simp [rRd, hI_I, hI_L, hI_R, hI_B, hI_b, hL_I, hL_L, hL_R, hL_B, hL_b, hR_I, hR_L, hR_R, hR_B, hR_b, hB_I, hB_L, hB_R, hB_B, hB_b, hN_I, hN_L, hN_R, hN_B, hN_b, hT_I, hT_L, hT_R, hT_B, hT_b, hX_I, hX_L, hX_R, hX_B, hX_b, hC_I, hC_L, hC_R, hC_B, hC_b, hU_I, hU_L, hU_R, hU_B, hU_b, hji]
          exact this) (by
        intro j x hj hx
        have := h3 j x (by omega) hx
        have hji : j ≠ i := by omega
        simp [rRd, hI_I, hI_L, hI_R, hI_B, hI_b, hL_I, hL_L, hL_R, hL_B, hL_b, hR_I, hR_L, hR_R, hR_B, hR_b, hB_I, hB_L, hB_R, hB_B, hB_b, hN_I, hN_L, hN_R, hN_B, hN_b, hT_I, hT_L, hT_R, hT_B, hT_b, hX_I, hX_L, hX_R, hX_B, hX_b, hC_I, hC_L, hC_R, hC_B, hC_b, hU_I, hU_L, hU_R, hU_B, hU_b, hji]
        exact this)
    refine ⟨w', f', ?_, r2, F.tr r3⟩
    rw [me_109_56]
    unfold mb_109_56
    simp only [ob_s, hR_I, hR_L, hR_B, hN_I, hN_L, hN_B, r1808, r1810, r1812, r1814, r1816, r1818, r1820, r1824, r1826, r1828, r1830, r1836, r1838, r1842, r1844, r1846, r1848, r1850, r1854, r1856, r1858, r1862, r1864, r1866, r1870, r1872, r1874, r1878, r1880, n4364, n4365, n4366, n4367, n4368, n4369, n4370, n4371, n4372, n4373, n4374, n4375, n4376, n4377, n4378, n4379, n4380, n4381, n4382, n4383, n4384, n4385, n4386, n4387, n4388, n4389, n4390, n4391, n4392, h1, i32_add1, i32_nat (n := i) (by omega), i32_jx (n := i) (k := 256) (by omega) (by omega), i32_nat (n := i + 1) (by omega), i32_jx (n := i + 1) (k := 256) (by omega) (by omega), if_false, y1]
    rw [if_neg (by rw [i32_le (by omega) (by omega)]; omega)]
    exact r1
theorem M_pick {C : kx_C} {f : Nat} (M : MR w S) (B : SB S) (hf : 300 ≤ f) : ∃ w', kx_ex (wm_109 d C) f 21 [(0, kx_r 9 (some 4363))] [] w = some (.inl none, w') ∧ MR w' (sPick S) ∧ FM w w' := by
  obtain ⟨r1808, r1810, r1812, r1814, r1816, r1818, r1820, r1824, r1826, r1828, r1830, r1836, r1838, r1842, r1844, r1846, r1848, r1850, r1854, r1856, r1858, r1862, r1864, r1866, r1870, r1872, r1874, r1878, r1880, n4364, n4365, n4366, n4367, n4368, n4369, n4370, n4371, n4372, n4373, n4374, n4375, n4376, n4377, n4378, n4379, n4380, n4381, n4382, n4383, n4384, n4385, n4386, n4387, n4388, n4389, n4390, n4391, n4392⟩ := id M.sh
  obtain ⟨f, rfl⟩ : ∃ f', f = f' + 1 := ⟨f - 1, by omega⟩
  have e1 := M.rd.1
  have hlen : S.rd.length ≤ 256 := pgh 256 S.rd B.rn (fun x hx => (B.rs x hx).1)
  rw [me_109_21]
  unfold mb_109_21 sPick
  cases h : S.rd with
  | nil =>
    rw [h] at e1
    have F : FR [1804] [] [] [] w (hp_sI w 1804 4363 2) := FR.sI (by decide) FR.rf
    have M1 := M.of_st (v := 2) F (by simp [hI_I])
    refine ⟨_, ?_, M1, FM.of F (by decide) (by decide) (by decide)⟩
    simp only [ob_s, e1]
    rw [if_pos (by rfl)]
  | cons t r =>
    have ht := (B.rs t (by rw [h]; simp)).1
    have hlen2 : S.rd.length = r.length + 1 := by rw [h]; rfl
    have F1 : FR [1802] [] [] [] w (hp_sI w 1802 4363 (i32 t)) := FR.sI (by decide) FR.rf
    have M1 := M.of_cu (v := some t) F1 (by simp [hI_I, fidx])
    have F2 : FR [1822, 8743] [] [] [] (hp_sI w 1802 4363 (i32 t)) (hp_sI (hp_sI w 1802 4363 (i32 t)) 1822 4363 (i32 (S.rd.length - 1))) := FR.sI (by decide) FR.rf
    obtain ⟨w2, f', r1, r2, r3⟩ := M_next_s (d := d) (C := C) (l := S.rd) hlen (by omega) (S.rd.length - 1) 0 f (hp_sI (hp_sI w 1802 4363 (i32 t)) 1822 4363 (i32 (S.rd.length - 1))) (M.sh.cong rfl rfl) (by omega) (by omega) (by simp [hI_I]) (by intro j x hj; omega) (by
      intro j x hj hx
      have := M.rd.2 j x hx
      simp [rRd, hI_I, hI_L, hI_R, hI_B, hI_b, hL_I, hL_L, hL_R, hL_B, hL_b, hR_I, hR_L, hR_R, hR_B, hR_b, hB_I, hB_L, hB_R, hB_B, hB_b, hN_I, hN_L, hN_R, hN_B, hN_b, hT_I, hT_L, hT_R, hT_B, hT_b, hX_I, hX_L, hX_R, hX_B, hX_b, hC_I, hC_L, hC_R, hC_B, hC_b, hU_I, hU_L, hU_R, hU_B, hU_b]
      exact this)
    rw [h] at r2
    have M2 := M1.of_rd (F2.tr r3) r2
    have F3 : FR [8731, 8733, 8739, 8749, 8771, 8773, 8775] [8735] [] [8729, 8737, 8741, 8745, 8747] w2 (hp_sI w2 8731 t 0) := FR.sI (by decide) FR.rf
    have M3 := M2.of_ag F3 (AG.sI M2.ag)
    have FF := ((FM.of F1 (by decide) (by decide) (by decide)).tr (FM.of (F2.tr r3) (by decide) (by decide) (by decide))).tr (FM.of F3 (by decide) (by decide) (by decide))
    refine ⟨_, ?_, M3, FF⟩
    have y1 := (M.rd.2 0 t (by rw [h]; rfl)).1
    have z0 : (0 : Int32).toNatClampNeg = 0 := rfl
    have e2 : i32 S.rd.length - 1 = i32 (S.rd.length - 1) := by
      obtain ⟨q, hq⟩ : ∃ q, S.rd.length = q + 1 := ⟨S.rd.length - 1, by omega⟩
      rw [hq, i32_sub1]
      rfl
    simp only [ob_s, hR_I, hR_L, hR_B, hN_I, hN_L, hN_B, r1808, r1810, r1812, r1814, r1816, r1818, r1820, r1824, r1826, r1828, r1830, r1836, r1838, r1842, r1844, r1846, r1848, r1850, r1854, r1856, r1858, r1862, r1864, r1866, r1870, r1872, r1874, r1878, r1880, n4364, n4365, n4366, n4367, n4368, n4369, n4370, n4371, n4372, n4373, n4374, n4375, n4376, n4377, n4378, n4379, n4380, n4381, n4382, n4383, n4384, n4385, n4386, n4387, n4388, n4389, n4390, n4391, n4392, e1, z0, y1, hI_I, Nat.reduceEqDiff, false_and, if_false, e2]
    rw [if_neg (by rw [show (0 : Int32) = i32 0 from rfl, i32_eq (by omega) (by omega)]; omega), if_neg (by simp)]
    rw [show (kx_i (0 : Int32)) = kx_i (i32 0) from rfl, r1, me_109_56]
    unfold mb_109_56
    have c2 : hp_I w2 1802 4363 = i32 t := M2.cu
    have l2 : hp_I w2 1822 4363 = i32 r.length := M2.rd.1
    have hR : hp_R w2 = hp_R w := ((FM.of F1 (by decide) (by decide) (by decide)).tr (FM.of (F2.tr r3) (by decide) (by decide) (by decide))).r
    have hN : hp_N w2 = hp_N w := ((FM.of F1 (by decide) (by decide) (by decide)).tr (FM.of (F2.tr r3) (by decide) (by decide) (by decide))).n
    simp only [ob_s, hR, hN, r1808, r1810, r1812, r1814, r1816, r1818, r1820, r1824, r1826, r1828, r1830, r1836, r1838, r1842, r1844, r1846, r1848, r1850, r1854, r1856, r1858, r1862, r1864, r1866, r1870, r1872, r1874, r1878, r1880, n4364, n4365, n4366, n4367, n4368, n4369, n4370, n4371, n4372, n4373, n4374, n4375, n4376, n4377, n4378, n4379, n4380, n4381, n4382, n4383, n4384, n4385, n4386, n4387, n4388, n4389, n4390, n4391, n4392, c2, l2, i32_nat (n := t) (by omega), i32_jx (n := t) (k := 256) (by omega) (by omega), if_false]
    rw [if_pos (by rw [i32_le (by omega) (by omega)]; omega)]
theorem al_r1 {x : Int64} {e : kMe} {k : Nat} (h : S.al = k + (if e.2 = x ∧ e.1.isRight = true then 1 else 0)) : (sRing1 x S e).al = k := by
  unfold sRing1
  obtain ⟨e1, e2⟩ := e
  by_cases hx : e2 = x
  · rw [if_pos hx]
    cases e1 with
    | inl t =>
      show S.al = k
      simpa [hx] using h
    | inr c =>
      show (sRings _ c).al = k
      rw [sRings_al]
      simp [hx] at h
      show S.al - 1 = k
      omega
  · rw [if_neg hx]
    simpa [hx] using h
theorem al_fold {x : Int64} (R : List kMe) : ∀ (S : kS) (k : Nat), S.al = k + R.countP (fun e => e.1.isRight) → (R.foldl (sRing1 x) S).al = k + (R.filter (fun e => e.2 != x)).countP (fun e => e.1.isRight) := by
  induction R with
  | nil => intro S k h; simpa using h
  | cons e R ih =>
    intro S k h
    rw [List.foldl_cons]
    rw [List.countP_cons] at h
    by_cases hx : e.2 = x
    · have h1 := al_r1 (x := x) (S := S) (e := e) (k := k + R.countP (fun e => e.1.isRight)) (by rw [h]; simp [hx]; split <;> omega)
      rw [ih _ k h1]
      simp [hx]
    · have e1 : sRing1 x S e = S := if_neg hx
      rw [e1, ih S (k + if e.1.isRight = true then 1 else 0) (by omega)]
      simp [hx, List.countP_cons]
      omega
/-- the alarms are counted -/
def SA (S : kS) : Prop := S.al = S.me.countP (fun e => e.1.isRight)
theorem SA.ring (h : SA S) : SA (sRing S) := by
  have := al_fold (x := sLeast S.me) S.me (kS.s_clk S (sLeast S.me)) 0 (by simpa [SA] using h)
  simpa [SA, sRing] using this
theorem M_next_l {C : kx_C} (hC : C = kx_ev wx_M (d + 5)) {k0 : Nat} (hk0 : k0 ≤ 512) : ∀ n f w (S : kS), MR w S → SB S → SL S k0 → SA S → S.me.length ≤ n → n + 301 ≤ f →
    ∃ w', kx_ex (wm_109 (d + 5) C) f 0 [(0, kx_r 9 (some 4363))] [] w = some (.inl none, w') ∧ MR w' (sPick (sLoop n S)) ∧ FM w w' := by
  intro n
  induction n with
  | zero =>
    intro f w S M B hl ha hn hf
    obtain ⟨f, rfl⟩ : ∃ f', f = f' + 1 := ⟨f - 1, by omega⟩
    have h0 : S.me = [] := List.eq_nil_of_length_eq_zero (by omega)
    have e2 := M.me.1
    rw [h0] at e2
    rw [me_109_0]
    unfold mb_109_0
    simp only [ob_s, e2]
    rw [if_pos (show i32 ([] : List kMe).length ≤ 0 by decide), ite_self]
    exact M_pick M B (by omega)
  | succ n ih =>
    intro f w S M B hl ha hn hf
    obtain ⟨f, rfl⟩ : ∃ f', f = f' + 1 := ⟨f - 1, by omega⟩
    have hlen : S.rd.length ≤ 256 := pgh 256 S.rd B.rn (fun x hx => (B.rs x hx).1)
    have hl1 := hl.1
    rw [me_109_0]
    unfold mb_109_0
    simp only [ob_s, M.rd.1, M.me.1]
    unfold sLoop
    by_cases h1 : S.rd = []
    · rw [if_pos (by rw [h1]; rfl)]
      by_cases h2 : S.me = []
      · rw [if_pos (by rw [h2]; decide), if_neg (by simp [h2])]
        exact M_pick M B (by omega)
      · have h3 : 0 < S.me.length := by
          cases h : S.me with
          | nil => exact absurd h h2
          | cons a l => simp
        rw [if_neg (by rw [i32_p0 (by omega)]; exact not_not_intro h3), if_pos ⟨h1, h2⟩]
        obtain ⟨w1, a1, M1, F1⟩ := M_ring (d := d) M B hl hk0 (by rw [← ha]; exact Nat.le_refl _) h2
        obtain ⟨w', r1, r2, r3⟩ := ih f w1 (sRing S) M1 B.ring hl.ring ha.ring (by have := sRing_lt h2; omega) (by omega)
        refine ⟨w', ?_, r2, F1.tr r3⟩
        rw [hC, a1, bv_n, ← hC]
        exact r1
    · have h3 : 0 < S.rd.length := by
        cases h : S.rd with
        | nil => exact absurd h h1
        | cons a l => simp
      rw [if_neg (by rw [show (0 : Int32) = i32 0 from rfl, i32_eq (by omega) (by omega)]; omega), if_neg (fun h => h1 h.1)]
      exact M_pick M B (by omega)
theorem M_next {k : Nat} (M : MR w S) (B : SB S) (hl : SL S k) (hk : k ≤ 512) (ha : SA S) : ∃ w', kx_ev wx_M (d + 6) 109 [kx_r 9 (some 4363)] w = some (.inl none, w') ∧ MR w' (sNext S) ∧ FM w w' := by
  obtain ⟨ψ, hψ⟩ := kx_fl 2000 (by omega)
  have hl1 := hl.1
  obtain ⟨w', r1, r2, r3⟩ := M_next_l (d := d) rfl hk S.me.length (ψ + 2000 + 1) w S M B hl ha (by omega) (by omega)
  refine ⟨w', ?_, r2, r3⟩
  rw [← r1, mE_109 hψ, me_109_0]
theorem M_rest {k : Nat} {how place : Int32} (M : MR w S) (hc : S.cur = some t) (ht : t < 256) (B : SB (kS.s_cur ((kS.s_m S (hp_sI (hp_sI S.m 8731 t how) 8733 t place))) (none))) (hl : SL S k) (hk : k ≤ 512) (ha : SA S) : ∃ w', kx_ev wx_M (d + 7) 108 [kx_r 9 (some 4363), kx_i how, kx_i place] w = some (.inl none, w') ∧ MR w' (sRest S t how place) ∧ FM w w' := by
  obtain ⟨r1808, r1810, r1812, r1814, r1816, r1818, r1820, r1824, r1826, r1828, r1830, r1836, r1838, r1842, r1844, r1846, r1848, r1850, r1854, r1856, r1858, r1862, r1864, r1866, r1870, r1872, r1874, r1878, r1880, n4364, n4365, n4366, n4367, n4368, n4369, n4370, n4371, n4372, n4373, n4374, n4375, n4376, n4377, n4378, n4379, n4380, n4381, n4382, n4383, n4384, n4385, n4386, n4387, n4388, n4389, n4390, n4391, n4392⟩ := id M.sh
  have F : FR [8731, 8733, 8739, 8749, 8771, 8773, 8775] [8735] [] [8729, 8737, 8741, 8745, 8747] w (hp_sI (hp_sI w 8731 t how) 8733 t place) := FR.sI (by decide) (FR.sI (by decide) FR.rf)
  have M1 := M.of_ag F (AG.sI (AG.sI M.ag))
  have F2 : FR [1802] [] [] [] (hp_sI (hp_sI w 8731 t how) 8733 t place) (hp_sI (hp_sI (hp_sI w 8731 t how) 8733 t place) 1802 4363 (-1)) := FR.sI (by decide) FR.rf
  have M2 := M1.of_cu (v := none) F2 (by simp [hI_I, fidx])
  obtain ⟨w', r1, r2, r3⟩ := M_next (d := d) (k := k) M2 B hl hk ha
  refine ⟨w', ?_, r2, ((FM.of F (by decide) (by decide) (by decide)).tr (FM.of F2 (by decide) (by decide) (by decide))).tr r3⟩
  obtain ⟨ψ, hψ⟩ := kx_fu
  rw [mE_108 hψ]
  unfold mb_108_0
  have cu : hp_I w 1802 4363 = i32 t := by rw [M.cu, hc]; rfl
  simp only [ob_s, hR_I, hR_L, hR_B, hN_I, hN_L, hN_B, r1808, r1810, r1812, r1814, r1816, r1818, r1820, r1824, r1826, r1828, r1830, r1836, r1838, r1842, r1844, r1846, r1848, r1850, r1854, r1856, r1858, r1862, r1864, r1866, r1870, r1872, r1874, r1878, r1880, n4364, n4365, n4366, n4367, n4368, n4369, n4370, n4371, n4372, n4373, n4374, n4375, n4376, n4377, n4378, n4379, n4380, n4381, n4382, n4383, n4384, n4385, n4386, n4387, n4388, n4389, n4390, n4391, n4392, Nat.reduceMul, Nat.reduceAdd, Nat.reduceEqDiff, false_and, if_false, cu, hI_I, i32_nat (n := t) (by omega), i32_jx (n := t) (k := 256) (by omega) (by omega), r1, bv_n]
end M5
