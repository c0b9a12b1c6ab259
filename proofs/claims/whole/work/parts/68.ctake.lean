/-! a value is taken; what a channel takes or gives at once -/
section CTK
variable {w w' : kx_H} {S S' : kS} {t g n d c : Nat} {x how st : Int32} {v val : Int64} {f b : Bool} {Q : List kQ} {fp tp fv ft : List Nat} {V : List (Nat × Int64 × Nat)} {A : List (Nat × kMe)} {l : kLoc}
theorem vCe_er : vCe (V.eraseP (fun x => x.1 == c)) g = if g = c then (vCe V c).tail else vCe V g := by
  unfold vCe
  induction V with
  | nil => simp
  | cons a V ih =>
    by_cases ha : a.1 = c
    · rw [List.eraseP_cons_of_pos (by simp [ha])]
      by_cases hg : g = c
      · rw [if_pos hg, List.filter_cons_of_pos (by simp [ha]), hg]
        simp
      · rw [if_neg hg, List.filter_cons_of_neg (by simp [ha]; exact Ne.symm hg)]
    · rw [List.eraseP_cons_of_neg (by simp [ha])]
      by_cases hg : g = c
      · rw [if_pos hg] at ih ⊢
        rw [List.filter_cons_of_neg (by rw [hg]; simp [ha]), List.filter_cons_of_neg (by simp [ha])]
        exact ih
      · rw [if_neg hg] at ih ⊢
        by_cases hag : a.1 = g
        · rw [List.filter_cons_of_pos (by simp [hag]), List.filter_cons_of_pos (by simp [hag]), List.map_cons, List.map_cons, ih]
        · rw [List.filter_cons_of_neg (by simp [hag]), List.filter_cons_of_neg (by simp [hag]), ih]
theorem er_map : (V.eraseP (fun x => x.1 == c)).map (fun x => (x.1, x.2.1)) = (V.map (fun x => (x.1, x.2.1))).eraseP (vAt c) := by
  induction V with
  | nil => rfl
  | cons a V ih =>
    by_cases ha : a.1 = c
    · rw [List.eraseP_cons_of_pos (by simp [ha]), List.map_cons, List.eraseP_cons_of_pos (by simp [vAt, ha])]
    · rw [List.eraseP_cons_of_neg (by simp [ha]), List.map_cons, List.map_cons, List.eraseP_cons_of_neg (by simp [vAt, ha]), ih]
/-- the first value of a channel -/
theorem v_first (hv : CV w S.mv V fv) (h0 : 0 < sCnt S c) : ∃ y r, vCe V c = y :: r ∧ (c, sTkV S c, y) ∈ V ∧ List.Perm (y :: (V.eraseP (fun x => x.1 == c)).map (·.2.2)) (V.map (·.2.2)) ∧ (V.eraseP (fun x => x.1 == c)).length + 1 = V.length := by
  have hm := hv.mv
  unfold sCnt at h0
  unfold sTkV
  rw [hm] at h0 ⊢
  clear hm hv
  induction V with
  | nil => simp at h0
  | cons a V ih =>
    by_cases ha : a.1 = c
    · refine ⟨a.2.2, vCe V c, ?_, ?_, ?_, ?_⟩
      · unfold vCe
        rw [List.filter_cons_of_pos (by simp [ha])]
        rfl
      · rw [List.map_cons, fd_ye (by simp [vAt, ha])]
        simp
        left
        rw [← ha]
      · rw [List.eraseP_cons_of_pos (by simp [ha])]
        exact List.Perm.refl _
      · rw [List.eraseP_cons_of_pos (by simp [ha])]
        rfl
    · have h0' : 0 < (V.map (fun x => (x.1, x.2.1))).countP (vAt c) := by
        rw [List.map_cons, List.countP_cons_of_neg (by simp [vAt, ha])] at h0
        exact h0
      obtain ⟨y, r, i1, i2, i3, i4⟩ := ih h0'
      refine ⟨y, r, ?_, ?_, ?_, ?_⟩
      · unfold vCe at i1 ⊢
        rw [List.filter_cons_of_neg (by simp [ha])]
        exact i1
      · rw [List.map_cons, fd_no (by simp [vAt, ha])]
        exact List.mem_cons_of_mem _ i2
      · rw [List.eraseP_cons_of_neg (by simp [ha]), List.map_cons, List.map_cons]
        exact (List.Perm.swap _ _ _).trans (List.Perm.cons _ i3)
      · rw [List.eraseP_cons_of_neg (by simp [ha])]
        simp
        exact i4
/-- TaskDesk.takeValue -/
theorem C_tk (H : CX w S n Q fp tp V fv A ft) (hc : c < 512) (h0 : 0 < sCnt S c) : ∃ w' V' fv', kx_ev wx_M (d + 2) 17 [kx_r 0 (some 1), kx_r 2 (some (1035 + 3 * c))] w = some (.inl (some (.inr (.inl (sTkV S c)))), w') ∧ CX w' (sTkF S c) n Q fp tp V' fv' A ft ∧ FR [412] [] [1602, 416, 418, 24] [] w w' := by
  have hv := H.v
  obtain ⟨y, r, hce, hyV, hperm, hvl⟩ := v_first hv h0
  obtain ⟨c1, c2⟩ := hv.chn c hc
  rw [hce] at c1 c2
  obtain ⟨c3, c4⟩ := c1
  have hnd := hv.nd
  obtain ⟨m2, m3, m4⟩ := List.nodup_append.mp hnd
  have hyM : y ∈ V.map (·.2.2) := List.mem_map.mpr ⟨_, hyV, rfl⟩
  have hyf : y ∉ fv := fun h => m4 y h y hyM rfl
  have ndc : (y :: r).Nodup := by rw [← hce]; exact (vCe_sub V c).nodup m3
  have hyr : y ∉ r := (List.nodup_cons.mp ndc).1
  have he := H.c.he c hc
  have hcl := sCnt_le S c
  obtain ⟨k, hk⟩ : ∃ k, sCnt S c = k + 1 := ⟨sCnt S c - 1, by omega⟩
  have hsc : sCnt (sTkF S c) c = k := by
    have h5 := cnt_er (p := vAt c) h0
    show (S.mv.eraseP (vAt c)).countP (vAt c) = k
    have h9 : S.mv.countP (vAt c) = k + 1 := hk
    omega
  have hsn : ∀ j, j ≠ c → sCnt (sTkF S c) j = sCnt S j := fun j hj => by
    show (S.mv.eraseP (vAt c)).countP (vAt j) = S.mv.countP (vAt j)
    generalize S.mv = L
    induction L with
    | nil => rfl
    | cons a L ih =>
      by_cases ha : vAt c a = true
      · have : vAt j a = false := by
          simp [vAt] at ha ⊢
          rw [ha]
          exact Ne.symm hj
        rw [List.eraseP_cons_of_pos ha, List.countP_cons_of_neg (by simp [this])]
      · rw [List.eraseP_cons_of_neg ha, List.countP_cons, List.countP_cons, ih]
  have hnum : hp_L w 1600 y = sTkV S c := hv.nu _ hyV
  have main : ∃ w', kx_ev wx_M (d + 2) 17 [kx_r 0 (some 1), kx_r 2 (some (1035 + 3 * c))] w = some (.inl (some (.inr (.inl (sTkV S c)))), w') ∧ FR [412] [] [1602, 416, 418, 24] [] w w' ∧
      (∀ q, hp_R w' 1602 q = if q = y then hp_R w 24 1 else hp_R w 1602 q) ∧ (∀ q, hp_R w' 416 q = if q = 1035 + 3 * c then r.head? else hp_R w 416 q) ∧ (∀ q, hp_R w' 418 q = if q = 1035 + 3 * c then r.getLast? else hp_R w 418 q) ∧ hp_R w' 24 1 = some y ∧ (∀ q, hp_I w' 412 q = if q = 1035 + 3 * c then i32 k else hp_I w 412 q) := by
    have hb : hp_R w 1602 y = r.head? := c4.hd
    have a18 : ∃ w2, kx_ev wx_M (d + 1) 18 [kx_r 2 (some (1035 + 3 * c))] w = some (.inl none, w2) ∧ FR [412] [] [416, 418] [] w w2 ∧ (∀ q, hp_R w2 416 q = if q = 1035 + 3 * c then r.head? else hp_R w 416 q) ∧ (∀ q, hp_R w2 418 q = if q = 1035 + 3 * c then r.getLast? else hp_R w 418 q) ∧ (∀ q, hp_I w2 412 q = if q = 1035 + 3 * c then i32 k else hp_I w 412 q) := by
      cases r with
      | nil =>
        refine ⟨hp_sI (hp_sR (hp_sR w 416 (1035 + 3 * c) none) 418 (1035 + 3 * c) none) 412 (1035 + 3 * c) (i32 k), ?_, FR.sI (by decide) (FR.sR (by decide) (FR.sR (by decide) FR.rf)), ?_, ?_, ?_⟩
        · skip
          obtain ⟨ψ, hψ⟩ := kx_fu
          rw [mE_18 hψ]
          unfold mb_18_0
          simp only [ob_s, c3, reduceCtorEq, if_false, hb, List.head?_nil, hI_I, hI_L, hI_R, hI_B, hI_b, hL_I, hL_L, hL_R, hL_B, hL_b, hR_I, hR_L, hR_R, hR_B, hR_b, hB_I, hB_L, hB_R, hB_B, hB_b, hN_I, hN_L, hN_R, hN_B, hN_b, hT_I, hT_L, hT_R, hT_B, hT_b, hX_I, hX_L, hX_R, hX_B, hX_b, hC_I, hC_L, hC_R, hC_B, hC_b, hU_I, hU_L, hU_R, hU_B, hU_b, and_self, if_true, me_18_31, mb_18_31, he, hk, i32_sub1]
        · intro q; by_cases hq : q = 1035 + 3 * c <;> simp [hI_I, hI_L, hI_R, hI_B, hI_b, hL_I, hL_L, hL_R, hL_B, hL_b, hR_I, hR_L, hR_R, hR_B, hR_b, hB_I, hB_L, hB_R, hB_B, hB_b, hN_I, hN_L, hN_R, hN_B, hN_b, hT_I, hT_L, hT_R, hT_B, hT_b, hX_I, hX_L, hX_R, hX_B, hX_b, hC_I, hC_L, hC_R, hC_B, hC_b, hU_I, hU_L, hU_R, hU_B, hU_b, hq]
        · intro q; by_cases hq : q = 1035 + 3 * c <;> simp [hI_I, hI_L, hI_R, hI_B, hI_b, hL_I, hL_L, hL_R, hL_B, hL_b, hR_I, hR_L, hR_R, hR_B, hR_b, hB_I, hB_L, hB_R, hB_B, hB_b, hN_I, hN_L, hN_R, hN_B, hN_b, hT_I, hT_L, hT_R, hT_B, hT_b, hX_I, hX_L, hX_R, hX_B, hX_b, hC_I, hC_L, hC_R, hC_B, hC_b, hU_I, hU_L, hU_R, hU_B, hU_b, hq]
        · intro q; by_cases hq : q = 1035 + 3 * c <;> simp [hI_I, hI_L, hI_R, hI_B, hI_b, hL_I, hL_L, hL_R, hL_B, hL_b, hR_I, hR_L, hR_R, hR_B, hR_b, hB_I, hB_L, hB_R, hB_B, hB_b, hN_I, hN_L, hN_R, hN_B, hN_b, hT_I, hT_L, hT_R, hT_B, hT_b, hX_I, hX_L, hX_R, hX_B, hX_b, hC_I, hC_L, hC_R, hC_B, hC_b, hU_I, hU_L, hU_R, hU_B, hU_b, hq]
      | cons z r =>
        refine ⟨hp_sI (hp_sR w 416 (1035 + 3 * c) (some z)) 412 (1035 + 3 * c) (i32 k), ?_, FR.sI (by decide) (FR.sR (by decide) FR.rf), ?_, ?_, ?_⟩
        · skip
          obtain ⟨ψ, hψ⟩ := kx_fu
          rw [mE_18 hψ]
          unfold mb_18_0
          simp only [ob_s, c3, reduceCtorEq, if_false, hb, List.head?_cons, hI_I, hI_L, hI_R, hI_B, hI_b, hL_I, hL_L, hL_R, hL_B, hL_b, hR_I, hR_L, hR_R, hR_B, hR_b, hB_I, hB_L, hB_R, hB_B, hB_b, hN_I, hN_L, hN_R, hN_B, hN_b, hT_I, hT_L, hT_R, hT_B, hT_b, hX_I, hX_L, hX_R, hX_B, hX_b, hC_I, hC_L, hC_R, hC_B, hC_b, hU_I, hU_L, hU_R, hU_B, hU_b, and_self, if_true, me_18_31, mb_18_31, he, hk, i32_sub1]
        · intro q; by_cases hq : q = 1035 + 3 * c <;> simp [hI_I, hI_L, hI_R, hI_B, hI_b, hL_I, hL_L, hL_R, hL_B, hL_b, hR_I, hR_L, hR_R, hR_B, hR_b, hB_I, hB_L, hB_R, hB_B, hB_b, hN_I, hN_L, hN_R, hN_B, hN_b, hT_I, hT_L, hT_R, hT_B, hT_b, hX_I, hX_L, hX_R, hX_B, hX_b, hC_I, hC_L, hC_R, hC_B, hC_b, hU_I, hU_L, hU_R, hU_B, hU_b, hq]
        · intro q
          by_cases hq : q = 1035 + 3 * c
          · rw [if_pos hq, hq]
            simp only [hI_I, hI_L, hI_R, hI_B, hI_b, hL_I, hL_L, hL_R, hL_B, hL_b, hR_I, hR_L, hR_R, hR_B, hR_b, hB_I, hB_L, hB_R, hB_B, hB_b, hN_I, hN_L, hN_R, hN_B, hN_b, hT_I, hT_L, hT_R, hT_B, hT_b, hX_I, hX_L, hX_R, hX_B, hX_b, hC_I, hC_L, hC_R, hC_B, hC_b, hU_I, hU_L, hU_R, hU_B, hU_b]
            rw [c2]
            simp [List.getLast?_cons_cons]
          · simp [hI_I, hI_L, hI_R, hI_B, hI_b, hL_I, hL_L, hL_R, hL_B, hL_b, hR_I, hR_L, hR_R, hR_B, hR_b, hB_I, hB_L, hB_R, hB_B, hB_b, hN_I, hN_L, hN_R, hN_B, hN_b, hT_I, hT_L, hT_R, hT_B, hT_b, hX_I, hX_L, hX_R, hX_B, hX_b, hC_I, hC_L, hC_R, hC_B, hC_b, hU_I, hU_L, hU_R, hU_B, hU_b, hq]
        · intro q; by_cases hq : q = 1035 + 3 * c <;> simp [hI_I, hI_L, hI_R, hI_B, hI_b, hL_I, hL_L, hL_R, hL_B, hL_b, hR_I, hR_L, hR_R, hR_B, hR_b, hB_I, hB_L, hB_R, hB_B, hB_b, hN_I, hN_L, hN_R, hN_B, hN_b, hT_I, hT_L, hT_R, hT_B, hT_b, hX_I, hX_L, hX_R, hX_B, hX_b, hC_I, hC_L, hC_R, hC_B, hC_b, hU_I, hU_L, hU_R, hU_B, hU_b, hq]
    obtain ⟨w2, b1, b2, b3, b4, b5⟩ := a18
    have F3 : FR [412] [] [1602, 416, 418, 24] [] w2 (hp_sR (hp_sR w2 1602 y (hp_R w2 24 1)) 24 1 (some y)) := FR.sR (by decide) (FR.sR (by decide) FR.rf)
    have a9 : kx_ev wx_M (d + 1) 9 [kx_r 0 (some 1), kx_r 8 (some y)] w2 = some (.inl none, hp_sR (hp_sR w2 1602 y (hp_R w2 24 1)) 24 1 (some y)) := by
      obtain ⟨ψ, hψ⟩ := kx_fu
      rw [mE_9 hψ]
      unfold mb_9_0
      simp only [ob_s]
    have e24 : hp_R w2 24 = hp_R w 24 := b2.R 24 (by decide)
    have e1602 : hp_R w2 1602 = hp_R w 1602 := b2.R 1602 (by decide)
    have e1600 : hp_L w2 1600 = hp_L w 1600 := b2.L 1600 (by decide)
    refine ⟨_, ?_, (b2.mono (fun _ h => h) (fun _ h => h) (fun k h => by revert k; decide) (fun _ h => h)).tr F3, ?_, ?_, ?_, ?_, ?_⟩
    · skip
      obtain ⟨ψ, hψ⟩ := kx_fu
      rw [mE_17 hψ]
      unfold mb_17_0
      have hn5 : hp_L (hp_sR (hp_sR w2 1602 y (hp_R w2 24 1)) 24 1 (some y)) 1600 y = sTkV S c := by
        rw [← hnum, ← e1600]
        rfl
      simp only [ob_s, c3, reduceCtorEq, if_false, b1, bv_n, a9, hn5]
    · intro q; by_cases hq : q = y <;> simp [hI_I, hI_L, hI_R, hI_B, hI_b, hL_I, hL_L, hL_R, hL_B, hL_b, hR_I, hR_L, hR_R, hR_B, hR_b, hB_I, hB_L, hB_R, hB_B, hB_b, hN_I, hN_L, hN_R, hN_B, hN_b, hT_I, hT_L, hT_R, hT_B, hT_b, hX_I, hX_L, hX_R, hX_B, hX_b, hC_I, hC_L, hC_R, hC_B, hC_b, hU_I, hU_L, hU_R, hU_B, hU_b, hq, e24, e1602]
    · intro q; simp [hI_I, hI_L, hI_R, hI_B, hI_b, hL_I, hL_L, hL_R, hL_B, hL_b, hR_I, hR_L, hR_R, hR_B, hR_b, hB_I, hB_L, hB_R, hB_B, hB_b, hN_I, hN_L, hN_R, hN_B, hN_b, hT_I, hT_L, hT_R, hT_B, hT_b, hX_I, hX_L, hX_R, hX_B, hX_b, hC_I, hC_L, hC_R, hC_B, hC_b, hU_I, hU_L, hU_R, hU_B, hU_b]; exact b3 q
    · intro q; simp [hI_I, hI_L, hI_R, hI_B, hI_b, hL_I, hL_L, hL_R, hL_B, hL_b, hR_I, hR_L, hR_R, hR_B, hR_b, hB_I, hB_L, hB_R, hB_B, hB_b, hN_I, hN_L, hN_R, hN_B, hN_b, hT_I, hT_L, hT_R, hT_B, hT_b, hX_I, hX_L, hX_R, hX_B, hX_b, hC_I, hC_L, hC_R, hC_B, hC_b, hU_I, hU_L, hU_R, hU_B, hU_b]; exact b4 q
    · simp [hI_I, hI_L, hI_R, hI_B, hI_b, hL_I, hL_L, hL_R, hL_B, hL_b, hR_I, hR_L, hR_R, hR_B, hR_b, hB_I, hB_L, hB_R, hB_B, hB_b, hN_I, hN_L, hN_R, hN_B, hN_b, hT_I, hT_L, hT_R, hT_B, hT_b, hX_I, hX_L, hX_R, hX_B, hX_b, hC_I, hC_L, hC_R, hC_B, hC_b, hU_I, hU_L, hU_R, hU_B, hU_b]
    · intro q; simp [hI_I, hI_L, hI_R, hI_B, hI_b, hL_I, hL_L, hL_R, hL_B, hL_b, hR_I, hR_L, hR_R, hR_B, hR_b, hB_I, hB_L, hB_R, hB_B, hB_b, hN_I, hN_L, hN_R, hN_B, hN_b, hT_I, hT_L, hT_R, hT_B, hT_b, hX_I, hX_L, hX_R, hX_B, hX_b, hC_I, hC_L, hC_R, hC_B, hC_b, hU_I, hU_L, hU_R, hU_B, hU_b]; exact b5 q
  obtain ⟨w', a1, FF, g1, g2, g3, g4, g6⟩ := main
  refine ⟨w', V.eraseP (fun x => x.1 == c), y :: fv, a1, ⟨H.k.fr FF (by decide) (by decide) (by decide) (by decide), H.t.fr FF (by decide) (by decide) (by decide) (by decide), (H.s.fr FF (by decide) (by decide) (by decide) (by decide)).sc rfl rfl rfl rfl rfl rfl rfl rfl rfl, ?_, (H.g.fr FF (by decide) (by decide) (by decide) (by decide)).sc rfl rfl rfl rfl, H.q.fr FF (by decide) (by decide) (by decide) (by decide), H.o.fr FF (by decide) (by decide) (by decide) (by decide), H.rd, H.mo, H.sn, ?_, H.a.imp id (fun h => h.fr FF (by decide) (by decide) (by decide) (by decide))⟩, FF⟩
  · refine ⟨fun j hj => ?_, fun j hj => ?_, fun j hj => ?_, fun j hj => ?_, fun j hj => ?_, ?_⟩
    · rw [FF.B 406 (by decide)]; exact H.c.th j hj
    · rw [FF.B 408 (by decide)]; exact H.c.cl j hj
    · rw [FF.I 410 (by decide)]; exact H.c.ro j hj
    · rw [g6]
      by_cases hjc : j = c
      · subst hjc
        rw [if_pos rfl, hsc]
      · rw [if_neg (by omega), hsn j hjc]
        exact H.c.he j hj
    · rw [FF.I 414 (by decide)]; exact H.c.al j hj
    · rw [FF.B 408 (by decide), FF.I 410 (by decide), g6, if_neg (by omega)]
      exact H.c.nw
  · have hsubV : (V.eraseP (fun x => x.1 == c)).Sublist V := List.eraseP_sublist
    have hyE : y ∉ (V.eraseP (fun x => x.1 == c)).map (·.2.2) := by
      have := hperm.nodup_iff.mpr m3
      exact (List.nodup_cons.mp this).1
    refine ⟨?_, fun j hj => ?_, fun z hz => ?_, ?_, ?_, ?_⟩
    · show S.mv.eraseP (vAt c) = _
      rw [er_map, ← hv.mv]
    · obtain ⟨d1, d2⟩ := hv.chn j hj
      rw [vCe_er, g2, g3]
      by_cases hjc : j = c
      · subst hjc
        rw [if_pos rfl, if_pos rfl, if_pos rfl, hce, List.tail_cons]
        refine ⟨?_, rfl⟩
        rw [← c4.hd]
        exact c4.upd (fun q hq => by rw [g1, if_neg (fun e : q = y => hyr (e ▸ hq))])
      · rw [if_neg hjc, if_neg (by omega), if_neg (by omega)]
        refine ⟨d1.upd (fun q hq => ?_), d2⟩
        rw [g1, if_neg (fun e : q = y => vCe_dj m3 (Ne.symm hjc) (by rw [hce]; exact List.mem_cons_self) (e ▸ hq))]
    · rw [FF.L 1600 (by decide)]
      exact hv.nu z (hsubV.mem hz)
    · exact ⟨g4, by rw [g1, if_pos rfl]; exact hv.fre.upd (fun q hq => by rw [g1, if_neg (fun e : q = y => hyf (e ▸ hq))])⟩
    · rw [List.cons_append, List.nodup_cons, List.nodup_append]
      refine ⟨fun h => ?_, m2, (hsubV.map _).nodup m3, fun a ha z hz e => m4 a ha z ((hsubV.map _).mem hz) e⟩
      rcases List.mem_append.mp h with h | h
      · exact hyf h
      · exact hyE h
    · have := hv.len
      simp
      omega
end CTK
