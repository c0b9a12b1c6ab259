/-! the values that the channels hold -/
theorem ch_app {f : Nat → Option Nat} {s : Option Nat} {l : List Nat} {p : Nat} (h : ch f s l) (hp : p ∉ l) (nd : l.Nodup) : ch (fun q => if q = p then none else if some q = l.getLast? then some p else f q) (if l = [] then some p else s) (l ++ [p]) := by
  induction l generalizing s with
  | nil => exact ⟨rfl, if_pos rfl⟩
  | cons a r ih =>
    obtain ⟨h1, h2⟩ := h
    have hap : a ≠ p := fun e => hp (e ▸ List.mem_cons_self)
    have hpr : p ∉ r := fun h => hp (List.mem_cons_of_mem _ h)
    obtain ⟨n1, n2⟩ := List.nodup_cons.mp nd
    refine ⟨by rw [if_neg (by simp)]; exact h1, ?_⟩
    cases r with
    | nil =>
      refine ⟨?_, ?_⟩
      · simp [hap]
      · simp
        rfl
    | cons b r =>
      have ih' := ih h2 hpr n2
      rw [if_neg (by simp)] at ih'
      have hla : (a :: b :: r).getLast? = (b :: r).getLast? := by simp [List.getLast?_cons_cons]
      have hne : ¬ some a = (b :: r).getLast? := fun e => n1 (List.mem_of_getLast? e.symm)
      show ch _ (if a = p then none else if some a = (a :: b :: r).getLast? then some p else f a) _
      rw [if_neg hap, hla, if_neg hne]
      exact ih'
theorem ch.hd {f : Nat → Option Nat} {s : Option Nat} {l : List Nat} (h : ch f s l) : s = l.head? := by
  cases l with
  | nil => exact h
  | cons a l => exact h.1
section CVS
variable {w w' : kx_H} {S S' : kS} {t g n d c : Nat} {x how st : Int32} {v val : Int64} {f b : Bool} {Q : List kQ} {fp tp fv ft : List Nat} {V : List (Nat × Int64 × Nat)} {A : List (Nat × kMe)} {l : kLoc}
theorem vCe_sub (V : List (Nat × Int64 × Nat)) (c : Nat) : (vCe V c).Sublist (V.map (·.2.2)) := List.filter_sublist.map _
theorem vCe_app (y : Nat) : vCe (V ++ [(c, v, y)]) g = vCe V g ++ (if g = c then [y] else []) := by
  unfold vCe
  rw [List.filter_append, List.map_append]
  by_cases h : g = c
  · simp [h]
  · have : (c == g) = false := by simpa using Ne.symm h
    simp [h, this]
theorem vCe_dj (nd : (V.map (·.2.2)).Nodup) (h : c ≠ g) {p : Nat} (h1 : p ∈ vCe V c) (h2 : p ∈ vCe V g) : False := by
  obtain ⟨a, a1, a2⟩ := List.mem_map.mp h1
  obtain ⟨q, b1, b2⟩ := List.mem_map.mp h2
  obtain ⟨a3, a4⟩ := List.mem_filter.mp a1
  obtain ⟨b3, b4⟩ := List.mem_filter.mp b1
  have e := nd_eq nd a3 b3 (a2.trans b2.symm)
  subst e
  simp at a4 b4
  exact h (a4.symm.trans b4)
/-- TaskDesk.putValue -/
theorem C_put (H : CX w S n Q fp tp V fv A ft) (hc : c < 512) (hl : S.mv.length < 512) : ∃ w' V' fv', kx_ev wx_M (d + 2) 38 [kx_r 0 (some 1), kx_r 2 (some (1035 + 3 * c)), kx_l v] w = some (.inl none, w') ∧ CX w' (sStore S c v) n Q fp tp V' fv' A ft ∧ FR [412] [1600] [1602, 416, 418, 24] [] w w' := by
  have hv := H.v
  have hlen := hv.len
  have hVl : V.length = S.mv.length := by rw [hv.mv, List.length_map]
  obtain ⟨y, r, hfv⟩ : ∃ y r, fv = y :: r := by
    cases h : fv with
    | nil => rw [h] at hlen; simp at hlen; omega
    | cons y r => exact ⟨y, r, rfl⟩
  have hfr := hv.fre
  have hnd := hv.nd
  rw [hfv] at hfr hnd hlen
  obtain ⟨f1, f2⟩ := hfr
  rw [List.cons_append, List.nodup_cons, List.nodup_append] at hnd
  obtain ⟨m1, m2, m3, m4⟩ := hnd
  have hyr : y ∉ r := fun h => m1 (List.mem_append_left _ h)
  have hyV : y ∉ V.map (·.2.2) := fun h => m1 (List.mem_append_right _ h)
  obtain ⟨c1, c2⟩ := hv.chn c hc
  have hyc : ∀ j, y ∉ vCe V j := fun j h => hyV ((vCe_sub V j).mem h)
  have ndc : (vCe V c).Nodup := (vCe_sub V c).nodup m3
  have he := H.c.he c hc
  have hsc : sCnt (sStore S c v) c = sCnt S c + 1 := by
    show (S.mv ++ [(c, v)]).countP (vAt c) = S.mv.countP (vAt c) + 1
    rw [List.countP_append]
    simp [vAt]
  have hsn : ∀ j, j ≠ c → sCnt (sStore S c v) j = sCnt S j := fun j hj => by
    show (S.mv ++ [(c, v)]).countP (vAt j) = S.mv.countP (vAt j)
    rw [List.countP_append]
    simp [vAt, Ne.symm hj]
  -- what the store is afterwards
  have main : ∃ w', kx_ev wx_M (d + 2) 38 [kx_r 0 (some 1), kx_r 2 (some (1035 + 3 * c)), kx_l v] w = some (.inl none, w') ∧ FR [412] [1600] [1602, 416, 418, 24] [] w w' ∧
      (∀ q, hp_R w' 1602 q = if q = y then none else if some q = (vCe V c).getLast? then some y else hp_R w 1602 q) ∧ (∀ q, hp_R w' 416 q = if q = 1035 + 3 * c then (if vCe V c = [] then some y else hp_R w 416 q) else hp_R w 416 q) ∧ (∀ q, hp_R w' 418 q = if q = 1035 + 3 * c then some y else hp_R w 418 q) ∧ hp_R w' 24 1 = hp_R w 1602 y ∧ (∀ q, hp_L w' 1600 q = if q = y then v else hp_L w 1600 q) ∧ (∀ q, hp_I w' 412 q = if q = 1035 + 3 * c then i32 (sCnt S c + 1) else hp_I w 412 q) := by
    have a39 : ∀ w6 : kx_H, hp_R w6 418 (1035 + 3 * c) = (vCe V c).getLast? → hp_I w6 412 (1035 + 3 * c) = i32 (sCnt S c) → ∃ w', kx_ev wx_M (d + 1) 39 [kx_r 2 (some (1035 + 3 * c)), kx_r 8 (some y)] w6 = some (.inl none, w') ∧ FR [412] [] [1602, 416, 418] [] w6 w' ∧
        (∀ q, hp_R w' 1602 q = if q = y then none else if some q = (vCe V c).getLast? then some y else hp_R w6 1602 q) ∧ (∀ q, hp_R w' 416 q = if q = 1035 + 3 * c then (if vCe V c = [] then some y else hp_R w6 416 q) else hp_R w6 416 q) ∧ (∀ q, hp_R w' 418 q = if q = 1035 + 3 * c then some y else hp_R w6 418 q) ∧ (∀ q, hp_I w' 412 q = if q = 1035 + 3 * c then i32 (sCnt S c + 1) else hp_I w6 412 q) := by
      intro w6 e1 e2
      cases hla : (vCe V c).getLast? with
      | none =>
        have hnil : vCe V c = [] := by
          cases hh : vCe V c with
          | nil => rfl
          | cons a l => rw [hh] at hla; simp at hla
        rw [hla] at e1
        refine ⟨hp_sI (hp_sR (hp_sR (hp_sR w6 1602 y none) 416 (1035 + 3 * c) (some y)) 418 (1035 + 3 * c) (some y)) 412 (1035 + 3 * c) (i32 (sCnt S c + 1)), ?_, FR.sI (by decide) (FR.sR (by decide) (FR.sR (by decide) (FR.sR (by decide) FR.rf))), ?_, ?_, ?_, ?_⟩
        · skip
          obtain ⟨ψ, hψ⟩ := kx_fu
          rw [mE_39 hψ]
          unfold mb_39_0
          simp only [ob_s, hI_I, hI_L, hI_R, hI_B, hI_b, hL_I, hL_L, hL_R, hL_B, hL_b, hR_I, hR_L, hR_R, hR_B, hR_b, hB_I, hB_L, hB_R, hB_B, hB_b, hN_I, hN_L, hN_R, hN_B, hN_b, hT_I, hT_L, hT_R, hT_B, hT_b, hX_I, hX_L, hX_R, hX_B, hX_b, hC_I, hC_L, hC_R, hC_B, hC_b, hU_I, hU_L, hU_R, hU_B, hU_b, Nat.reduceEqDiff, false_and, if_false, e1, if_true, me_39_28, mb_39_28, e2, i32_add1]
        · intro q; by_cases hq : q = y <;> simp [hI_I, hI_L, hI_R, hI_B, hI_b, hL_I, hL_L, hL_R, hL_B, hL_b, hR_I, hR_L, hR_R, hR_B, hR_b, hB_I, hB_L, hB_R, hB_B, hB_b, hN_I, hN_L, hN_R, hN_B, hN_b, hT_I, hT_L, hT_R, hT_B, hT_b, hX_I, hX_L, hX_R, hX_B, hX_b, hC_I, hC_L, hC_R, hC_B, hC_b, hU_I, hU_L, hU_R, hU_B, hU_b, hq]
        · intro q; by_cases hq : q = 1035 + 3 * c <;> simp [hI_I, hI_L, hI_R, hI_B, hI_b, hL_I, hL_L, hL_R, hL_B, hL_b, hR_I, hR_L, hR_R, hR_B, hR_b, hB_I, hB_L, hB_R, hB_B, hB_b, hN_I, hN_L, hN_R, hN_B, hN_b, hT_I, hT_L, hT_R, hT_B, hT_b, hX_I, hX_L, hX_R, hX_B, hX_b, hC_I, hC_L, hC_R, hC_B, hC_b, hU_I, hU_L, hU_R, hU_B, hU_b, hq, hnil]
        · intro q; by_cases hq : q = 1035 + 3 * c <;> simp [hI_I, hI_L, hI_R, hI_B, hI_b, hL_I, hL_L, hL_R, hL_B, hL_b, hR_I, hR_L, hR_R, hR_B, hR_b, hB_I, hB_L, hB_R, hB_B, hB_b, hN_I, hN_L, hN_R, hN_B, hN_b, hT_I, hT_L, hT_R, hT_B, hT_b, hX_I, hX_L, hX_R, hX_B, hX_b, hC_I, hC_L, hC_R, hC_B, hC_b, hU_I, hU_L, hU_R, hU_B, hU_b, hq]
        · intro q; by_cases hq : q = 1035 + 3 * c <;> simp [hI_I, hI_L, hI_R, hI_B, hI_b, hL_I, hL_L, hL_R, hL_B, hL_b, hR_I, hR_L, hR_R, hR_B, hR_b, hB_I, hB_L, hB_R, hB_B, hB_b, hN_I, hN_L, hN_R, hN_B, hN_b, hT_I, hT_L, hT_R, hT_B, hT_b, hX_I, hX_L, hX_R, hX_B, hX_b, hC_I, hC_L, hC_R, hC_B, hC_b, hU_I, hU_L, hU_R, hU_B, hU_b, hq]
      | some z =>
        have hnn : vCe V c ≠ [] := fun h => by rw [h] at hla; simp at hla
        have hzy : z ≠ y := fun e => hyc c (e ▸ List.mem_of_getLast? hla)
        rw [hla] at e1
        refine ⟨hp_sI (hp_sR (hp_sR (hp_sR w6 1602 y none) 1602 z (some y)) 418 (1035 + 3 * c) (some y)) 412 (1035 + 3 * c) (i32 (sCnt S c + 1)), ?_, FR.sI (by decide) (FR.sR (by decide) (FR.sR (by decide) (FR.sR (by decide) FR.rf))), ?_, ?_, ?_, ?_⟩
        · skip
          obtain ⟨ψ, hψ⟩ := kx_fu
          rw [mE_39 hψ]
          unfold mb_39_0
          simp only [ob_s, hI_I, hI_L, hI_R, hI_B, hI_b, hL_I, hL_L, hL_R, hL_B, hL_b, hR_I, hR_L, hR_R, hR_B, hR_b, hB_I, hB_L, hB_R, hB_B, hB_b, hN_I, hN_L, hN_R, hN_B, hN_b, hT_I, hT_L, hT_R, hT_B, hT_b, hX_I, hX_L, hX_R, hX_B, hX_b, hC_I, hC_L, hC_R, hC_B, hC_b, hU_I, hU_L, hU_R, hU_B, hU_b, Nat.reduceEqDiff, false_and, if_false, e1, reduceCtorEq, me_39_28, mb_39_28, e2, i32_add1]
        · intro q
          by_cases hq : q = y
          · subst hq; simp [hI_I, hI_L, hI_R, hI_B, hI_b, hL_I, hL_L, hL_R, hL_B, hL_b, hR_I, hR_L, hR_R, hR_B, hR_b, hB_I, hB_L, hB_R, hB_B, hB_b, hN_I, hN_L, hN_R, hN_B, hN_b, hT_I, hT_L, hT_R, hT_B, hT_b, hX_I, hX_L, hX_R, hX_B, hX_b, hC_I, hC_L, hC_R, hC_B, hC_b, hU_I, hU_L, hU_R, hU_B, hU_b, Ne.symm hzy]
          · by_cases hz : q = z
            · subst hz; simp [hI_I, hI_L, hI_R, hI_B, hI_b, hL_I, hL_L, hL_R, hL_B, hL_b, hR_I, hR_L, hR_R, hR_B, hR_b, hB_I, hB_L, hB_R, hB_B, hB_b, hN_I, hN_L, hN_R, hN_B, hN_b, hT_I, hT_L, hT_R, hT_B, hT_b, hX_I, hX_L, hX_R, hX_B, hX_b, hC_I, hC_L, hC_R, hC_B, hC_b, hU_I, hU_L, hU_R, hU_B, hU_b, hq]
            · simp [hI_I, hI_L, hI_R, hI_B, hI_b, hL_I, hL_L, hL_R, hL_B, hL_b, hR_I, hR_L, hR_R, hR_B, hR_b, hB_I, hB_L, hB_R, hB_B, hB_b, hN_I, hN_L, hN_R, hN_B, hN_b, hT_I, hT_L, hT_R, hT_B, hT_b, hX_I, hX_L, hX_R, hX_B, hX_b, hC_I, hC_L, hC_R, hC_B, hC_b, hU_I, hU_L, hU_R, hU_B, hU_b, hq, hz]
        · intro q; by_cases hq : q = 1035 + 3 * c <;> simp [hI_I, hI_L, hI_R, hI_B, hI_b, hL_I, hL_L, hL_R, hL_B, hL_b, hR_I, hR_L, hR_R, hR_B, hR_b, hB_I, hB_L, hB_R, hB_B, hB_b, hN_I, hN_L, hN_R, hN_B, hN_b, hT_I, hT_L, hT_R, hT_B, hT_b, hX_I, hX_L, hX_R, hX_B, hX_b, hC_I, hC_L, hC_R, hC_B, hC_b, hU_I, hU_L, hU_R, hU_B, hU_b, hq, hnn]
        · intro q; by_cases hq : q = 1035 + 3 * c <;> simp [hI_I, hI_L, hI_R, hI_B, hI_b, hL_I, hL_L, hL_R, hL_B, hL_b, hR_I, hR_L, hR_R, hR_B, hR_b, hB_I, hB_L, hB_R, hB_B, hB_b, hN_I, hN_L, hN_R, hN_B, hN_b, hT_I, hT_L, hT_R, hT_B, hT_b, hX_I, hX_L, hX_R, hX_B, hX_b, hC_I, hC_L, hC_R, hC_B, hC_b, hU_I, hU_L, hU_R, hU_B, hU_b, hq]
        · intro q; by_cases hq : q = 1035 + 3 * c <;> simp [hI_I, hI_L, hI_R, hI_B, hI_b, hL_I, hL_L, hL_R, hL_B, hL_b, hR_I, hR_L, hR_R, hR_B, hR_b, hB_I, hB_L, hB_R, hB_B, hB_b, hN_I, hN_L, hN_R, hN_B, hN_b, hT_I, hT_L, hT_R, hT_B, hT_b, hX_I, hX_L, hX_R, hX_B, hX_b, hC_I, hC_L, hC_R, hC_B, hC_b, hU_I, hU_L, hU_R, hU_B, hU_b, hq]
    obtain ⟨w', b1, b2, b3, b4, b5, b6⟩ := a39 (hp_sL (hp_sR w 24 1 (hp_R w 1602 y)) 1600 y v) (by simp [hI_I, hI_L, hI_R, hI_B, hI_b, hL_I, hL_L, hL_R, hL_B, hL_b, hR_I, hR_L, hR_R, hR_B, hR_b, hB_I, hB_L, hB_R, hB_B, hB_b, hN_I, hN_L, hN_R, hN_B, hN_b, hT_I, hT_L, hT_R, hT_B, hT_b, hX_I, hX_L, hX_R, hX_B, hX_b, hC_I, hC_L, hC_R, hC_B, hC_b, hU_I, hU_L, hU_R, hU_B, hU_b]; exact c2) (by simp [hI_I, hI_L, hI_R, hI_B, hI_b, hL_I, hL_L, hL_R, hL_B, hL_b, hR_I, hR_L, hR_R, hR_B, hR_b, hB_I, hB_L, hB_R, hB_B, hB_b, hN_I, hN_L, hN_R, hN_B, hN_b, hT_I, hT_L, hT_R, hT_B, hT_b, hX_I, hX_L, hX_R, hX_B, hX_b, hC_I, hC_L, hC_R, hC_B, hC_b, hU_I, hU_L, hU_R, hU_B, hU_b]; exact he)
    have F1 : FR [412] [1600] [1602, 416, 418, 24] [] w (hp_sL (hp_sR w 24 1 (hp_R w 1602 y)) 1600 y v) := FR.sL (by decide) (FR.sR (by decide) FR.rf)
    refine ⟨w', ?_, F1.tr (b2.mono (fun _ h => h) (fun k h => by cases h) (fun k h => by revert k; decide) (fun _ h => h)), ?_, ?_, ?_, ?_, ?_, ?_⟩
    · skip
      obtain ⟨ψ, hψ⟩ := kx_fu
      rw [mE_38 hψ]
      unfold mb_38_0
      simp only [ob_s, f1, reduceCtorEq, if_false, b1, bv_n, me_38_32, mb_38_32]
    · intro q; rw [b3]; simp [hI_I, hI_L, hI_R, hI_B, hI_b, hL_I, hL_L, hL_R, hL_B, hL_b, hR_I, hR_L, hR_R, hR_B, hR_b, hB_I, hB_L, hB_R, hB_B, hB_b, hN_I, hN_L, hN_R, hN_B, hN_b, hT_I, hT_L, hT_R, hT_B, hT_b, hX_I, hX_L, hX_R, hX_B, hX_b, hC_I, hC_L, hC_R, hC_B, hC_b, hU_I, hU_L, hU_R, hU_B, hU_b]
    · intro q; rw [b4]; simp [hI_I, hI_L, hI_R, hI_B, hI_b, hL_I, hL_L, hL_R, hL_B, hL_b, hR_I, hR_L, hR_R, hR_B, hR_b, hB_I, hB_L, hB_R, hB_B, hB_b, hN_I, hN_L, hN_R, hN_B, hN_b, hT_I, hT_L, hT_R, hT_B, hT_b, hX_I, hX_L, hX_R, hX_B, hX_b, hC_I, hC_L, hC_R, hC_B, hC_b, hU_I, hU_L, hU_R, hU_B, hU_b]
    · intro q; rw [b5]; simp [hI_I, hI_L, hI_R, hI_B, hI_b, hL_I, hL_L, hL_R, hL_B, hL_b, hR_I, hR_L, hR_R, hR_B, hR_b, hB_I, hB_L, hB_R, hB_B, hB_b, hN_I, hN_L, hN_R, hN_B, hN_b, hT_I, hT_L, hT_R, hT_B, hT_b, hX_I, hX_L, hX_R, hX_B, hX_b, hC_I, hC_L, hC_R, hC_B, hC_b, hU_I, hU_L, hU_R, hU_B, hU_b]
    · rw [b2.R 24 (by decide)]; simp [hI_I, hI_L, hI_R, hI_B, hI_b, hL_I, hL_L, hL_R, hL_B, hL_b, hR_I, hR_L, hR_R, hR_B, hR_b, hB_I, hB_L, hB_R, hB_B, hB_b, hN_I, hN_L, hN_R, hN_B, hN_b, hT_I, hT_L, hT_R, hT_B, hT_b, hX_I, hX_L, hX_R, hX_B, hX_b, hC_I, hC_L, hC_R, hC_B, hC_b, hU_I, hU_L, hU_R, hU_B, hU_b]
    · intro q; rw [b2.L 1600 (by decide)]; by_cases hq : q = y <;> simp [hI_I, hI_L, hI_R, hI_B, hI_b, hL_I, hL_L, hL_R, hL_B, hL_b, hR_I, hR_L, hR_R, hR_B, hR_b, hB_I, hB_L, hB_R, hB_B, hB_b, hN_I, hN_L, hN_R, hN_B, hN_b, hT_I, hT_L, hT_R, hT_B, hT_b, hX_I, hX_L, hX_R, hX_B, hX_b, hC_I, hC_L, hC_R, hC_B, hC_b, hU_I, hU_L, hU_R, hU_B, hU_b, hq]
    · intro q; rw [b6]; simp [hI_I, hI_L, hI_R, hI_B, hI_b, hL_I, hL_L, hL_R, hL_B, hL_b, hR_I, hR_L, hR_R, hR_B, hR_b, hB_I, hB_L, hB_R, hB_B, hB_b, hN_I, hN_L, hN_R, hN_B, hN_b, hT_I, hT_L, hT_R, hT_B, hT_b, hX_I, hX_L, hX_R, hX_B, hX_b, hC_I, hC_L, hC_R, hC_B, hC_b, hU_I, hU_L, hU_R, hU_B, hU_b]
  obtain ⟨w', a1, FF, g1, g2, g3, g4, g5, g6⟩ := main
  refine ⟨w', V ++ [(c, v, y)], r, a1, ⟨H.k.fr FF (by decide) (by decide) (by decide) (by decide), H.t.fr FF (by decide) (by decide) (by decide) (by decide), (H.s.fr FF (by decide) (by decide) (by decide) (by decide)).sc rfl rfl rfl rfl rfl rfl rfl rfl rfl, ?_, (H.g.fr FF (by decide) (by decide) (by decide) (by decide)).sc rfl rfl rfl rfl, H.q.fr FF (by decide) (by decide) (by decide) (by decide), H.o.fr FF (by decide) (by decide) (by decide) (by decide), H.rd, H.mo, H.sn, ?_, H.a.imp id (fun h => h.fr FF (by decide) (by decide) (by decide) (by decide))⟩, FF⟩
  · refine ⟨fun j hj => ?_, fun j hj => ?_, fun j hj => ?_, fun j hj => ?_, fun j hj => ?_, ?_⟩
    · rw [FF.B 406 (by decide)]; exact H.c.th j hj
    · rw [FF.B 408 (by decide)]; exact H.c.cl j hj
    · rw [FF.I 410 (by decide)]; exact H.c.ro j hj
    · rw [g6]
      by_cases hjc : j = c
      · subst hjc
        rw [if_pos rfl, hsc]
      · rw [if_neg (by omega), hsn j hjc]
        exact H.c.he j hj
    · rw [FF.I 414 (by decide)]; exact H.c.al j hj
    · rw [FF.B 408 (by decide), FF.I 410 (by decide), g6, if_neg (by omega)]
      exact H.c.nw
  · refine ⟨?_, fun j hj => ?_, fun z hz => ?_, ?_, ?_, ?_⟩
    · show S.mv ++ [(c, v)] = _
      rw [List.map_append, ← hv.mv]
      rfl
    · obtain ⟨d1, d2⟩ := hv.chn j hj
      rw [vCe_app, g2, g3]
      by_cases hjc : j = c
      · subst hjc
        rw [if_pos rfl, if_pos rfl, if_pos rfl]
        refine ⟨?_, by simp⟩
        have := ch_app c1 (hyc j) ndc
        have e9 : hp_R w' 1602 = (fun q => if q = y then none else if some q = (vCe V j).getLast? then some y else hp_R w 1602 q) := funext g1
        rw [e9]
        exact this
      · rw [if_neg hjc, if_neg (by omega), if_neg (by omega), List.append_nil]
        refine ⟨d1.upd (fun q hq => ?_), d2⟩
        rw [g1, if_neg (fun e : q = y => hyc j (e ▸ hq)), if_neg (fun e => vCe_dj m3 (Ne.symm hjc) (List.mem_of_getLast? e.symm) hq)]
    · rw [g5]
      rcases List.mem_append.mp hz with hz | hz
      · have hzy : z.2.2 ≠ y := fun e => hyV (e ▸ List.mem_map.mpr ⟨z, hz, rfl⟩)
        rw [if_neg hzy]
        exact hv.nu z hz
      · simp at hz
        subst hz
        exact if_pos rfl
    · rw [g4]
      refine f2.upd (fun q hq => ?_)
      rw [g1, if_neg (fun e : q = y => hyr (e ▸ hq)), if_neg (fun e => m4 q hq q ((vCe_sub V c).mem (List.mem_of_getLast? e.symm)) rfl)]
    · rw [List.map_append, ← List.append_assoc, List.nodup_append]
      refine ⟨List.nodup_append.mpr ⟨m2, m3, m4⟩, by simp, fun a ha z hz e => ?_⟩
      simp at hz
      subst hz
      subst e
      exact m1 ha
    · simp at hlen ⊢
      omega
end CVS
