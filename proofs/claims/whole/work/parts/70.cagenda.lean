/-! the agenda -/
section CAG
variable {w w' : kx_H} {d n : Nat} {x : Int64} {me : List kMe} {A : List (Nat × kMe)} {ft : List Nat}
def aSl (e : Nat ⊕ Nat) : Option Nat := match e with
  | .inl t => some (524 + 2 * t)
  | .inr _ => none
def aTg (e : Nat ⊕ Nat) : Option Nat := match e with
  | .inl _ => none
  | .inr c => some (1035 + 3 * c)
theorem le_of_nlt {a b : Int64} (h : ¬ b < a) : a ≤ b := by
  rw [Int64.lt_iff_toInt_lt] at h
  rw [Int64.le_iff_toInt_le]
  omega
/-- the last that is not after x -/
theorem L_lna {C : kx_C} : ∀ (L : List (Nat × kMe)) (F : Nat) (s fo : Option Nat), ch (hp_R w 1406) s (L.map (·.1)) → (∀ a ∈ L, hp_L w 1400 a.1 = a.2.2) → L.length + 2 ≤ F →
    kx_ex (wm_44 d C) F 8 [(1, kx_l x), (3, kx_r 7 fo), (4, kx_r 7 s)] [] w = some (.inl (some (.inr (.inr (7, match (L.takeWhile (fun a => decide (a.2.2 ≤ x))).getLast? with | some a => some a.1 | none => fo)))), w) := by
  intro L
  induction L with
  | nil =>
    intro F s fo hs hL hF
    obtain ⟨F, rfl⟩ : ∃ f', F = f' + 1 + 1 := ⟨F - 2, by simp at hF; omega⟩
    have hs' : s = none := hs
    rw [me_44_8]
    unfold mb_44_8
    rw [if_pos hs', me_44_36]
    unfold mb_44_36
    rfl
  | cons a L ih =>
    intro F s fo hs hL hF
    obtain ⟨F, rfl⟩ : ∃ f', F = f' + 1 + 1 := ⟨F - 2, by simp at hF; omega⟩
    obtain ⟨h1, h2⟩ := hs
    rw [me_44_8]
    unfold mb_44_8
    rw [h1, if_neg (by simp)]
    simp only [ob_s, hL a List.mem_cons_self, lg_pos]
    by_cases hx : x < a.2.2
    · have hx2 : ¬ a.2.2 ≤ x := by
        rw [Int64.lt_iff_toInt_lt] at hx
        rw [Int64.le_iff_toInt_le]
        omega
      rw [if_pos hx, me_44_36]
      unfold mb_44_36
      rw [List.takeWhile_cons_of_neg (by simpa using hx2)]
      rfl
    · have hx2 : a.2.2 ≤ x := le_of_nlt hx
      rw [if_neg hx, List.takeWhile_cons_of_pos (by simpa using hx2)]
      rw [ih (F + 1) (hp_R w 1406 a.1) (some a.1) h2 (fun q hq => hL q (List.mem_cons_of_mem _ hq)) (by simp at hF; omega)]
      cases hT : L.takeWhile (fun a => decide (a.2.2 ≤ x)) with
      | nil => rfl
      | cons q T =>
        obtain ⟨z, hz⟩ : ∃ z, (q :: T).getLast? = some z := ⟨_, List.getLast?_eq_some_getLast (by simp)⟩
        rw [List.getLast?_cons_cons, hz]
theorem ch_split {f : Nat → Option Nat} {s : Option Nat} {P R : List Nat} (h : ch f s (P ++ R)) : (P = [] ∧ ch f s R) ∨ ∃ z, P.getLast? = some z ∧ ch f (f z) R := by
  induction P generalizing s with
  | nil => exact Or.inl ⟨rfl, h⟩
  | cons a P ih =>
    right
    rcases ih h.2 with ⟨h1, h2⟩ | ⟨z, h1, h2⟩
    · subst h1
      exact ⟨a, rfl, h2⟩
    · refine ⟨z, ?_, h2⟩
      cases P with
      | nil => simp at h1
      | cons b P => rw [List.getLast?_cons_cons]; exact h1
/-- insertion behind P -/
theorem ch_ins {f : Nat → Option Nat} {s : Option Nat} {P R : List Nat} {y : Nat} (h : ch f s (P ++ R)) (hy : y ∉ P ++ R) (nd : (P ++ R).Nodup) :
    ch (fun q => if q = y then (match P.getLast? with | some z => f z | none => s) else if some q = P.getLast? then some y else f q) (if P = [] then some y else s) (P ++ y :: R) := by
  induction P generalizing s with
  | nil =>
    refine ⟨rfl, ?_⟩
    show ch _ (if y = y then s else _) R
    rw [if_pos rfl]
    refine h.upd (fun q hq => ?_)
    rw [if_neg (fun e : q = y => hy (e ▸ hq)), if_neg (by simp)]
  | cons a P ih =>
    obtain ⟨h1, h2⟩ := h
    have hay : a ≠ y := fun e => hy (e ▸ List.mem_cons_self)
    have hyP : y ∉ P ++ R := fun h => hy (List.mem_cons_of_mem _ h)
    obtain ⟨n1, n2⟩ := List.nodup_cons.mp nd
    refine ⟨by rw [if_neg (by simp)]; exact h1, ?_⟩
    show ch _ (if a = y then _ else if some a = (a :: P).getLast? then some y else f a) (P ++ y :: R)
    rw [if_neg hay]
    cases P with
    | nil =>
      rw [if_pos (show some a = [a].getLast? from rfl)]
      refine ⟨rfl, ?_⟩
      show ch _ (if y = y then f a else _) R
      rw [if_pos rfl]
      refine ch.upd h2 (fun q hq => ?_)
      rw [if_neg (fun e : q = y => hyP (e ▸ hq)), if_neg (show ¬ some q = [a].getLast? from fun e => n1 (by cases e; exact hq))]
    | cons b P =>
      have hla : (a :: b :: P).getLast? = (b :: P).getLast? := List.getLast?_cons_cons
      have hne : ¬ some a = (b :: P).getLast? := fun e => n1 (List.mem_append_left _ (List.mem_of_getLast? e.symm))
      have := ih h2 hyP n2
      rw [if_neg (by simp)] at this
      rw [hla, if_neg hne]
      cases hL : (b :: P).getLast? with
      | none => simp at hL
      | some z =>
        rw [hL] at this
        exact this
theorem tw_dw (A : List (Nat × kMe)) (p : Nat × kMe → Bool) : A.takeWhile p ++ A.dropWhile p = A := List.takeWhile_append_dropWhile
theorem dw_gt (so : A.Pairwise (fun a b => a.2.2 ≤ b.2.2)) : ∀ a ∈ A.dropWhile (fun a => decide (a.2.2 ≤ x)), ¬ a.2.2 ≤ x := by
  induction A with
  | nil => intro a ha; simp at ha
  | cons q A ih =>
    obtain ⟨s1, s2⟩ := List.pairwise_cons.mp so
    intro a ha
    by_cases hq : q.2.2 ≤ x
    · rw [List.dropWhile_cons_of_pos (by simpa using hq)] at ha
      exact ih s2 a ha
    · rw [List.dropWhile_cons_of_neg (by simpa using hq)] at ha
      rcases List.mem_cons.mp ha with rfl | ha
      · exact hq
      · have := s1 a ha
        intro h
        apply hq
        rw [Int64.le_iff_toInt_le] at this h ⊢
        omega
theorem tw_le : ∀ a ∈ A.takeWhile (fun a => decide (a.2.2 ≤ x)), a.2.2 ≤ x := by
  induction A with
  | nil => intro a ha; simp at ha
  | cons q A ih =>
    intro a ha
    by_cases hq : q.2.2 ≤ x
    · rw [List.takeWhile_cons_of_pos (by simpa using hq)] at ha
      rcases List.mem_cons.mp ha with rfl | ha
      · exact hq
      · exact ih a ha
    · rw [List.takeWhile_cons_of_neg (by simpa using hq)] at ha
      simp at ha
/-- Agenda.note -/
theorem C_note {e : Nat ⊕ Nat} (H : CA w me A ft) (hl : A.length < 512) : ∃ w' A' ft', kx_ev wx_M (d + 2) 43 [kx_r 1 (some 4), kx_l x, kx_r 6 (aSl e), kx_r 2 (aTg e)] w = some (.inl none, w') ∧ CA w' (me ++ [(e, x)]) A' ft' ∧ FR [] [1400] [200, 202, 1406, 1402, 1404] [] w w' := by
  have hlen := H.len
  obtain ⟨y, r, hft⟩ : ∃ y r, ft = y :: r := by
    cases h : ft with
    | nil => rw [h] at hlen; simp at hlen; omega
    | cons y r => exact ⟨y, r, rfl⟩
  have hfr := H.fre
  have hnd := H.nd
  rw [hft] at hfr hnd hlen
  obtain ⟨f1, f2⟩ := hfr
  rw [List.cons_append, List.nodup_cons, List.nodup_append] at hnd
  obtain ⟨m1, m2, m3, m4⟩ := hnd
  have hyr : y ∉ r := fun h => m1 (List.mem_append_left _ h)
  have hyA : y ∉ A.map (·.1) := fun h => m1 (List.mem_append_right _ h)
  have hchn := H.chn
  have hfl := H.fl
  have hso := H.so
  obtain ⟨P, hP⟩ : ∃ P, P = A.takeWhile (fun a => decide (a.2.2 ≤ x)) := ⟨_, rfl⟩
  obtain ⟨R, hR⟩ : ∃ R, R = A.dropWhile (fun a => decide (a.2.2 ≤ x)) := ⟨_, rfl⟩
  have hPR : P ++ R = A := by rw [hP, hR]; exact tw_dw A _
  have hPle : ∀ a ∈ P, a.2.2 ≤ x := by rw [hP]; exact tw_le
  have hRgt : ∀ a ∈ R, ¬ a.2.2 ≤ x := by rw [hR]; exact dw_gt hso
  -- the store before the search
  have F10 : FR [] [1400] [200, 202, 1406, 1402, 1404] [] w (hp_sR (hp_sR (hp_sL (hp_sR w 202 4 (hp_R w 1406 y)) 1400 y x) 1402 y (aSl e)) 1404 y (aTg e)) := FR.sR (by decide) (FR.sR (by decide) (FR.sL (by decide) (FR.sR (by decide) FR.rf)))
  have i1406 : hp_R (hp_sR (hp_sR (hp_sL (hp_sR w 202 4 (hp_R w 1406 y)) 1400 y x) 1402 y (aSl e)) 1404 y (aTg e)) 1406 = hp_R w 1406 := by funext j; simp [hI_I, hI_L, hI_R, hI_B, hI_b, hL_I, hL_L, hL_R, hL_B, hL_b, hR_I, hR_L, hR_R, hR_B, hR_b, hB_I, hB_L, hB_R, hB_B, hB_b, hN_I, hN_L, hN_R, hN_B, hN_b, hT_I, hT_L, hT_R, hT_B, hT_b, hX_I, hX_L, hX_R, hX_B, hX_b, hC_I, hC_L, hC_R, hC_B, hC_b, hU_I, hU_L, hU_R, hU_B, hU_b]
  have i200 : hp_R (hp_sR (hp_sR (hp_sL (hp_sR w 202 4 (hp_R w 1406 y)) 1400 y x) 1402 y (aSl e)) 1404 y (aTg e)) 200 = hp_R w 200 := by funext j; simp [hI_I, hI_L, hI_R, hI_B, hI_b, hL_I, hL_L, hL_R, hL_B, hL_b, hR_I, hR_L, hR_R, hR_B, hR_b, hB_I, hB_L, hB_R, hB_B, hB_b, hN_I, hN_L, hN_R, hN_B, hN_b, hT_I, hT_L, hT_R, hT_B, hT_b, hX_I, hX_L, hX_R, hX_B, hX_b, hC_I, hC_L, hC_R, hC_B, hC_b, hU_I, hU_L, hU_R, hU_B, hU_b]
  have i1400 : ∀ j, hp_L (hp_sR (hp_sR (hp_sL (hp_sR w 202 4 (hp_R w 1406 y)) 1400 y x) 1402 y (aSl e)) 1404 y (aTg e)) 1400 j = if j = y then x else hp_L w 1400 j := by intro j; by_cases hj : j = y <;> simp [hI_I, hI_L, hI_R, hI_B, hI_b, hL_I, hL_L, hL_R, hL_B, hL_b, hR_I, hR_L, hR_R, hR_B, hR_b, hB_I, hB_L, hB_R, hB_B, hB_b, hN_I, hN_L, hN_R, hN_B, hN_b, hT_I, hT_L, hT_R, hT_B, hT_b, hX_I, hX_L, hX_R, hX_B, hX_b, hC_I, hC_L, hC_R, hC_B, hC_b, hU_I, hU_L, hU_R, hU_B, hU_b, hj]
  have a44 : kx_ev wx_M (d + 1) 44 [kx_r 1 (some 4), kx_l x] (hp_sR (hp_sR (hp_sL (hp_sR w 202 4 (hp_R w 1406 y)) 1400 y x) 1402 y (aSl e)) 1404 y (aTg e)) = some (.inl (some (.inr (.inr (7, (P.map (·.1)).getLast?)))), hp_sR (hp_sR (hp_sL (hp_sR w 202 4 (hp_R w 1406 y)) 1400 y x) 1402 y (aSl e)) 1404 y (aTg e)) := by
    obtain ⟨ψ, hψ⟩ := kx_fl 1000 (by omega)
    rw [mE_44 hψ]
    unfold mb_44_0
    simp only [ob_s]
    rw [L_lna A (ψ + 1000) _ none (by rw [i1406, i200]; exact hchn) (fun a ha => by
      rw [i1400, if_neg (fun e : a.1 = y => hyA (e ▸ List.mem_map.mpr ⟨a, ha, rfl⟩))]
      exact (hfl a ha).1) (by omega), ← hP]
    rw [List.getLast?_map]
    cases P.getLast? <;> rfl
  have main : ∃ w', kx_ev wx_M (d + 2) 43 [kx_r 1 (some 4), kx_l x, kx_r 6 (aSl e), kx_r 2 (aTg e)] w = some (.inl none, w') ∧ FR [] [1400] [200, 202, 1406, 1402, 1404] [] w w' ∧
      (∀ q, hp_R w' 1406 q = if q = y then (match (P.map (·.1)).getLast? with | some z => hp_R w 1406 z | none => hp_R w 200 4) else if some q = (P.map (·.1)).getLast? then some y else hp_R w 1406 q) ∧ hp_R w' 200 4 = (if P = [] then some y else hp_R w 200 4) ∧ hp_R w' 202 4 = hp_R w 1406 y ∧ (∀ q, hp_L w' 1400 q = if q = y then x else hp_L w 1400 q) ∧ (∀ q, hp_R w' 1402 q = if q = y then aSl e else hp_R w 1402 q) ∧ (∀ q, hp_R w' 1404 q = if q = y then aTg e else hp_R w 1404 q) := by
    cases hla : (P.map (·.1)).getLast? with
    | none =>
      have hnil : P = [] := by
        cases hh : P with
        | nil => rfl
        | cons a l => rw [hh] at hla; simp at hla
      rw [hla] at a44
      refine ⟨hp_sR (hp_sR (hp_sR (hp_sR (hp_sL (hp_sR w 202 4 (hp_R w 1406 y)) 1400 y x) 1402 y (aSl e)) 1404 y (aTg e)) 1406 y (hp_R w 200 4)) 200 4 (some y), ?_, FR.sR (by decide) (FR.sR (by decide) F10), ?_, ?_, ?_, ?_, ?_, ?_⟩
      · skip
        obtain ⟨ψ, hψ⟩ := kx_fu
        rw [mE_43 hψ]
        unfold mb_43_0
        simp only [ob_s, f1, reduceCtorEq, if_false, a44, br_n, if_true, i200, me_43_87, mb_43_87]
      · intro q; by_cases hq : q = y <;> simp [hI_I, hI_L, hI_R, hI_B, hI_b, hL_I, hL_L, hL_R, hL_B, hL_b, hR_I, hR_L, hR_R, hR_B, hR_b, hB_I, hB_L, hB_R, hB_B, hB_b, hN_I, hN_L, hN_R, hN_B, hN_b, hT_I, hT_L, hT_R, hT_B, hT_b, hX_I, hX_L, hX_R, hX_B, hX_b, hC_I, hC_L, hC_R, hC_B, hC_b, hU_I, hU_L, hU_R, hU_B, hU_b, hq]
      · simp [hI_I, hI_L, hI_R, hI_B, hI_b, hL_I, hL_L, hL_R, hL_B, hL_b, hR_I, hR_L, hR_R, hR_B, hR_b, hB_I, hB_L, hB_R, hB_B, hB_b, hN_I, hN_L, hN_R, hN_B, hN_b, hT_I, hT_L, hT_R, hT_B, hT_b, hX_I, hX_L, hX_R, hX_B, hX_b, hC_I, hC_L, hC_R, hC_B, hC_b, hU_I, hU_L, hU_R, hU_B, hU_b, hnil]
      · simp [hI_I, hI_L, hI_R, hI_B, hI_b, hL_I, hL_L, hL_R, hL_B, hL_b, hR_I, hR_L, hR_R, hR_B, hR_b, hB_I, hB_L, hB_R, hB_B, hB_b, hN_I, hN_L, hN_R, hN_B, hN_b, hT_I, hT_L, hT_R, hT_B, hT_b, hX_I, hX_L, hX_R, hX_B, hX_b, hC_I, hC_L, hC_R, hC_B, hC_b, hU_I, hU_L, hU_R, hU_B, hU_b]
      · intro q; by_cases hq : q = y <;> simp [hI_I, hI_L, hI_R, hI_B, hI_b, hL_I, hL_L, hL_R, hL_B, hL_b, hR_I, hR_L, hR_R, hR_B, hR_b, hB_I, hB_L, hB_R, hB_B, hB_b, hN_I, hN_L, hN_R, hN_B, hN_b, hT_I, hT_L, hT_R, hT_B, hT_b, hX_I, hX_L, hX_R, hX_B, hX_b, hC_I, hC_L, hC_R, hC_B, hC_b, hU_I, hU_L, hU_R, hU_B, hU_b, hq]
      · intro q; by_cases hq : q = y <;> simp [hI_I, hI_L, hI_R, hI_B, hI_b, hL_I, hL_L, hL_R, hL_B, hL_b, hR_I, hR_L, hR_R, hR_B, hR_b, hB_I, hB_L, hB_R, hB_B, hB_b, hN_I, hN_L, hN_R, hN_B, hN_b, hT_I, hT_L, hT_R, hT_B, hT_b, hX_I, hX_L, hX_R, hX_B, hX_b, hC_I, hC_L, hC_R, hC_B, hC_b, hU_I, hU_L, hU_R, hU_B, hU_b, hq]
      · intro q; by_cases hq : q = y <;> simp [hI_I, hI_L, hI_R, hI_B, hI_b, hL_I, hL_L, hL_R, hL_B, hL_b, hR_I, hR_L, hR_R, hR_B, hR_b, hB_I, hB_L, hB_R, hB_B, hB_b, hN_I, hN_L, hN_R, hN_B, hN_b, hT_I, hT_L, hT_R, hT_B, hT_b, hX_I, hX_L, hX_R, hX_B, hX_b, hC_I, hC_L, hC_R, hC_B, hC_b, hU_I, hU_L, hU_R, hU_B, hU_b, hq]
    | some z =>
      have hnn : P ≠ [] := fun h => by rw [h] at hla; simp at hla
      have hzA : z ∈ A.map (·.1) := by
        rw [← hPR, List.map_append]
        exact List.mem_append_left _ (List.mem_of_getLast? hla)
      have hzy : z ≠ y := fun e => hyA (e ▸ hzA)
      rw [hla] at a44
      refine ⟨hp_sR (hp_sR (hp_sR (hp_sR (hp_sL (hp_sR w 202 4 (hp_R w 1406 y)) 1400 y x) 1402 y (aSl e)) 1404 y (aTg e)) 1406 y (hp_R w 1406 z)) 1406 z (some y), ?_, FR.sR (by decide) (FR.sR (by decide) F10), ?_, ?_, ?_, ?_, ?_, ?_⟩
      · skip
        obtain ⟨ψ, hψ⟩ := kx_fu
        rw [mE_43 hψ]
        unfold mb_43_0
        simp only [ob_s, f1, reduceCtorEq, if_false, a44, br_n, i1406, me_43_87, mb_43_87]
      · intro q
        by_cases hq : q = y
        · subst hq; simp [hI_I, hI_L, hI_R, hI_B, hI_b, hL_I, hL_L, hL_R, hL_B, hL_b, hR_I, hR_L, hR_R, hR_B, hR_b, hB_I, hB_L, hB_R, hB_B, hB_b, hN_I, hN_L, hN_R, hN_B, hN_b, hT_I, hT_L, hT_R, hT_B, hT_b, hX_I, hX_L, hX_R, hX_B, hX_b, hC_I, hC_L, hC_R, hC_B, hC_b, hU_I, hU_L, hU_R, hU_B, hU_b, Ne.symm hzy]
        · by_cases hz : q = z
          · subst hz; simp [hI_I, hI_L, hI_R, hI_B, hI_b, hL_I, hL_L, hL_R, hL_B, hL_b, hR_I, hR_L, hR_R, hR_B, hR_b, hB_I, hB_L, hB_R, hB_B, hB_b, hN_I, hN_L, hN_R, hN_B, hN_b, hT_I, hT_L, hT_R, hT_B, hT_b, hX_I, hX_L, hX_R, hX_B, hX_b, hC_I, hC_L, hC_R, hC_B, hC_b, hU_I, hU_L, hU_R, hU_B, hU_b, hq]
          · simp [hI_I, hI_L, hI_R, hI_B, hI_b, hL_I, hL_L, hL_R, hL_B, hL_b, hR_I, hR_L, hR_R, hR_B, hR_b, hB_I, hB_L, hB_R, hB_B, hB_b, hN_I, hN_L, hN_R, hN_B, hN_b, hT_I, hT_L, hT_R, hT_B, hT_b, hX_I, hX_L, hX_R, hX_B, hX_b, hC_I, hC_L, hC_R, hC_B, hC_b, hU_I, hU_L, hU_R, hU_B, hU_b, hq, hz]
      · simp [hI_I, hI_L, hI_R, hI_B, hI_b, hL_I, hL_L, hL_R, hL_B, hL_b, hR_I, hR_L, hR_R, hR_B, hR_b, hB_I, hB_L, hB_R, hB_B, hB_b, hN_I, hN_L, hN_R, hN_B, hN_b, hT_I, hT_L, hT_R, hT_B, hT_b, hX_I, hX_L, hX_R, hX_B, hX_b, hC_I, hC_L, hC_R, hC_B, hC_b, hU_I, hU_L, hU_R, hU_B, hU_b, hnn]
      · simp [hI_I, hI_L, hI_R, hI_B, hI_b, hL_I, hL_L, hL_R, hL_B, hL_b, hR_I, hR_L, hR_R, hR_B, hR_b, hB_I, hB_L, hB_R, hB_B, hB_b, hN_I, hN_L, hN_R, hN_B, hN_b, hT_I, hT_L, hT_R, hT_B, hT_b, hX_I, hX_L, hX_R, hX_B, hX_b, hC_I, hC_L, hC_R, hC_B, hC_b, hU_I, hU_L, hU_R, hU_B, hU_b]
      · intro q; by_cases hq : q = y <;> simp [hI_I, hI_L, hI_R, hI_B, hI_b, hL_I, hL_L, hL_R, hL_B, hL_b, hR_I, hR_L, hR_R, hR_B, hR_b, hB_I, hB_L, hB_R, hB_B, hB_b, hN_I, hN_L, hN_R, hN_B, hN_b, hT_I, hT_L, hT_R, hT_B, hT_b, hX_I, hX_L, hX_R, hX_B, hX_b, hC_I, hC_L, hC_R, hC_B, hC_b, hU_I, hU_L, hU_R, hU_B, hU_b, hq]
      · intro q; by_cases hq : q = y <;> simp [hI_I, hI_L, hI_R, hI_B, hI_b, hL_I, hL_L, hL_R, hL_B, hL_b, hR_I, hR_L, hR_R, hR_B, hR_b, hB_I, hB_L, hB_R, hB_B, hB_b, hN_I, hN_L, hN_R, hN_B, hN_b, hT_I, hT_L, hT_R, hT_B, hT_b, hX_I, hX_L, hX_R, hX_B, hX_b, hC_I, hC_L, hC_R, hC_B, hC_b, hU_I, hU_L, hU_R, hU_B, hU_b, hq]
      · intro q; by_cases hq : q = y <;> simp [hI_I, hI_L, hI_R, hI_B, hI_b, hL_I, hL_L, hL_R, hL_B, hL_b, hR_I, hR_L, hR_R, hR_B, hR_b, hB_I, hB_L, hB_R, hB_B, hB_b, hN_I, hN_L, hN_R, hN_B, hN_b, hT_I, hT_L, hT_R, hT_B, hT_b, hX_I, hX_L, hX_R, hX_B, hX_b, hC_I, hC_L, hC_R, hC_B, hC_b, hU_I, hU_L, hU_R, hU_B, hU_b, hq]
  obtain ⟨w', a1, FF, g1, g2, g3, g4, g5, g6⟩ := main
  have hyPR : y ∉ P.map (·.1) ++ R.map (·.1) := by rw [← List.map_append, hPR]; exact hyA
  have ndPR : (P.map (·.1) ++ R.map (·.1)).Nodup := by rw [← List.map_append, hPR]; exact m3
  refine ⟨w', P ++ (y, e, x) :: R, r, a1, ⟨?_, fun a ha => ?_, ?_, ?_, ?_, ?_, fun z => ?_⟩, FF⟩
  · rw [List.map_append, List.map_cons, g2]
    have hc : ch (hp_R w 1406) (hp_R w 200 4) (P.map (·.1) ++ R.map (·.1)) := by rw [← List.map_append, hPR]; exact hchn
    have := ch_ins (y := y) hc hyPR ndPR
    have e9 : hp_R w' 1406 = (fun q => if q = y then (match (P.map (·.1)).getLast? with | some z => hp_R w 1406 z | none => hp_R w 200 4) else if some q = (P.map (·.1)).getLast? then some y else hp_R w 1406 q) := funext g1
    rw [e9]
    have e8 : (P.map (·.1) = []) = (P = []) := by simp
    simp only [e8] at this
    exact this
  · rw [g4, g5, g6]
    have hin : ∀ a ∈ A, (hp_L w 1400 a.1 = a.2.2 ∧ hp_R w 1402 a.1 = aSl a.2.1 ∧ hp_R w 1404 a.1 = aTg a.2.1) ∧ a.1 ≠ y := fun a ha => ⟨hfl a ha, fun e => hyA (e ▸ List.mem_map.mpr ⟨a, ha, rfl⟩)⟩
    rcases List.mem_append.mp ha with h | h
    · obtain ⟨h1, h2⟩ := hin a (by rw [← hPR]; exact List.mem_append_left _ h)
      rw [if_neg h2, if_neg h2, if_neg h2]
      exact h1
    · rcases List.mem_cons.mp h with rfl | h
      · rw [if_pos rfl, if_pos rfl, if_pos rfl]
        exact ⟨rfl, rfl, rfl⟩
      · obtain ⟨h1, h2⟩ := hin a (by rw [← hPR]; exact List.mem_append_right _ h)
        rw [if_neg h2, if_neg h2, if_neg h2]
        exact h1
  · rw [g3]
    refine f2.upd (fun q hq => ?_)
    rw [g1, if_neg (fun e : q = y => hyr (e ▸ hq)), if_neg (fun e => m4 q hq q (by rw [← hPR, List.map_append]; exact List.mem_append_left _ (List.mem_of_getLast? e.symm)) rfl)]
  · have hp : List.Perm (r ++ (P ++ (y, e, x) :: R).map (·.1)) (y :: (r ++ A.map (·.1))) := by
      rw [← hPR, List.map_append, List.map_cons, List.map_append]
      have h5 : List.Perm (P.map (·.1) ++ y :: R.map (·.1)) (y :: (P.map (·.1) ++ R.map (·.1))) := List.perm_middle
      exact (List.Perm.append_left r h5).trans List.perm_middle
    refine hp.nodup_iff.mpr (List.nodup_cons.mpr ⟨m1, List.nodup_append.mpr ⟨m2, m3, m4⟩⟩)
  · have : (P ++ R).length = A.length := by rw [hPR]
    simp at hlen this ⊢
    omega
  · rw [← hPR] at hso
    obtain ⟨p1, p2, p3⟩ := List.pairwise_append.mp hso
    refine List.pairwise_append.mpr ⟨p1, List.pairwise_cons.mpr ⟨fun a ha => ?_, p2⟩, fun a ha b hb => ?_⟩
    · have := hRgt a ha
      show x ≤ a.2.2
      rw [Int64.le_iff_toInt_le] at this ⊢
      omega
    · rcases List.mem_cons.mp hb with rfl | hb
      · exact hPle a ha
      · exact p3 a ha b hb
  · have he := H.eq z
    rw [← hPR, List.filter_append] at he
    rw [List.filter_append, List.filter_append, ← he]
    by_cases hz : x = z
    · subst hz
      have hRn : R.filter (fun a => a.2.2 == x) = [] := by
        rw [List.filter_eq_nil_iff]
        intro a ha h
        have h1 := hRgt a ha
        simp at h
        rw [h] at h1
        exact h1 (Int64.le_refl _)
      rw [List.filter_cons_of_pos (by simp), hRn]
      simp
    · rw [List.filter_cons_of_neg (by simpa using hz)]
      have : [(e, x)].filter (fun q : kMe => q.2 == z) = [] := by simp [hz]
      rw [this, List.append_nil]
end CAG
