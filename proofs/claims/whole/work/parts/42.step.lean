section STEP
variable {w w' : kx_H} {rl : Nat → List Nat} {d r p : Nat}
theorem gl_c (a z : Nat) (l : List Nat) : (a :: (l ++ [z])).getLast? = some z := by
  rw [← List.cons_append, List.getLast?_append]
  rfl
theorem nd_mid {xs ys : List Nat} {p : Nat} (h : (xs ++ p :: ys).Nodup) : p ∉ xs ∧ p ∉ ys ∧ (∀ q, q ∈ xs → q ∉ ys) := by
  rw [List.nodup_append] at h
  obtain ⟨-, h2, h3⟩ := h
  rw [List.nodup_cons] at h2
  exact ⟨fun z => h3 p z p (by simp) rfl, h2.1, fun q h5 h6 => h3 q h5 q (List.mem_cons_of_mem _ h6) rfl⟩
theorem kRow_out {xs ys : List Nat} (K : kRow w rl) (e : rl r = xs ++ p :: ys)
    (f1 : ∀ x, hp_R w' 1000 x = if x = r then (xs ++ ys).head? else hp_R w 1000 x) (f2 : ∀ x, hp_R w' 1002 x = if x = r then (xs ++ ys).getLast? else hp_R w 1002 x) (f3 : ∀ x, hp_I w' 1004 x = if x = r then i32 (xs ++ ys).length else hp_I w 1004 x)
    (f4 : ∀ q, hp_R w' 810 q = if q = p then none else hp_R w 810 q) (f5 : ∀ q, hp_R w' 812 q = if q = p then none else if ys.head? = some q then xs.getLast? else hp_R w 812 q) (f6 : ∀ q, hp_R w' 814 q = if q = p then none else if xs.getLast? = some q then ys.head? else hp_R w 814 q) :
    kRow w' (up rl r (xs ++ ys)) := by
  obtain ⟨K1, K2, K3, K4⟩ := id K
  have nd : (xs ++ p :: ys).Nodup := by rw [← e]; exact (K1 r).2.2.2
  obtain ⟨n1, n2, n3⟩ := nd_mid nd
  have nd2 : (xs ++ ys).Nodup := by
    rw [List.nodup_append] at nd ⊢
    refine ⟨nd.1, (List.nodup_cons.mp nd.2.1).2, fun a ha b hb => nd.2.2 a ha b (List.mem_cons_of_mem _ hb)⟩
  have hh : ∀ {l : List Nat} {q : Nat}, l.head? = some q → q ∈ l := fun {l q} h => List.mem_of_head? h
  have hl : ∀ {l : List Nat} {q : Nat}, l.getLast? = some q → q ∈ l := fun {l q} h => List.mem_of_getLast? h
  have rowX : ∀ q, q ∈ xs → hp_R w 810 q = some r := fun q hq => K.row (by rw [e]; simp [hq])
  have rowY : ∀ q, q ∈ ys → hp_R w 810 q = some r := fun q hq => K.row (by rw [e]; simp [hq])
  refine ⟨fun x => ?_, fun x us q vs hx => ?_, fun q x hq => ?_, fun q hq => ?_⟩
  · rw [f1, f2, f3]
    by_cases hx : x = r
    · subst hx
      rw [up_s]
      simp [nd2]
    · rw [up_n _ _ hx, if_neg hx, if_neg hx, if_neg hx]
      exact K1 x
  · rw [f4, f5, f6]
    by_cases hx9 : x = r
    · subst hx9
      rw [up_s] at hx
      rcases List.append_eq_append_iff.mp hx with ⟨zs, h1, h2⟩ | ⟨zs, h1, h2⟩
      · -- us = xs ++ zs, ys = zs ++ q :: vs
        have hqy : q ∈ ys := by rw [h2]; simp
        have hqp : q ≠ p := fun z => n2 (z ▸ hqy)
        have old := K2 x (xs ++ p :: zs) q vs (by rw [e, h2]; simp)
        rw [if_neg hqp, if_neg hqp, if_neg hqp, h1]
        refine ⟨old.1, ?_, ?_⟩
        · rcases List.eq_nil_or_concat zs with rfl | ⟨us', z, rfl⟩
          · rw [h2]; simp
          · rw [if_neg ?_, old.2.1]
            · simp [gl_c]
            · intro z9
              rw [h2] at z9
              cases us' with
              | nil =>
                simp at z9
                subst z9
                rw [h2] at nd
                simp at nd
                have := (List.nodup_append.mp nd).2.1
                simp at this
              | cons u us' =>
                simp at z9
                subst z9
                rw [h2] at nd
                simp at nd
                have := (List.nodup_append.mp nd).2.1
                simp at this
        · rw [if_neg (fun z => n3 q (hl z) hqy)]
          exact old.2.2
      · -- xs = us ++ zs, q :: vs = zs ++ ys
        cases zs with
        | nil =>
          simp at h1 h2
          have hqy : q ∈ ys := by rw [← h2]; simp
          have hqp : q ≠ p := fun z => n2 (z ▸ hqy)
          have old := K2 x (xs ++ [p]) q vs (by rw [e, ← h2]; simp)
          rw [if_neg hqp, if_neg hqp, if_neg hqp, ← h1]
          refine ⟨old.1, ?_, ?_⟩
          · rw [← h2]; simp
          · rw [if_neg (fun z => n3 q (hl z) hqy)]
            exact old.2.2
        | cons z zs =>
          simp at h2
          obtain ⟨rfl, h2⟩ := h2
          have hqx : q ∈ xs := by rw [h1]; simp
          have hqp : q ≠ p := fun z => n1 (z ▸ hqx)
          have old := K2 x us q (zs ++ p :: ys) (by rw [e, h1]; simp)
          rw [if_neg hqp, if_neg hqp, if_neg hqp]
          refine ⟨old.1, ?_, ?_⟩
          · rw [if_neg (fun z => n3 q hqx (hh z))]
            exact old.2.1
          · rw [h2]
            rcases List.eq_nil_or_concat zs with rfl | ⟨zs', z, rfl⟩
            · rw [if_pos (by rw [h1]; simp)]
              rfl
            · rw [if_neg ?_, old.2.2]
              · cases zs' <;> simp
              · intro z9
                rw [h1] at z9
                simp [gl_c] at z9
                subst z9
                rw [h1] at nd
                simp at nd
                have := (List.nodup_append.mp nd).2.1
                simp at this
    · rw [up_n _ _ hx9] at hx
      have old := K2 x us q vs hx
      have hqp : q ≠ p := fun z => by
        have h9 := K.row (r := r) (p := p) (by rw [e]; simp)
        rw [z, h9] at old
        exact hx9 (Option.some.inj old.1).symm
      rw [if_neg hqp, if_neg hqp, if_neg hqp]
      rw [if_neg (fun z => by rw [rowY q (hh z)] at old; exact hx9 (Option.some.inj old.1).symm), if_neg (fun z => by rw [rowX q (hl z)] at old; exact hx9 (Option.some.inj old.1).symm)]
      exact old
  · rw [f4] at hq
    by_cases hqp : q = p
    · rw [if_pos hqp] at hq; cases hq
    · rw [if_neg hqp] at hq
      have := K3 q x hq
      by_cases hx : x = r
      · subst hx
        rw [up_s]
        rw [e] at this
        simp at this
        simp
        rcases this with h | h | h
        · exact Or.inl h
        · exact absurd h hqp
        · exact Or.inr h
      · rw [up_n _ _ hx]; exact this
  · rw [f4] at hq
    rw [f5, f6]
    by_cases hqp : q = p
    · rw [if_pos hqp, if_pos hqp]; exact ⟨rfl, rfl⟩
    · rw [if_neg hqp] at hq
      rw [if_neg hqp, if_neg hqp, if_neg (fun z => by rw [rowY q (hh z)] at hq; cases hq), if_neg (fun z => by rw [rowX q (hl z)] at hq; cases hq)]
      exact K4 q hq
theorem fl_id {l : List Nat} {p : Nat} (h : p ∉ l) : l.filter (fun q => q != p) = l := by
  rw [List.filter_eq_self]
  intro a ha
  simp
  exact fun z => h (z ▸ ha)
/-- Place.stepOut -/
theorem L_stepOut (K : kRow w rl) : ∃ w', kx_ev wx_M (d + 1) 37 [kx_r 4 (some p)] w = some (.inl none, w') ∧ kRow w' (fun x => (rl x).filter (fun q => q != p)) ∧ hp_R w' 810 p = none ∧ (∀ q, q ≠ p → hp_R w' 810 q = hp_R w 810 q) ∧ FR [1004] [] [810, 812, 814, 1000, 1002] [] w w' := by
  obtain ⟨ψ, hψ⟩ := kx_fu
  rw [mE_37 hψ]
  unfold mb_37_0
  cases hr : hp_R w 810 p with
  | none =>
    refine ⟨w, ?_, ?_, hr, fun _ _ => rfl, FR.rf⟩
    · simp only [ob_s, hr, if_true]
    · have e : (fun x => (rl x).filter (fun q => q != p)) = rl := by
        funext x
        exact fl_id (K.not hr x)
      rw [e]
      exact K
  | some r =>
    obtain ⟨K1, K2, K3, K4⟩ := id K
    obtain ⟨xs, ys, e⟩ := List.append_of_mem (K3 p r hr)
    have old := K2 r xs p ys e
    obtain ⟨g1, g2, g3, nd⟩ := K1 r
    rw [e] at g1 g2 g3 nd
    obtain ⟨n1, n2, n3⟩ := nd_mid nd
    have hlen : i32 (xs ++ p :: ys).length - 1 = i32 (xs ++ ys).length := by
      rw [show (xs ++ p :: ys).length = (xs ++ ys).length + 1 by simp; omega]
      exact i32_sub1 _
    have fin : ∀ {w'' : kx_H}, kRow w'' (up rl r (xs ++ ys)) → kRow w'' (fun x => (rl x).filter (fun q => q != p)) := by
      intro w'' h
      have e9 : (fun x => (rl x).filter (fun q => q != p)) = up rl r (xs ++ ys) := by
        funext x
        by_cases hx : x = r
        · subst hx
          rw [up_s, e, List.filter_append, fl_id n1]
          simp
          exact fun a ha z => n2 (z ▸ ha)
        · rw [up_n _ _ hx]
          refine fl_id (fun hm => hx ?_)
          have := K.row hm
          rw [hr] at this
          exact (Option.some.inj this).symm
      rw [e9]
      exact h
    rcases List.eq_nil_or_concat xs with rfl | ⟨xs', a, rfl⟩
    · cases ys with
      | nil =>
        simp at old g1 g2 g3 hlen
        refine ⟨hp_sR (hp_sR (hp_sR (hp_sI (hp_sR (hp_sR w 1000 r none) 1002 r none) 1004 r (i32 0)) 810 p none) 812 p none) 814 p none, ?_, fin (kRow_out K e ?_ ?_ ?_ ?_ ?_ ?_), ?_, ?_, FR.sR (by decide) (FR.sR (by decide) (FR.sR (by decide) (FR.sI (by decide) (FR.sR (by decide) (FR.sR (by decide) FR.rf)))))⟩
        · simp only [ob_s, hr, hI_I, hI_L, hI_R, hI_B, hI_b, hL_I, hL_L, hL_R, hL_B, hL_b, hR_I, hR_L, hR_R, hR_B, hR_b, hB_I, hB_L, hB_R, hB_B, hB_b, hN_I, hN_L, hN_R, hN_B, hN_b, hT_I, hT_L, hT_R, hT_B, hT_b, hX_I, hX_L, hX_R, hX_B, hX_b, hC_I, hC_L, hC_R, hC_B, hC_b, hU_I, hU_L, hU_R, hU_B, hU_b, old.2.1, old.2.2, me_37_40, mb_37_40, me_37_72, mb_37_72, g3]
          simp [g3, hlen, hr, old.2.1, old.2.2]
        all_goals (simp only [hI_I, hI_L, hI_R, hI_B, hI_b, hL_I, hL_L, hL_R, hL_B, hL_b, hR_I, hR_L, hR_R, hR_B, hR_b, hB_I, hB_L, hB_R, hB_B, hB_b, hN_I, hN_L, hN_R, hN_B, hN_b, hT_I, hT_L, hT_R, hT_B, hT_b, hX_I, hX_L, hX_R, hX_B, hX_b, hC_I, hC_L, hC_R, hC_B, hC_b, hU_I, hU_L, hU_R, hU_B, hU_b]; simp)
        · intro q hq; simp [hq]
      | cons b ys =>
        have hbp : b ≠ p := fun z => n2 (by simp [z])
        simp at old g1 g2 g3 hlen
        refine ⟨hp_sR (hp_sR (hp_sR (hp_sI (hp_sR (hp_sR w 1000 r (some b)) 812 b none) 1004 r (i32 (ys.length + 1))) 810 p none) 812 p none) 814 p none, ?_, fin (kRow_out K e ?_ ?_ ?_ ?_ ?_ ?_), ?_, ?_, FR.sR (by decide) (FR.sR (by decide) (FR.sR (by decide) (FR.sI (by decide) (FR.sR (by decide) (FR.sR (by decide) FR.rf)))))⟩
        · simp only [ob_s, hr, hI_I, hI_L, hI_R, hI_B, hI_b, hL_I, hL_L, hL_R, hL_B, hL_b, hR_I, hR_L, hR_R, hR_B, hR_b, hB_I, hB_L, hB_R, hB_B, hB_b, hN_I, hN_L, hN_R, hN_B, hN_b, hT_I, hT_L, hT_R, hT_B, hT_b, hX_I, hX_L, hX_R, hX_B, hX_b, hC_I, hC_L, hC_R, hC_B, hC_b, hU_I, hU_L, hU_R, hU_B, hU_b, old.2.1, old.2.2, me_37_40, mb_37_40, me_37_72, mb_37_72, g3]
          simp [g3, hlen, hr, old.2.1, old.2.2, Ne.symm hbp]
        all_goals (simp only [hI_I, hI_L, hI_R, hI_B, hI_b, hL_I, hL_L, hL_R, hL_B, hL_b, hR_I, hR_L, hR_R, hR_B, hR_b, hB_I, hB_L, hB_R, hB_B, hB_b, hN_I, hN_L, hN_R, hN_B, hN_b, hT_I, hT_L, hT_R, hT_B, hT_b, hX_I, hX_L, hX_R, hX_B, hX_b, hC_I, hC_L, hC_R, hC_B, hC_b, hU_I, hU_L, hU_R, hU_B, hU_b]; simp)
        · first | exact g2 | (intro x; by_cases hx : x = r <;> simp [hx, g2])
        · intro q; by_cases hq : q = b
          · simp [hq]
          · simp [hq, Ne.symm hq]
        · intro q hq; simp [hq]
    · have hap : a ≠ p := fun z => n1 (by simp [z])
      have hxl : (xs'.concat a).getLast? = some a := by simp
      cases ys with
      | nil =>
        simp at old g1 g2 g3 hlen
        refine ⟨hp_sR (hp_sR (hp_sR (hp_sI (hp_sR (hp_sR w 814 a none) 1002 r (some a)) 1004 r (i32 (xs'.length + 1))) 810 p none) 812 p none) 814 p none, ?_, fin (kRow_out K e ?_ ?_ ?_ ?_ ?_ ?_), ?_, ?_, FR.sR (by decide) (FR.sR (by decide) (FR.sR (by decide) (FR.sI (by decide) (FR.sR (by decide) (FR.sR (by decide) FR.rf)))))⟩
        · simp only [ob_s, hr, hI_I, hI_L, hI_R, hI_B, hI_b, hL_I, hL_L, hL_R, hL_B, hL_b, hR_I, hR_L, hR_R, hR_B, hR_b, hB_I, hB_L, hB_R, hB_B, hB_b, hN_I, hN_L, hN_R, hN_B, hN_b, hT_I, hT_L, hT_R, hT_B, hT_b, hX_I, hX_L, hX_R, hX_B, hX_b, hC_I, hC_L, hC_R, hC_B, hC_b, hU_I, hU_L, hU_R, hU_B, hU_b, old.2.1, old.2.2, me_37_40, mb_37_40, me_37_72, mb_37_72, g3]
          simp [g3, hlen, hr, old.2.1, old.2.2, Ne.symm hap]
        all_goals (simp only [hI_I, hI_L, hI_R, hI_B, hI_b, hL_I, hL_L, hL_R, hL_B, hL_b, hR_I, hR_L, hR_R, hR_B, hR_b, hB_I, hB_L, hB_R, hB_B, hB_b, hN_I, hN_L, hN_R, hN_B, hN_b, hT_I, hT_L, hT_R, hT_B, hT_b, hX_I, hX_L, hX_R, hX_B, hX_b, hC_I, hC_L, hC_R, hC_B, hC_b, hU_I, hU_L, hU_R, hU_B, hU_b]; simp)
        · first | exact g1 | (intro x; by_cases hx : x = r <;> simp [hx, g1])
        · intro q; by_cases hq : q = a
          · simp [hq]
          · simp [hq, Ne.symm hq]
        · intro q hq; simp [hq]
      | cons b ys =>
        have hbp : b ≠ p := fun z => n2 (by simp [z])
        simp at old g1 g2 g3 hlen
        refine ⟨hp_sR (hp_sR (hp_sR (hp_sI (hp_sR (hp_sR w 814 a (some b)) 812 b (some a)) 1004 r (i32 (xs'.length + (ys.length + 1 + 1)))) 810 p none) 812 p none) 814 p none, ?_, fin (kRow_out K e ?_ ?_ ?_ ?_ ?_ ?_), ?_, ?_, FR.sR (by decide) (FR.sR (by decide) (FR.sR (by decide) (FR.sI (by decide) (FR.sR (by decide) (FR.sR (by decide) FR.rf)))))⟩
        · simp only [ob_s, hr, hI_I, hI_L, hI_R, hI_B, hI_b, hL_I, hL_L, hL_R, hL_B, hL_b, hR_I, hR_L, hR_R, hR_B, hR_b, hB_I, hB_L, hB_R, hB_B, hB_b, hN_I, hN_L, hN_R, hN_B, hN_b, hT_I, hT_L, hT_R, hT_B, hT_b, hX_I, hX_L, hX_R, hX_B, hX_b, hC_I, hC_L, hC_R, hC_B, hC_b, hU_I, hU_L, hU_R, hU_B, hU_b, old.2.1, old.2.2, me_37_40, mb_37_40, me_37_72, mb_37_72, g3]
          simp [g3, hlen, hr, old.2.1, old.2.2, Ne.symm hap, Ne.symm hbp]
        all_goals (simp only [hI_I, hI_L, hI_R, hI_B, hI_b, hL_I, hL_L, hL_R, hL_B, hL_b, hR_I, hR_L, hR_R, hR_B, hR_b, hB_I, hB_L, hB_R, hB_B, hB_b, hN_I, hN_L, hN_R, hN_B, hN_b, hT_I, hT_L, hT_R, hT_B, hT_b, hX_I, hX_L, hX_R, hX_B, hX_b, hC_I, hC_L, hC_R, hC_B, hC_b, hU_I, hU_L, hU_R, hU_B, hU_b]; simp)
        · first | exact g1 | (intro x; by_cases hx : x = r <;> simp [hx, g1])
        · first | exact g2 | (intro x; by_cases hx : x = r <;> simp [hx, g2])
        · intro q; by_cases hq : q = b
          · simp [hq]
          · simp [hq, Ne.symm hq]
        · intro q; by_cases hq : q = a
          · simp [hq]
          · simp [hq, Ne.symm hq]
        · intro q hq; simp [hq]
end STEP
