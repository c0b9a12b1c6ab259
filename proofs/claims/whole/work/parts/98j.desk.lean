/-! the desk's loops -/
section DSK
variable {w w' w1 : kx_H} {a b c d n i t t' s p q x0 : Nat} {x : Int32} {o : Option Nat}
/-- what the loops lean on -/
def DB (w : kx_H) : Prop := ZS w ∧ hp_T w 1 = some 0 ∧ (hp_R w 0 1 = some 2 ∧ hp_T w 2 = some 102 ∧ hp_N w 2 = 256) ∧ (hp_R w 16 1 = some 517 ∧ hp_T w 517 = some 103 ∧ hp_N w 517 = 512) ∧ (hp_R w 32 1 = some 522 ∧ hp_T w 522 = some 105 ∧ hp_N w 522 = 256)
theorem DB.un {ki kr : List Nat} (D : DB w) (U : Un ki kr w w') (Z : ZS w') (h0 : 0 ∉ kr) (h1 : 16 ∉ kr) (h2 : 32 ∉ kr) : DB w' := by
  obtain ⟨d1, d2, ⟨a1, a2, a3⟩, ⟨b1, b2, b3⟩, ⟨c1, c2, c3⟩⟩ := D
  refine ⟨Z, U.tg d1 d2, ⟨?_, U.tg d1 a2, ?_⟩, ⟨?_, U.tg d1 b2, ?_⟩, ⟨?_, U.tg d1 c2, ?_⟩⟩
  · rw [U.2.2.1 0 h0]; exact a1
  · rw [U.2.2.2.2.2.1 2 (d1.1.lt a2)]; exact a3
  · rw [U.2.2.1 16 h1]; exact b1
  · rw [U.2.2.2.2.2.1 517 (d1.1.lt b2)]; exact b3
  · rw [U.2.2.1 32 h2]; exact c1
  · rw [U.2.2.2.2.2.1 522 (d1.1.lt c2)]; exact c3
theorem Un.nw {t n s : Nat} : Un [] [] w (hp_nw w t n s) := by
  refine ⟨fun _ _ => rfl, rfl, fun _ _ => rfl, rfl, fun b hb => ?_, fun b hb => ?_, Nat.le_succ _⟩
  · rw [hT_n, if_neg (by omega)]
  · rw [hN_n, if_neg (by omega)]
theorem Un.sI {ki kr : List Nat} {k : Nat} {v : Int32} (h : Un ki kr w w') (hk : k ∈ ki) : Un ki kr w (hp_sI w' k a v) := by
  obtain ⟨a1, a2, a3, a4, a5, a6, a7⟩ := h
  refine ⟨fun j hj => ?_, a2, a3, a4, a5, a6, a7⟩
  rw [← a1 j hj]
  funext b
  rw [hI_I, if_neg (fun (e : j = k ∧ b = a) => hj (e.1 ▸ hk))]
theorem Un.sR {ki kr : List Nat} {k : Nat} {v : Option Nat} (h : Un ki kr w w') (hk : k ∈ kr) : Un ki kr w (hp_sR w' k a v) := by
  obtain ⟨a1, a2, a3, a4, a5, a6, a7⟩ := h
  refine ⟨a1, a2, fun j hj => ?_, a4, a5, a6, a7⟩
  rw [← a3 j hj]
  funext b
  rw [hR_R, if_neg (fun (e : j = k ∧ b = a) => hj (e.1 ▸ hk))]
theorem Un.ne {ki kr : List Nat} {t n s : Nat} (h : Un ki kr w w') : Un ki kr w (hp_nw w' t n s) := by
  obtain ⟨a1, a2, a3, a4, a5, a6, a7⟩ := h
  refine ⟨a1, a2, a3, a4, fun b hb => ?_, fun b hb => ?_, Nat.le_succ_of_le a7⟩
  · rw [hT_n, if_neg (by omega)]; exact a5 b hb
  · rw [hN_n, if_neg (by omega)]; exact a6 b hb
/-! tasks -/
def uTa (w : kx_H) (i : Nat) (q : Option Nat) : kx_H := hp_sR (hp_sR (hp_sR (hp_sI (hp_nw (hp_sR (hp_sI (hp_nw w 4 0 9) 808 (hp_X w) (-1)) 802 (hp_X w) q) 6 0 10) 1200 (hp_X w + 1) (i32 i)) 1202 (hp_X w + 1) (some (hp_X w))) 800 (hp_X w) (some (hp_X w + 1))) 5 i (some (hp_X w + 1))
theorem uTa_R (k b : Nat) : hp_R (uTa w i o) k b = if k = 5 ∧ b = i then some (hp_X w + 1) else if k = 800 ∧ b = hp_X w then some (hp_X w + 1) else if k = 1202 ∧ b = hp_X w + 1 then some (hp_X w) else if k = 802 ∧ b = hp_X w then o else hp_R w k b := Eq.trans rfl rfl
theorem uTa_I (k b : Nat) : hp_I (uTa w i o) k b = if k = 1200 ∧ b = hp_X w + 1 then i32 i else if k = 808 ∧ b = hp_X w then -1 else hp_I w k b := Eq.trans rfl rfl
theorem uTa_un : Un [808, 1200] [802, 800, 1202, 5] w (uTa w i o) := by
  unfold uTa
  refine Un.sR (Un.sR (Un.sR (Un.sI (Un.ne (Un.sR (Un.sI (Un.ne Un.rf) ?_) ?_)) ?_) ?_) ?_) ?_ <;> simp
theorem uTa_z (D : DB w) : ZS (uTa w i (hp_R w 18 1)) := by
  obtain ⟨Z, h1, ⟨a1, a2, a3⟩, -, -⟩ := D
  have Z1 : ZS (hp_sI (hp_nw w 4 0 9) 808 (hp_X w) (-1)) := (Z.nw).sI (tnX w 4 0 9) (by decide)
  have Z2 : ZS (hp_sR (hp_sI (hp_nw w 4 0 9) 808 (hp_X w) (-1)) 802 (hp_X w) (hp_R w 18 1)) := Z1.sR (t := 4) (k := 1) (tnX w 4 0 9) (by decide) (by decide) (by decide) (fun b hb => Z.tn (n := 0) (s := 9) (t' := 4) (Z.2.2.1 1 0 9 b h1 (by decide) (by decide) hb))
  have tx : hp_T (hp_nw (hp_sR (hp_sI (hp_nw w 4 0 9) 808 (hp_X w) (-1)) 802 (hp_X w) (hp_R w 18 1)) 6 0 10) (hp_X w + 1) = some 6 := tnX (hp_sR (hp_sI (hp_nw w 4 0 9) 808 (hp_X w) (-1)) 802 (hp_X w) (hp_R w 18 1)) 6 0 10
  have ty : hp_T (hp_nw (hp_sR (hp_sI (hp_nw w 4 0 9) 808 (hp_X w) (-1)) 802 (hp_X w) (hp_R w 18 1)) 6 0 10) (hp_X w) = some 4 := Z2.tn (tnX w 4 0 9)
  have t2 : hp_T (hp_nw (hp_sR (hp_sI (hp_nw w 4 0 9) 808 (hp_X w) (-1)) 802 (hp_X w) (hp_R w 18 1)) 6 0 10) 2 = some 102 := Z2.tn (Z.tn (n := 0) (s := 9) (t' := 4) a2)
  have Z3 := (Z2.nw (t := 6) (n := 0) (s := 10)).sI (v := i32 i) (K := 1200) tx (by decide)
  have Z4 := Z3.sR (v := some (hp_X w)) (K := 1202) (k := 1) tx (by decide) (by decide) (by decide) (fun b hb => by cases hb; exact ty)
  have Z5 := Z4.sR (v := some (hp_X w + 1)) (K := 800) (k := 0) ty (by decide) (by decide) (by decide) (fun b hb => by cases hb; exact tx)
  exact Z5.aR (v := some (hp_X w + 1)) (K := 5) t2 (by decide) (by decide) (fun b hb => by cases hb; exact tx)
def GT (i : Nat) (w w' : kx_H) : Prop := DB w' ∧ hp_X w' = hp_X w + 2 * i ∧ hp_C w' = hp_C w + 2 * i ∧ hp_U w' = hp_U w + 19 * i ∧ Un [808, 1200] [802, 800, 1202, 5] w w' ∧ (∀ t, t < i → hp_R w' 5 t = some (hp_X w + 2 * t + 1) ∧ hp_I w' 1200 (hp_X w + 2 * t + 1) = i32 t ∧ hp_R w' 1202 (hp_X w + 2 * t + 1) = some (hp_X w + 2 * t) ∧ hp_R w' 800 (hp_X w + 2 * t) = some (hp_X w + 2 * t + 1) ∧ hp_I w' 808 (hp_X w + 2 * t) = -1)
theorem GT.step (G : GT i w w') : GT (i + 1) w (uTa w' i (hp_R w' 18 1)) := by
  obtain ⟨g1, g2, g3, g4, g5, g6⟩ := G
  refine ⟨g1.un uTa_un (uTa_z g1) (by decide) (by decide) (by decide), ?_, ?_, ?_, g5.tr1 uTa_un, fun t ht => ?_⟩
  · show hp_X w' + 1 + 1 = _
    omega
  · show hp_C w' + 1 + 1 = _
    omega
  · show hp_U w' + 9 + 10 = _
    omega
  · rw [uTa_R, uTa_I, uTa_R, uTa_R, uTa_I, g2]
    by_cases e : t = i
    · subst e
      refine ⟨?_, ?_, ?_, ?_, ?_⟩
      · rw [if_pos ⟨rfl, rfl⟩]
      · rw [if_pos ⟨rfl, rfl⟩]
      · rw [if_neg (by omega), if_neg (by omega), if_pos ⟨rfl, rfl⟩]
      · rw [if_neg (by omega), if_pos ⟨rfl, rfl⟩]
      · rw [if_neg (by omega), if_pos ⟨rfl, rfl⟩]
    · obtain ⟨q1, q2, q3, q4, q5⟩ := g6 t (by omega)
      refine ⟨?_, ?_, ?_, ?_, ?_⟩
      · rw [if_neg (by omega), if_neg (by omega), if_neg (by omega), if_neg (by omega)]; exact q1
      · rw [if_neg (by omega), if_neg (by omega)]; exact q2
      · rw [if_neg (by omega), if_neg (by omega), if_neg (by omega), if_neg (by omega)]; exact q3
      · rw [if_neg (by omega), if_neg (by omega), if_neg (by omega), if_neg (by omega)]; exact q4
      · rw [if_neg (by omega), if_neg (by omega)]; exact q5
theorem l_T (r1 : hp_C w + 512 ≤ kx_cc) (r2 : hp_U w + 4864 ≤ kx_cs) : ∀ (k i g : Nat) (w' : kx_H), i + k = 256 → GT i w w' → ∃ w'', kx_ex (bm_0 (d + 2) (kx_ev kx_M (d + 2))) (g + k + 1) 79 [(0, kx_r 0 (some 1)), (1, kx_i (i32 i))] [] (kz_e w') = kx_ex (bm_0 (d + 2) (kx_ev kx_M (d + 2))) g 128 [(0, kx_r 0 (some 1)), (1, kx_i (i32 0))] [] (kz_e w'') ∧ GT 256 w w'' := by
  intro k
  induction k with
  | zero =>
    intro i g w' hk G
    obtain rfl : i = 256 := by omega
    refine ⟨w', ?_, G⟩
    rw [mhe_0_79]
    unfold mh_0_79
    rw [if_pos (by decide)]
    rfl
  | succ k ih =>
    intro i g w' hk G
    obtain ⟨w'', e, G'⟩ := ih (i + 1) g (uTa w' i (hp_R w' 18 1)) (by omega) (GT.step G)
    refine ⟨w'', ?_, G'⟩
    obtain ⟨g1, g2, g3, g4, g5, g6⟩ := G
    obtain ⟨Z, h1, ⟨a1, a2, a3⟩, -, -⟩ := g1
    rw [show g + (k + 1) + 1 = (g + k + 1) + 1 by omega, mhe_0_79]
    unfold mh_0_79
    have hc : ¬ (256 : Int32) ≤ i32 i := by
      rw [show (256 : Int32) = i32 256 from rfl, i32_le (by omega) (by omega)]
      omega
    rw [if_neg hc]
    simp only [ob_s, eC, eU, eX]
    rw [if_pos ⟨by omega, by omega⟩, en_w Z.1, er_R (K := 18) (Z.tn h1) (by decide) (by decide), c_5 (tnX w' 4 0 9)]
    simp only [bv_n]
    have Z1 : ZS (hp_sI (hp_nw w' 4 0 9) 808 (hp_X w') (-1)) := (Z.nw).sI (tnX w' 4 0 9) (by decide)
    have Z2 : ZS (hp_sR (hp_sI (hp_nw w' 4 0 9) 808 (hp_X w') (-1)) 802 (hp_X w') (hp_R (hp_nw w' 4 0 9) 18 1)) := Z1.sR (t := 4) (k := 1) (tnX w' 4 0 9) (by decide) (by decide) (by decide) (fun b hb => Z.tn (n := 0) (s := 9) (t' := 4) (Z.2.2.1 1 0 9 b h1 (by decide) (by decide) hb))
    generalize hv : hp_sR (hp_sI (hp_nw w' 4 0 9) 808 (hp_X w') (-1)) 802 (hp_X w') (hp_R (hp_nw w' 4 0 9) 18 1) = v at *
    have vX : hp_X v = hp_X w' + 1 := by rw [← hv]; rfl
    have vC : hp_C v = hp_C w' + 1 := by rw [← hv]; rfl
    have vU : hp_U v = hp_U w' + 9 := by rw [← hv]; rfl
    have vx : hp_T v (hp_X w') = some 4 := by rw [← hv]; exact tnX w' 4 0 9
    have v1 : hp_T v 1 = some 0 := by rw [← hv]; exact Z.tn (n := 0) (s := 9) (t' := 4) h1
    have v2 : hp_T v 2 = some 102 := by rw [← hv]; exact Z.tn (n := 0) (s := 9) (t' := 4) a2
    have v3 : hp_R v 0 1 = some 2 := by
      rw [← hv, hR_R, if_neg (by omega)]
      exact a1
    have v4 : hp_N v 2 = 256 := by
      rw [← hv]
      show hp_N (hp_nw w' 4 0 9) 2 = 256
      have := Z.1.lt a2
      rw [hN_n, if_neg (by omega)]
      exact a3
    simp only [eX]
    rw [if_pos ⟨by rw [eC]; omega, by rw [eU]; omega⟩, en_w Z2.1, c_6 (tnX v 6 0 10)]
    simp only [bv_n]
    rw [es_R (K := 800) (w := hp_sR (hp_sI (hp_nw v 6 0 10) 1200 (hp_X v) (i32 i)) 1202 (hp_X v) (some (hp_X w'))) (Z2.tn (n := 0) (s := 10) (t' := 6) vx) (by decide) (by decide)]
    rw [er_R (K := 0) (w := hp_sR (hp_sR (hp_sI (hp_nw v 6 0 10) 1200 (hp_X v) (i32 i)) 1202 (hp_X v) (some (hp_X w'))) 800 (hp_X w') (some (hp_X v))) (Z2.tn (n := 0) (s := 10) (t' := 6) v1) (by decide) (by decide)]
    rw [show hp_R (hp_sR (hp_sR (hp_sI (hp_nw v 6 0 10) 1200 (hp_X v) (i32 i)) 1202 (hp_X v) (some (hp_X w'))) 800 (hp_X w') (some (hp_X v))) 0 1 = some 2 from by rw [hR_R, if_neg (by omega), hR_R, if_neg (by omega)]; exact v3, ob_s]
    have vN : hp_N (hp_nw v 6 0 10) 2 = 256 := by
      have := Z2.1.lt v2
      rw [hN_n, if_neg (by omega)]
      exact v4
    have hN : ¬ (i32 i < 0 ∨ hp_N (kz_e (hp_sR (hp_sR (hp_sI (hp_nw v 6 0 10) 1200 (hp_X v) (i32 i)) 1202 (hp_X v) (some (hp_X w'))) 800 (hp_X w') (some (hp_X v)))) 2 ≤ (i32 i).toNatClampNeg) := by
      show ¬ (i32 i < 0 ∨ hp_N (hp_nw v 6 0 10) 2 ≤ (i32 i).toNatClampNeg)
      rw [vN, i32_ix (by omega) (by omega)]
      exact id
    rw [if_neg hN, ea_R (K := 5) (w := hp_sR (hp_sR (hp_sI (hp_nw v 6 0 10) 1200 (hp_X v) (i32 i)) 1202 (hp_X v) (some (hp_X w'))) 800 (hp_X w') (some (hp_X v))) (Z2.tn (n := 0) (s := 10) (t' := 6) v2) (by decide) (by decide), i32_nat (by omega), ix1, vX]
    rw [← hv]
    exact e
/-! channels -/
def uCi (w : kx_H) (i : Nat) : kx_H := hp_sR (uCh (hp_nw w 2 0 10) (hp_X w) (i32 i)) 1035 i (some (hp_X w))
theorem uCi_R (k b : Nat) : hp_R (uCi w i) k b = if k = 1035 ∧ b = i then some (hp_X w) else if k = 404 ∧ b = hp_X w then some (hp_X w + 1 + 1) else if k = 402 ∧ b = hp_X w then some (hp_X w + 1) else hp_R w k b := Eq.trans rfl rfl
theorem uCi_I (k b : Nat) : hp_I (uCi w i) k b = if k = 400 ∧ b = hp_X w then i32 i else hp_I w k b := Eq.trans rfl rfl
theorem uCi_un : Un [400] [402, 404, 1035] w (uCi w i) := by
  unfold uCi uCh
  refine Un.sR (Un.sI (Un.sR (Un.ne (Un.sR (Un.ne (Un.ne Un.rf)) ?_)) ?_) ?_) ?_ <;> simp
def GC (i : Nat) (w w' : kx_H) : Prop := DB w' ∧ hp_X w' = hp_X w + 3 * i ∧ hp_C w' = hp_C w + 3 * i ∧ hp_U w' = hp_U w + 16 * i ∧ Un [400] [402, 404, 1035] w w' ∧ (∀ t, t < i → hp_R w' 1035 t = some (hp_X w + 3 * t) ∧ hp_I w' 400 (hp_X w + 3 * t) = i32 t ∧ hp_R w' 402 (hp_X w + 3 * t) = some (hp_X w + 3 * t + 1) ∧ hp_R w' 404 (hp_X w + 3 * t) = some (hp_X w + 3 * t + 2)) ∧ (∀ b, b < hp_X w → hp_I w' 400 b = hp_I w 400 b ∧ hp_R w' 402 b = hp_R w 402 b ∧ hp_R w' 404 b = hp_R w 404 b)
theorem GC.step (G : GC i w w') (Zu : ZS (uCi w' i)) : GC (i + 1) w (uCi w' i) := by
  obtain ⟨g1, g2, g3, g4, g5, g6, g7⟩ := G
  refine ⟨g1.un uCi_un Zu (by decide) (by decide) (by decide), ?_, ?_, ?_, g5.tr1 uCi_un, fun t ht => ?_, fun b hb => ?_⟩
  · show hp_X w' + 1 + 1 + 1 = _
    omega
  · show hp_C w' + 1 + 1 + 1 = _
    omega
  · show hp_U w' + 10 + 3 + 3 = _
    omega
  · rw [uCi_R, uCi_I, uCi_R, uCi_R, g2]
    by_cases e : t = i
    · subst e
      refine ⟨?_, ?_, ?_, ?_⟩
      · rw [if_pos ⟨rfl, rfl⟩]
      · rw [if_pos ⟨rfl, rfl⟩]
      · rw [if_neg (by omega), if_neg (by omega), if_pos ⟨rfl, rfl⟩]
      · rw [if_neg (by omega), if_pos ⟨rfl, rfl⟩]
    · obtain ⟨q1, q2, q3, q4⟩ := g6 t (by omega)
      refine ⟨?_, ?_, ?_, ?_⟩
      · rw [if_neg (by omega), if_neg (by omega), if_neg (by omega)]; exact q1
      · rw [if_neg (by omega)]; exact q2
      · rw [if_neg (by omega), if_neg (by omega), if_neg (by omega)]; exact q3
      · rw [if_neg (by omega), if_neg (by omega), if_neg (by omega)]; exact q4
  · obtain ⟨q1, q2, q3⟩ := g7 b hb
    rw [uCi_R, uCi_I, uCi_R, g2]
    refine ⟨?_, ?_, ?_⟩
    · rw [if_neg (by omega)]; exact q1
    · rw [if_neg (by omega), if_neg (by omega), if_neg (by omega)]; exact q2
    · rw [if_neg (by omega), if_neg (by omega), if_neg (by omega)]; exact q3
theorem l_C (r1 : hp_C w + 1536 ≤ kx_cc) (r2 : hp_U w + 8192 ≤ kx_cs) : ∀ (k i g : Nat) (w' : kx_H), i + k = 512 → GC i w w' → ∃ w'', kx_ex (bm_0 (d + 2) (kx_ev kx_M (d + 2))) (g + k + 1) 128 [(0, kx_r 0 (some 1)), (1, kx_i (i32 i))] [] (kz_e w') = kx_ex (bm_0 (d + 2) (kx_ev kx_M (d + 2))) g 157 [(0, kx_r 0 (some 1)), (1, kx_i (i32 0))] [] (kz_e w'') ∧ GC 512 w w'' := by
  intro k
  induction k with
  | zero =>
    intro i g w' hk G
    obtain rfl : i = 512 := by omega
    refine ⟨w', ?_, G⟩
    rw [mhe_0_128]
    unfold mh_0_128
    rw [if_pos (by decide)]
    rfl
  | succ k ih =>
    intro i g w' hk G
    have G0 := G
    obtain ⟨g1, g2, g3, g4, g5, g6, g7⟩ := G
    obtain ⟨Z, h1, -, ⟨b1, b2, b3⟩, -⟩ := g1
    obtain ⟨e4, Z4⟩ := c_4 (d := d) (x := i32 i) (Z.nw (t := 2) (n := 0) (s := 10)) (tnX w' 2 0 10) (by rw [hC_n]; omega) (by rw [hU_n]; omega)
    have U4 : Un [400] [402, 404, 1035] w' (uCh (hp_nw w' 2 0 10) (hp_X w') (i32 i)) := by
      unfold uCh
      refine Un.sI (Un.sR (Un.ne (Un.sR (Un.ne (Un.ne Un.rf)) ?_)) ?_) ?_ <;> simp
    have t7 := U4.tg Z b2
    have tx : hp_T (uCh (hp_nw w' 2 0 10) (hp_X w') (i32 i)) (hp_X w') = some 2 := by
      have Zn := Z.nw (t := 2) (n := 0) (s := 10)
      have u : Un [400] [402, 404, 1035] (hp_nw w' 2 0 10) (uCh (hp_nw w' 2 0 10) (hp_X w') (i32 i)) := by
        unfold uCh
        refine Un.sI (Un.sR (Un.ne (Un.sR (Un.ne Un.rf) ?_)) ?_) ?_ <;> simp
      exact u.tg Zn (tnX w' 2 0 10)
    have Zu : ZS (uCi w' i) := Z4.aR (v := some (hp_X w')) (K := 1035) t7 (by decide) (by decide) (fun b hb => by cases hb; exact tx)
    obtain ⟨w'', e, G'⟩ := ih (i + 1) g (uCi w' i) (by omega) (GC.step G0 Zu)
    refine ⟨w'', ?_, G'⟩
    rw [show g + (k + 1) + 1 = (g + k + 1) + 1 by omega, mhe_0_128]
    unfold mh_0_128
    have hc : ¬ (512 : Int32) ≤ i32 i := by
      rw [show (512 : Int32) = i32 512 from rfl, i32_le (by omega) (by omega)]
      omega
    rw [if_neg hc]
    simp only [ob_s, eC, eU, eX]
    rw [if_pos ⟨by omega, by omega⟩, en_w Z.1, e4]
    simp only [bv_n]
    rw [er_R (K := 16) h1 (by decide) (by decide), b1, ob_s]
    have vN : hp_N (uCh (hp_nw w' 2 0 10) (hp_X w') (i32 i)) 517 = 512 := (U4.2.2.2.2.2.1 517 (Z.1.lt b2)).trans b3
    rw [if_neg (by rw [eN, vN, i32_ix (by omega) (by omega)]; exact id), ea_R (K := 1035) t7 (by decide) (by decide), i32_nat (by omega), ix1]
    exact e
/-! gates -/
def uGi (w : kx_H) (i : Nat) : kx_H := hp_sR (uGt (hp_nw w 3 0 6) (hp_X w) (i32 i)) 1045 i (some (hp_X w))
theorem uGi_R (k b : Nat) : hp_R (uGi w i) k b = if k = 1045 ∧ b = i then some (hp_X w) else if k = 604 ∧ b = hp_X w then some (hp_X w + 1 + 1) else if k = 602 ∧ b = hp_X w then some (hp_X w + 1) else hp_R w k b := Eq.trans rfl rfl
theorem uGi_I (k b : Nat) : hp_I (uGi w i) k b = if k = 600 ∧ b = hp_X w then i32 i else hp_I w k b := Eq.trans rfl rfl
theorem uGi_un : Un [600] [602, 604, 1045] w (uGi w i) := by
  unfold uGi uGt
  refine Un.sR (Un.sI (Un.sR (Un.ne (Un.sR (Un.ne (Un.ne Un.rf)) ?_)) ?_) ?_) ?_ <;> simp
def GG (i : Nat) (w w' : kx_H) : Prop := DB w' ∧ hp_X w' = hp_X w + 3 * i ∧ hp_C w' = hp_C w + 3 * i ∧ hp_U w' = hp_U w + 12 * i ∧ Un [600] [602, 604, 1045] w w' ∧ (∀ t, t < i → hp_R w' 1045 t = some (hp_X w + 3 * t) ∧ hp_I w' 600 (hp_X w + 3 * t) = i32 t ∧ hp_R w' 602 (hp_X w + 3 * t) = some (hp_X w + 3 * t + 1) ∧ hp_R w' 604 (hp_X w + 3 * t) = some (hp_X w + 3 * t + 2))
theorem GG.step (G : GG i w w') (Zu : ZS (uGi w' i)) : GG (i + 1) w (uGi w' i) := by
  obtain ⟨g1, g2, g3, g4, g5, g6⟩ := G
  refine ⟨g1.un uGi_un Zu (by decide) (by decide) (by decide), ?_, ?_, ?_, g5.tr1 uGi_un, fun t ht => ?_⟩
  · show hp_X w' + 1 + 1 + 1 = _
    omega
  · show hp_C w' + 1 + 1 + 1 = _
    omega
  · show hp_U w' + 6 + 3 + 3 = _
    omega
  · rw [uGi_R, uGi_I, uGi_R, uGi_R, g2]
    by_cases e : t = i
    · subst e
      refine ⟨?_, ?_, ?_, ?_⟩
      · rw [if_pos ⟨rfl, rfl⟩]
      · rw [if_pos ⟨rfl, rfl⟩]
      · rw [if_neg (by omega), if_neg (by omega), if_pos ⟨rfl, rfl⟩]
      · rw [if_neg (by omega), if_pos ⟨rfl, rfl⟩]
    · obtain ⟨q1, q2, q3, q4⟩ := g6 t (by omega)
      refine ⟨?_, ?_, ?_, ?_⟩
      · rw [if_neg (by omega), if_neg (by omega), if_neg (by omega)]; exact q1
      · rw [if_neg (by omega)]; exact q2
      · rw [if_neg (by omega), if_neg (by omega), if_neg (by omega)]; exact q3
      · rw [if_neg (by omega), if_neg (by omega), if_neg (by omega)]; exact q4
theorem l_G (r1 : hp_C w + 768 ≤ kx_cc) (r2 : hp_U w + 3072 ≤ kx_cs) : ∀ (k i g : Nat) (w' : kx_H), i + k = 256 → GG i w w' → ∃ w'', kx_ex (bm_0 (d + 2) (kx_ev kx_M (d + 2))) (g + k + 1) 157 [(0, kx_r 0 (some 1)), (1, kx_i (i32 i))] [] (kz_e w') = kx_ex (bm_0 (d + 2) (kx_ev kx_M (d + 2))) g 186 [(0, kx_r 0 (some 1)), (1, kx_i (i32 0))] [] (kz_e w'') ∧ GG 256 w w'' := by
  intro k
  induction k with
  | zero =>
    intro i g w' hk G
    obtain rfl : i = 256 := by omega
    refine ⟨w', ?_, G⟩
    rw [mhe_0_157]
    unfold mh_0_157
    rw [if_pos (by decide)]
    rfl
  | succ k ih =>
    intro i g w' hk G
    have G0 := G
    obtain ⟨g1, g2, g3, g4, g5, g6⟩ := G
    obtain ⟨Z, h1, -, -, ⟨b1, b2, b3⟩⟩ := g1
    obtain ⟨e4, Z4⟩ := c_7 (d := d) (x := i32 i) (Z.nw (t := 3) (n := 0) (s := 6)) (tnX w' 3 0 6) (by rw [hC_n]; omega) (by rw [hU_n]; omega)
    have U4 : Un [600] [602, 604, 1045] w' (uGt (hp_nw w' 3 0 6) (hp_X w') (i32 i)) := by
      unfold uGt
      refine Un.sI (Un.sR (Un.ne (Un.sR (Un.ne (Un.ne Un.rf)) ?_)) ?_) ?_ <;> simp
    have t7 := U4.tg Z b2
    have tx : hp_T (uGt (hp_nw w' 3 0 6) (hp_X w') (i32 i)) (hp_X w') = some 3 := by
      have Zn := Z.nw (t := 3) (n := 0) (s := 6)
      have u : Un [600] [602, 604, 1045] (hp_nw w' 3 0 6) (uGt (hp_nw w' 3 0 6) (hp_X w') (i32 i)) := by
        unfold uGt
        refine Un.sI (Un.sR (Un.ne (Un.sR (Un.ne Un.rf) ?_)) ?_) ?_ <;> simp
      exact u.tg Zn (tnX w' 3 0 6)
    have Zu : ZS (uGi w' i) := Z4.aR (v := some (hp_X w')) (K := 1045) t7 (by decide) (by decide) (fun b hb => by cases hb; exact tx)
    obtain ⟨w'', e, G'⟩ := ih (i + 1) g (uGi w' i) (by omega) (GG.step G0 Zu)
    refine ⟨w'', ?_, G'⟩
    rw [show g + (k + 1) + 1 = (g + k + 1) + 1 by omega, mhe_0_157]
    unfold mh_0_157
    have hc : ¬ (256 : Int32) ≤ i32 i := by
      rw [show (256 : Int32) = i32 256 from rfl, i32_le (by omega) (by omega)]
      omega
    rw [if_neg hc]
    simp only [ob_s, eC, eU, eX]
    rw [if_pos ⟨by omega, by omega⟩, en_w Z.1, e4]
    simp only [bv_n]
    rw [er_R (K := 32) h1 (by decide) (by decide), b1, ob_s]
    have vN : hp_N (uGt (hp_nw w' 3 0 6) (hp_X w') (i32 i)) 522 = 256 := (U4.2.2.2.2.2.1 522 (Z.1.lt b2)).trans b3
    rw [if_neg (by rw [eN, vN, i32_ix (by omega) (by omega)]; exact id), ea_R (K := 1045) t7 (by decide) (by decide), i32_nat (by omega), ix1]
    exact e
end DSK
