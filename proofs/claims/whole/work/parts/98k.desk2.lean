/-! values and places; the desk -/
section DSL
variable {w w' w1 v : kx_H} {a b c d n i t t' s p q x0 K : Nat} {x : Int32} {o : Option Nat}
def uVv (w : kx_H) : kx_H := hp_sR (hp_sR (hp_nw w 8 0 2) 1602 (hp_X w) (hp_R w 24 1)) 24 1 (some (hp_X w))
def uVp (v : kx_H) : kx_H := hp_sR (hp_sR (hp_sR (hp_sI (hp_nw v 4 0 9) 808 (hp_X v) (-1)) 802 (hp_X v) (hp_R v 18 1)) 816 (hp_X v) (hp_R v 30 1)) 30 1 (some (hp_X v))
theorem uVv_R (k b : Nat) : hp_R (uVv w) k b = if k = 24 ∧ b = 1 then some (hp_X w) else if k = 1602 ∧ b = hp_X w then hp_R w 24 1 else hp_R w k b := Eq.trans rfl rfl
theorem uVp_R (k b : Nat) : hp_R (uVp w) k b = if k = 30 ∧ b = 1 then some (hp_X w) else if k = 816 ∧ b = hp_X w then hp_R w 30 1 else if k = 802 ∧ b = hp_X w then hp_R w 18 1 else hp_R w k b := Eq.trans rfl rfl
theorem uVp_I (k b : Nat) : hp_I (uVp w) k b = if k = 808 ∧ b = hp_X w then -1 else hp_I w k b := Eq.trans rfl rfl
theorem uVv_un : Un [808] [1602, 24, 802, 816, 30] w (uVv w) := by
  unfold uVv
  refine Un.sR (Un.sR (Un.ne Un.rf) ?_) ?_ <;> simp
theorem uVp_un : Un [808] [1602, 24, 802, 816, 30] w (uVp w) := by
  unfold uVp
  refine Un.sR (Un.sR (Un.sR (Un.sI (Un.ne Un.rf) ?_) ?_) ?_) ?_ <;> simp
theorem uVv_z (D : DB w) : ZS (uVv w) := by
  obtain ⟨Z, h1, -⟩ := D
  have Z1 : ZS (hp_sR (hp_nw w 8 0 2) 1602 (hp_X w) (hp_R w 24 1)) := (Z.nw).sR (t := 8) (k := 1) (tnX w 8 0 2) (by decide) (by decide) (by decide) (fun b hb => Z.tn (n := 0) (s := 2) (t' := 8) (Z.2.2.1 1 0 12 b h1 (by decide) (by decide) hb))
  exact Z1.sR (k := 12) (Z.tn (n := 0) (s := 2) (t' := 8) h1) (by decide) (by decide) (by decide) (fun b hb => by cases hb; exact tnX w 8 0 2)
theorem uVp_z (D : DB w) : ZS (uVp w) := by
  obtain ⟨Z, h1, -⟩ := D
  have Z1 : ZS (hp_sI (hp_nw w 4 0 9) 808 (hp_X w) (-1)) := (Z.nw).sI (tnX w 4 0 9) (by decide)
  have Z2 : ZS (hp_sR (hp_sI (hp_nw w 4 0 9) 808 (hp_X w) (-1)) 802 (hp_X w) (hp_R w 18 1)) := Z1.sR (t := 4) (k := 1) (tnX w 4 0 9) (by decide) (by decide) (by decide) (fun b hb => Z.tn (n := 0) (s := 9) (t' := 4) (Z.2.2.1 1 0 9 b h1 (by decide) (by decide) hb))
  have Z3 : ZS (hp_sR (hp_sR (hp_sI (hp_nw w 4 0 9) 808 (hp_X w) (-1)) 802 (hp_X w) (hp_R w 18 1)) 816 (hp_X w) (hp_R w 30 1)) := Z2.sR (t := 4) (k := 8) (tnX w 4 0 9) (by decide) (by decide) (by decide) (fun b hb => Z.tn (n := 0) (s := 9) (t' := 4) (Z.2.2.1 1 0 15 b h1 (by decide) (by decide) hb))
  exact Z3.sR (k := 15) (Z.tn (n := 0) (s := 9) (t' := 4) h1) (by decide) (by decide) (by decide) (fun b hb => by cases hb; exact tnX w 4 0 9)
def GV (i : Nat) (w w' : kx_H) : Prop := DB w' ∧ hp_X w' = hp_X w + 2 * i ∧ hp_C w' = hp_C w + 2 * i ∧ hp_U w' = hp_U w + 11 * i ∧ Un [808] [1602, 24, 802, 816, 30] w w' ∧ ch (hp_R w' 1602) (hp_R w' 24 1) (nl (hp_X w) 2 i) ∧ ch (hp_R w' 816) (hp_R w' 30 1) (nl (hp_X w + 1) 2 i) ∧ (∀ b, b < hp_X w → hp_I w' 808 b = hp_I w 808 b)
theorem GV.step (hx : 2 ≤ hp_X w) (G : GV i w w') : GV (i + 1) w (uVp (uVv w')) := by
  obtain ⟨g1, g2, g3, g4, g5, g6, g7, g8⟩ := G
  have D1 : DB (uVv w') := g1.un uVv_un (uVv_z g1) (by decide) (by decide) (by decide)
  have eX1 : hp_X (uVv w') = hp_X w' + 1 := rfl
  refine ⟨D1.un uVp_un (uVp_z D1) (by decide) (by decide) (by decide), ?_, ?_, ?_, (g5.tr1 uVv_un).tr1 uVp_un, ?_, ?_, fun b hb => ?_⟩
  · show hp_X w' + 1 + 1 = _
    omega
  · show hp_C w' + 1 + 1 = _
    omega
  · show hp_U w' + 2 + 9 = _
    omega
  · have e : hp_R (uVp (uVv w')) 24 1 = some (hp_X w + 2 * i) := by
      rw [uVp_R, if_neg (by omega), if_neg (by omega), if_neg (by omega), uVv_R, if_pos ⟨rfl, rfl⟩, g2]
    rw [e]
    refine ⟨rfl, ?_⟩
    have e2 : hp_R (uVp (uVv w')) 1602 (hp_X w + 2 * i) = hp_R w' 24 1 := by
      rw [uVp_R, if_neg (by omega), if_neg (by omega), if_neg (by omega), uVv_R, if_neg (by omega), if_pos ⟨rfl, by omega⟩]
    rw [e2]
    refine g6.upd (fun y hy => ?_)
    obtain ⟨j, hj, rfl⟩ := nl_mem hy
    rw [uVp_R, if_neg (by omega), if_neg (by omega), if_neg (by omega), uVv_R, if_neg (by omega), if_neg (by omega)]
  · have e : hp_R (uVp (uVv w')) 30 1 = some (hp_X w + 1 + 2 * i) := by
      rw [uVp_R, if_pos ⟨rfl, rfl⟩, eX1, g2, show hp_X w + 2 * i + 1 = hp_X w + 1 + 2 * i by omega]
    rw [e]
    refine ⟨rfl, ?_⟩
    have e2 : hp_R (uVp (uVv w')) 816 (hp_X w + 1 + 2 * i) = hp_R w' 30 1 := by
      rw [uVp_R, if_neg (by omega), if_pos ⟨rfl, by omega⟩, uVv_R, if_neg (by omega), if_neg (by omega)]
    rw [e2]
    refine g7.upd (fun y hy => ?_)
    obtain ⟨j, hj, rfl⟩ := nl_mem hy
    rw [uVp_R, if_neg (by omega), if_neg (by omega), if_neg (by omega), uVv_R, if_neg (by omega), if_neg (by omega)]
  · rw [uVp_I, if_neg (by omega)]
    exact g8 b hb
def uFin (w : kx_H) (t : Nat) : kx_H := hp_sR (hp_sI (hp_sI (hp_sB (hp_sI (hp_sB (hp_sL (hp_sI (hp_sB w 1204 t true) 1208 t (-1)) 1212 t 0) 1214 t false) 1216 t (-1)) 1218 t false) 1206 t 0) 2 1 1) 6 1 (some t)
theorem uFin_z (Z : ZS w) (h1 : hp_T w 1 = some 0) (h : hp_T w t = some 6) : ZS (uFin w t) := by
  have Z1 := Z.sB (v := true) (K := 1204) h (by decide)
  have Z2 := Z1.sI (v := -1) (K := 1208) h (by decide)
  have Z3 := Z2.sL (v := 0) (K := 1212) h (by decide)
  have Z4 := Z3.sB (v := false) (K := 1214) h (by decide)
  have Z5 := Z4.sI (v := -1) (K := 1216) h (by decide)
  have Z6 := Z5.sB (v := false) (K := 1218) h (by decide)
  have Z7 := Z6.sI (v := 0) (K := 1206) h (by decide)
  have Z8 := Z7.sI (v := 1) (K := 2) h1 (by decide)
  exact Z8.sR (v := some t) (K := 6) (k := 3) h1 (by decide) (by decide) (by decide) (fun b hb => by cases hb; exact h)
theorem l_V (hx : 2 ≤ hp_X w) (h5 : hp_R w 5 0 = some t) (ht : hp_T w t = some 6) (Z0 : ZS w) (r1 : hp_C w + 1024 ≤ kx_cc) (r2 : hp_U w + 5632 ≤ kx_cs) : ∀ (k i g : Nat) (w' : kx_H), i + k = 512 → GV i w w' → ∃ w'', kx_ex (bm_0 (d + 2) (kx_ev kx_M (d + 2))) (g + k + 1) 186 [(0, kx_r 0 (some 1)), (1, kx_i (i32 i))] [] (kz_e w') = some (.inl none, kz_e (uFin w'' t)) ∧ GV 512 w w'' := by
  intro k
  induction k with
  | zero =>
    intro i g w' hk G
    obtain rfl : i = 512 := by omega
    refine ⟨w', ?_, G⟩
    obtain ⟨g1, g2, g3, g4, g5, g6, g7, g8⟩ := G
    obtain ⟨Z, h1, ⟨a1, a2, a3⟩, -, -⟩ := g1
    have t5 : hp_R w' 5 0 = some t := (congrFun (g5.2.2.1 5 (by decide)) 0).trans h5
    have tt := g5.tg Z0 ht
    rw [mhe_0_186]
    unfold mh_0_186
    rw [if_pos (by decide)]
    simp only [ob_s]
    rw [er_R (K := 0) h1 (by decide) (by decide), a1, ob_s, if_neg (by rw [eN, a3, z32]; decide), z32, ex_R (K := 5) a2 (by decide) (by decide), t5, ob_s, c_11 tt]
    simp only [bv_n, ob_s]
    rw [es_I (K := 1206) (w := hp_sB (hp_sI (hp_sB (hp_sL (hp_sI (hp_sB w' 1204 t true) 1208 t (-1)) 1212 t 0) 1214 t false) 1216 t (-1)) 1218 t false) tt (by decide) (by decide), es_I (K := 2) (w := hp_sI (hp_sB (hp_sI (hp_sB (hp_sL (hp_sI (hp_sB w' 1204 t true) 1208 t (-1)) 1212 t 0) 1214 t false) 1216 t (-1)) 1218 t false) 1206 t 0) h1 (by decide) (by decide), es_R (K := 6) (w := hp_sI (hp_sI (hp_sB (hp_sI (hp_sB (hp_sL (hp_sI (hp_sB w' 1204 t true) 1208 t (-1)) 1212 t 0) 1214 t false) 1216 t (-1)) 1218 t false) 1206 t 0) 2 1 1) h1 (by decide) (by decide)]
    rfl
  | succ k ih =>
    intro i g w' hk G
    obtain ⟨w'', e, G'⟩ := ih (i + 1) g (uVp (uVv w')) (by omega) (GV.step hx G)
    refine ⟨w'', ?_, G'⟩
    obtain ⟨g1, g2, g3, g4, g5, g6, g7, g8⟩ := G
    have D1 : DB (uVv w') := g1.un uVv_un (uVv_z g1) (by decide) (by decide) (by decide)
    have Z := g1.1
    have h1 := g1.2.1
    have Zv := D1.1
    have hv1 := D1.2.1
    rw [show g + (k + 1) + 1 = (g + k + 1) + 1 by omega, mhe_0_186]
    unfold mh_0_186
    have hc : ¬ (512 : Int32) ≤ i32 i := by
      rw [show (512 : Int32) = i32 512 from rfl, i32_le (by omega) (by omega)]
      omega
    rw [if_neg hc]
    simp only [ob_s, eC, eU, eX]
    rw [if_pos ⟨by omega, by omega⟩, en_w Z.1, c_8, bv_n, c_9 (Z.tn (n := 0) (s := 2) (t' := 8) h1) (tnX w' 8 0 2), bv_n]
    rw [show hp_sR (hp_sR (hp_nw w' 8 0 2) 1602 (hp_X w') (hp_R (hp_nw w' 8 0 2) 24 1)) 24 1 (some (hp_X w')) = uVv w' from rfl]
    have vC : hp_C (uVv w') = hp_C w' + 1 := rfl
    have vU : hp_U (uVv w') = hp_U w' + 2 := rfl
    have k1 : hp_R (hp_sR (hp_sI (hp_nw (uVv w') 4 0 9) 808 (hp_X (uVv w')) (-1)) 802 (hp_X (uVv w')) (hp_R (hp_nw (uVv w') 4 0 9) 18 1)) 30 1 = hp_R (uVv w') 30 1 := by
      rw [hR_R, if_neg (by omega)]
      rfl
    rw [if_pos ⟨by rw [eC]; omega, by rw [eU]; omega⟩, en_w Zv.1, eX, er_R (K := 18) (Zv.tn (n := 0) (s := 9) (t' := 4) hv1) (by decide) (by decide), c_5 (tnX (uVv w') 4 0 9), bv_n]
    rw [c_10 (w := hp_sR (hp_sI (hp_nw (uVv w') 4 0 9) 808 (hp_X (uVv w')) (-1)) 802 (hp_X (uVv w')) (hp_R (hp_nw (uVv w') 4 0 9) 18 1)) (Zv.tn (n := 0) (s := 9) (t' := 4) hv1) (tnX (uVv w') 4 0 9), bv_n, k1, ix1]
    exact e
/-- a new cell into the desk's field -/
theorem uD_z {k : Nat} (Z : ZS w) (h1 : hp_T w 1 = some 0) (hk : k < 18) (hK : K = 2 * k) (hf : (kx_ft 0 k).2 = t) : ∃ v, hp_sR (hp_nw w t n s) K 1 (some (hp_X w)) = v ∧ ZS v ∧ Un [] [K] w v ∧ hp_R v K 1 = some (hp_X w) ∧ hp_T v (hp_X w) = some t ∧ hp_N v (hp_X w) = n ∧ hp_X v = hp_X w + 1 ∧ hp_C v = hp_C w + 1 ∧ hp_U v = hp_U w + s := by
  refine ⟨_, rfl, (Z.nw).sR (k := k) (Z.tn h1) (by decide) (by omega) (by omega) (fun b hb => ?_), ?_, ?_, tnX w t n s, ?_, rfl, rfl, rfl⟩
  · cases hb
    rw [hf]
    exact tnX w t n s
  · exact Un.sR (Un.ne Un.rf) (by simp)
  · rw [hR_R, if_pos ⟨rfl, rfl⟩]
  · show hp_N (hp_nw w t n s) (hp_X w) = n
    rw [hN_n, if_pos rfl]
end DSL
