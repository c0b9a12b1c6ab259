/-! the small constructors, over the store -/
section CTO
variable {w w' w1 : kx_H} {a b c d n i t t' s p q x0 : Nat} {x : Int32} {o : Option Nat}
theorem eC : hp_C (kz_e w) = hp_C w := Eq.trans rfl rfl
theorem eU : hp_U (kz_e w) = hp_U w := Eq.trans rfl rfl
theorem eX : hp_X (kz_e w) = hp_X w := Eq.trans rfl rfl
theorem eN : hp_N (kz_e w) = hp_N w := Eq.trans rfl rfl
theorem ZS.tn (Z : ZS w) (h : hp_T w a = some t) : hp_T (hp_nw w t' n s) a = some t := by
  have := Z.1.lt h
  rw [hT_n, if_neg (by omega)]
  exact h
theorem tnX (w : kx_H) (t n s : Nat) : hp_T (hp_nw w t n s) (hp_X w) = some t := by rw [hT_n, if_pos rfl]
theorem c_1 : kx_ev kx_M (d + 1) 1 [kx_r 5 (some a)] w = some (.inl none, w) := by
  obtain ⟨ψ, hψ⟩ := kx_fu
  rw [mhE_1 hψ]
  unfold mh_1_0
  rw [ob_s]
theorem c_3 : kx_ev kx_M (d + 1) 3 [kx_r 7 (some a)] w = some (.inl none, w) := by
  obtain ⟨ψ, hψ⟩ := kx_fu
  rw [mhE_3 hψ]
  unfold mh_3_0
  rw [ob_s]
theorem c_8 : kx_ev kx_M (d + 1) 8 [kx_r 8 (some a)] w = some (.inl none, w) := by
  obtain ⟨ψ, hψ⟩ := kx_fu
  rw [mhE_8 hψ]
  unfold mh_8_0
  rw [ob_s]
theorem c_5 (h : hp_T w a = some 4) : kx_ev kx_M (d + 1) 5 [kx_r 4 (some a), kx_r 2 o] (kz_e w) = some (.inl none, kz_e (hp_sR (hp_sI w 808 a (-1)) 802 a o)) := by
  obtain ⟨ψ, hψ⟩ := kx_fu
  rw [mhE_5 hψ]
  unfold mh_5_0
  simp only [ob_s]
  rw [es_I (K := 808) h (by decide) (by decide), es_R (K := 802) (w := hp_sI w 808 a (-1)) h (by decide) (by decide)]
theorem c_6 (h : hp_T w a = some 6) : kx_ev kx_M (d + 1) 6 [kx_r 6 (some a), kx_i x, kx_r 4 o] (kz_e w) = some (.inl none, kz_e (hp_sR (hp_sI w 1200 a x) 1202 a o)) := by
  obtain ⟨ψ, hψ⟩ := kx_fu
  rw [mhE_6 hψ]
  unfold mh_6_0
  simp only [ob_s]
  rw [es_I (K := 1200) h (by decide) (by decide), es_R (K := 1202) (w := hp_sI w 1200 a x) h (by decide) (by decide)]
def uCh (w : kx_H) (a : Nat) (x : Int32) : kx_H := hp_sI (hp_sR (hp_nw (hp_sR (hp_nw w 5 0 3) 402 a (some (hp_X w))) 5 0 3) 404 a (some (hp_X w + 1))) 400 a x
def uGt (w : kx_H) (a : Nat) (x : Int32) : kx_H := hp_sI (hp_sR (hp_nw (hp_sR (hp_nw w 5 0 3) 602 a (some (hp_X w))) 5 0 3) 604 a (some (hp_X w + 1))) 600 a x
theorem c_4 (Z : ZS w) (h : hp_T w a = some 2) (r1 : hp_C w + 2 ≤ kx_cc) (r2 : hp_U w + 6 ≤ kx_cs) : kx_ev kx_M (d + 2) 4 [kx_r 2 (some a), kx_i x] (kz_e w) = some (.inl none, kz_e (uCh w a x)) ∧ ZS (uCh w a x) := by
  have h1 : hp_T (hp_nw w 5 0 3) a = some 2 := Z.tn h
  have Z1 : ZS (hp_sR (hp_nw w 5 0 3) 402 a (some (hp_X w))) := (Z.nw).sR (k := 1) h1 (by decide) (by decide) (by decide) (fun b hb => by cases hb; exact tnX w 5 0 3)
  have h2 : hp_T (hp_nw (hp_sR (hp_nw w 5 0 3) 402 a (some (hp_X w))) 5 0 3) a = some 2 := Z1.tn h1
  have e2 : hp_X (hp_sR (hp_nw w 5 0 3) 402 a (some (hp_X w))) = hp_X w + 1 := rfl
  have Z2 : ZS (hp_sR (hp_nw (hp_sR (hp_nw w 5 0 3) 402 a (some (hp_X w))) 5 0 3) 404 a (some (hp_X w + 1))) := (Z1.nw).sR (k := 2) h2 (by decide) (by decide) (by decide) (fun b hb => by cases hb; rw [← e2]; exact tnX _ 5 0 3)
  refine ⟨?_, Z2.sI h2 (by decide)⟩
  obtain ⟨ψ, hψ⟩ := kx_fu
  rw [mhE_4 hψ]
  unfold mh_4_0
  simp only [ob_s, eC, eU, eX]
  rw [if_pos ⟨by omega, by omega⟩, en_w Z.1, c_1]
  simp only [bv_n, ob_s]
  rw [es_R (K := 402) h1 (by decide) (by decide)]
  simp only [eC, eU, eX, hC_R, hU_R, hX_R, hC_n, hU_n, hX_n]
  rw [if_pos ⟨by omega, by omega⟩, en_w Z1.1, c_1]
  simp only [bv_n, ob_s]
  rw [es_R (K := 404) h2 (by decide) (by decide), es_I (K := 400) (w := hp_sR (hp_nw (hp_sR (hp_nw w 5 0 3) 402 a (some (hp_X w))) 5 0 3) 404 a (some (hp_X w + 1))) h2 (by decide) (by decide)]
  rfl
theorem c_7 (Z : ZS w) (h : hp_T w a = some 3) (r1 : hp_C w + 2 ≤ kx_cc) (r2 : hp_U w + 6 ≤ kx_cs) : kx_ev kx_M (d + 2) 7 [kx_r 3 (some a), kx_i x] (kz_e w) = some (.inl none, kz_e (uGt w a x)) ∧ ZS (uGt w a x) := by
  have h1 : hp_T (hp_nw w 5 0 3) a = some 3 := Z.tn h
  have Z1 : ZS (hp_sR (hp_nw w 5 0 3) 602 a (some (hp_X w))) := (Z.nw).sR (k := 1) h1 (by decide) (by decide) (by decide) (fun b hb => by cases hb; exact tnX w 5 0 3)
  have h2 : hp_T (hp_nw (hp_sR (hp_nw w 5 0 3) 602 a (some (hp_X w))) 5 0 3) a = some 3 := Z1.tn h1
  have e2 : hp_X (hp_sR (hp_nw w 5 0 3) 602 a (some (hp_X w))) = hp_X w + 1 := rfl
  have Z2 : ZS (hp_sR (hp_nw (hp_sR (hp_nw w 5 0 3) 602 a (some (hp_X w))) 5 0 3) 604 a (some (hp_X w + 1))) := (Z1.nw).sR (k := 2) h2 (by decide) (by decide) (by decide) (fun b hb => by cases hb; rw [← e2]; exact tnX _ 5 0 3)
  refine ⟨?_, Z2.sI h2 (by decide)⟩
  obtain ⟨ψ, hψ⟩ := kx_fu
  rw [mhE_7 hψ]
  unfold mh_7_0
  simp only [ob_s, eC, eU, eX]
  rw [if_pos ⟨by omega, by omega⟩, en_w Z.1, c_1]
  simp only [bv_n, ob_s]
  rw [es_R (K := 602) h1 (by decide) (by decide)]
  simp only [eC, eU, eX, hC_R, hU_R, hX_R, hC_n, hU_n, hX_n]
  rw [if_pos ⟨by omega, by omega⟩, en_w Z1.1, c_1]
  simp only [bv_n, ob_s]
  rw [es_R (K := 604) h2 (by decide) (by decide), es_I (K := 600) (w := hp_sR (hp_nw (hp_sR (hp_nw w 5 0 3) 602 a (some (hp_X w))) 5 0 3) 604 a (some (hp_X w + 1))) h2 (by decide) (by decide)]
  rfl
theorem c_9 (h0 : hp_T w 1 = some 0) (h : hp_T w a = some 8) : kx_ev kx_M (d + 1) 9 [kx_r 0 (some 1), kx_r 8 (some a)] (kz_e w) = some (.inl none, kz_e (hp_sR (hp_sR w 1602 a (hp_R w 24 1)) 24 1 (some a))) := by
  obtain ⟨ψ, hψ⟩ := kx_fu
  rw [mhE_9 hψ]
  unfold mh_9_0
  simp only [ob_s]
  rw [er_R (K := 24) h0 (by decide) (by decide), es_R (K := 1602) h (by decide) (by decide), es_R (K := 24) (w := hp_sR w 1602 a (hp_R w 24 1)) h0 (by decide) (by decide)]
theorem c_10 (h0 : hp_T w 1 = some 0) (h : hp_T w a = some 4) : kx_ev kx_M (d + 1) 10 [kx_r 0 (some 1), kx_r 4 (some a)] (kz_e w) = some (.inl none, kz_e (hp_sR (hp_sR w 816 a (hp_R w 30 1)) 30 1 (some a))) := by
  obtain ⟨ψ, hψ⟩ := kx_fu
  rw [mhE_10 hψ]
  unfold mh_10_0
  simp only [ob_s]
  rw [er_R (K := 30) h0 (by decide) (by decide), es_R (K := 816) h (by decide) (by decide), es_R (K := 30) (w := hp_sR w 816 a (hp_R w 30 1)) h0 (by decide) (by decide)]
theorem c_12 (h : hp_T w a = some 6) : kx_ev kx_M (d + 1) 12 [kx_r 6 (some a), kx_l 0, kx_i 0, kx_i (-1), kx_i 0] (kz_e w) = some (.inl none, kz_e (hp_sB (hp_sI (hp_sB (hp_sL w 1212 a 0) 1214 a false) 1216 a (-1)) 1218 a false)) := by
  obtain ⟨ψ, hψ⟩ := kx_fu
  rw [mhE_12 hψ]
  unfold mh_12_0
  simp only [ob_s, kx_sb_0]
  rw [es_L (K := 1212) h (by decide) (by decide), es_B (K := 1214) (w := hp_sL w 1212 a 0) h (by decide) (by decide), es_I (K := 1216) (w := hp_sB (hp_sL w 1212 a 0) 1214 a false) h (by decide) (by decide), es_B (K := 1218) (w := hp_sI (hp_sB (hp_sL w 1212 a 0) 1214 a false) 1216 a (-1)) h (by decide) (by decide)]
theorem c_11 (h : hp_T w a = some 6) : kx_ev kx_M (d + 2) 11 [kx_r 6 (some a)] (kz_e w) = some (.inl none, kz_e (hp_sB (hp_sI (hp_sB (hp_sL (hp_sI (hp_sB w 1204 a true) 1208 a (-1)) 1212 a 0) 1214 a false) 1216 a (-1)) 1218 a false)) := by
  obtain ⟨ψ, hψ⟩ := kx_fu
  rw [mhE_11 hψ]
  unfold mh_11_0
  simp only [ob_s, kx_sb_1]
  rw [es_B (K := 1204) h (by decide) (by decide), es_I (K := 1208) (w := hp_sB w 1204 a true) h (by decide) (by decide), c_12 (w := hp_sI (hp_sB w 1204 a true) 1208 a (-1)) h, bv_n]
/-- newest first -/
def nl (x s : Nat) : Nat → List Nat
  | 0 => []
  | i + 1 => (x + s * i) :: nl x s i
theorem nl_mem {x s : Nat} : ∀ {i y : Nat}, y ∈ nl x s i → ∃ j, j < i ∧ y = x + s * j := by
  intro i
  induction i with
  | zero => intro y h; cases h
  | succ i ih =>
    intro y h
    rcases List.mem_cons.mp h with h | h
    · exact ⟨i, by omega, h⟩
    · obtain ⟨j, h1, h2⟩ := ih h
      exact ⟨j, by omega, h2⟩
theorem nl_len {x s : Nat} : ∀ i : Nat, (nl x s i).length = i := by
  intro i
  induction i with
  | zero => rfl
  | succ i ih => show (nl x s i).length + 1 = i + 1; rw [ih]
theorem nl_nd {x s : Nat} (hs : 0 < s) : ∀ i : Nat, (nl x s i).Nodup := by
  intro i
  induction i with
  | zero => exact List.nodup_nil
  | succ i ih =>
    refine List.nodup_cons.mpr ⟨fun h => ?_, ih⟩
    obtain ⟨j, h1, h2⟩ := nl_mem h
    have : s * j < s * i := Nat.mul_lt_mul_of_pos_left h1 hs
    omega
/-- keys that are left, cells that are left -/
def Un (ki kr : List Nat) (w w' : kx_H) : Prop := (∀ k, k ∉ ki → hp_I w' k = hp_I w k) ∧ hp_L w' = hp_L w ∧ (∀ k, k ∉ kr → hp_R w' k = hp_R w k) ∧ hp_B w' = hp_B w ∧ (∀ b, b < hp_X w → hp_T w' b = hp_T w b) ∧ (∀ b, b < hp_X w → hp_N w' b = hp_N w b) ∧ hp_X w ≤ hp_X w'
theorem Un.rf {ki kr : List Nat} : Un ki kr w w := ⟨fun _ _ => rfl, rfl, fun _ _ => rfl, rfl, fun _ _ => rfl, fun _ _ => rfl, Nat.le_refl _⟩
theorem Un.tr {ki kr ki' kr' : List Nat} (h : Un ki kr w w') (h' : Un ki' kr' w' w1) : Un (ki ++ ki') (kr ++ kr') w w1 := by
  obtain ⟨a1, a2, a3, a4, a5, a6, a7⟩ := h
  obtain ⟨b1, b2, b3, b4, b5, b6, b7⟩ := h'
  refine ⟨fun k hk => ?_, b2.trans a2, fun k hk => ?_, b4.trans a4, fun b hb => (b5 b (by omega)).trans (a5 b hb), fun b hb => (b6 b (by omega)).trans (a6 b hb), by omega⟩
  · rw [List.mem_append] at hk
    exact (b1 k (fun e => hk (Or.inr e))).trans (a1 k (fun e => hk (Or.inl e)))
  · rw [List.mem_append] at hk
    exact (b3 k (fun e => hk (Or.inr e))).trans (a3 k (fun e => hk (Or.inl e)))
theorem Un.tr1 {ki kr : List Nat} (h : Un ki kr w w') (h' : Un ki kr w' w1) : Un ki kr w w1 := by
  obtain ⟨a1, a2, a3, a4, a5, a6, a7⟩ := h
  obtain ⟨b1, b2, b3, b4, b5, b6, b7⟩ := h'
  exact ⟨fun k hk => (b1 k hk).trans (a1 k hk), b2.trans a2, fun k hk => (b3 k hk).trans (a3 k hk), b4.trans a4, fun b hb => (b5 b (by omega)).trans (a5 b hb), fun b hb => (b6 b (by omega)).trans (a6 b hb), by omega⟩
theorem Un.tg {ki kr : List Nat} (h : Un ki kr w w') (Z : ZS w) (e : hp_T w a = some t) : hp_T w' a = some t := (h.2.2.2.2.1 a (Z.1.lt e)).trans e
/-! the agenda -/
def uAg (w : kx_H) (a : Nat) : kx_H := hp_sR (hp_sR (hp_nw w 7 0 4) 1406 (hp_X w) (hp_R w 202 a)) 202 a (some (hp_X w))
theorem uAg_R (k b : Nat) : hp_R (uAg w a) k b = if k = 202 ∧ b = a then some (hp_X w) else if k = 1406 ∧ b = hp_X w then hp_R w 202 a else hp_R w k b := Eq.trans rfl rfl
theorem uAg_un : Un [] [1406, 202] w (uAg w a) := by
  refine ⟨fun _ _ => rfl, rfl, fun k hk => ?_, rfl, fun b hb => ?_, fun b hb => ?_, Nat.le_succ _⟩
  · funext b
    simp only [List.mem_cons, List.not_mem_nil, or_false, not_or] at hk
    rw [uAg_R, if_neg (fun e => hk.2 e.1), if_neg (fun e => hk.1 e.1)]
  · show hp_T (hp_nw w 7 0 4) b = _
    rw [hT_n, if_neg (by omega)]
  · show hp_N (hp_nw w 7 0 4) b = _
    rw [hN_n, if_neg (by omega)]
theorem uAg_z (Z : ZS w) (h : hp_T w a = some 1) : ZS (uAg w a) := by
  have h1 : hp_T (hp_nw w 7 0 4) a = some 1 := Z.tn h
  have Z1 : ZS (hp_sR (hp_nw w 7 0 4) 1406 (hp_X w) (hp_R w 202 a)) := (Z.nw).sR (k := 3) (tnX w 7 0 4) (by decide) (by decide) (by decide) (fun b hb => Z.tn (Z.2.2.1 a 1 1 b h (by decide) (by decide) hb))
  exact Z1.sR (k := 1) h1 (by decide) (by decide) (by decide) (fun b hb => by cases hb; exact tnX w 7 0 4)
def GA (a i : Nat) (w w' : kx_H) : Prop := ZS w' ∧ hp_X w' = hp_X w + i ∧ hp_C w' = hp_C w + i ∧ hp_U w' = hp_U w + 4 * i ∧ Un [] [1406, 202] w w' ∧ ch (hp_R w' 1406) (hp_R w' 202 a) (nl (hp_X w) 1 i)
theorem GA.step (Z : ZS w) (h : hp_T w a = some 1) (G : GA a i w w') : GA a (i + 1) w (uAg w' a) := by
  obtain ⟨g1, g2, g3, g4, g5, g6⟩ := G
  have ha := Z.1.lt h
  refine ⟨uAg_z g1 (g5.tg Z h), ?_, ?_, ?_, g5.tr1 uAg_un, ?_⟩
  · show hp_X w' + 1 = _
    omega
  · show hp_C w' + 1 = _
    omega
  · show hp_U w' + 4 = _
    omega
  · have e : hp_R (uAg w' a) 202 a = some (hp_X w + 1 * i) := by
      rw [uAg_R, if_pos ⟨rfl, rfl⟩, g2, Nat.one_mul]
    rw [e]
    refine ⟨rfl, ?_⟩
    have e2 : hp_R (uAg w' a) 1406 (hp_X w + 1 * i) = hp_R w' 202 a := by
      rw [uAg_R, if_neg (by omega), if_pos ⟨rfl, by omega⟩]
    rw [e2]
    refine g6.upd (fun y hy => ?_)
    obtain ⟨j, hj, rfl⟩ := nl_mem hy
    rw [uAg_R, if_neg (by omega), if_neg (by omega)]
theorem l_A (Z : ZS w) (h : hp_T w a = some 1) (r1 : hp_C w + 512 ≤ kx_cc) (r2 : hp_U w + 2048 ≤ kx_cs) : ∀ (k i g : Nat) (w' : kx_H), i + k = 512 → GA a i w w' → ∃ w'', kx_ex (bm_2 (d + 1) (kx_ev kx_M (d + 1))) (g + k + 1) 6 [(0, kx_r 1 (some a)), (1, kx_i (i32 i))] [] (kz_e w') = some (.inl none, kz_e w'') ∧ GA a 512 w w'' := by
  intro k
  induction k with
  | zero =>
    intro i g w' hk G
    obtain rfl : i = 512 := by omega
    refine ⟨w', ?_, G⟩
    rw [mhe_2_6]
    unfold mh_2_6
    rw [if_pos (by decide)]
  | succ k ih =>
    intro i g w' hk G
    obtain ⟨w'', e, G'⟩ := ih (i + 1) g (uAg w' a) (by omega) (GA.step Z h G)
    refine ⟨w'', ?_, G'⟩
    obtain ⟨g1, g2, g3, g4, g5, g6⟩ := G
    have h' := g5.tg Z h
    have h1 : hp_T (hp_nw w' 7 0 4) a = some 1 := g1.tn h'
    rw [show g + (k + 1) + 1 = (g + k + 1) + 1 by omega, mhe_2_6]
    unfold mh_2_6
    have hc : ¬ (512 : Int32) ≤ i32 i := by
      rw [show (512 : Int32) = i32 512 from rfl, i32_le (by omega) (by omega)]
      omega
    rw [if_neg hc]
    simp only [ob_s, eC, eU, eX]
    rw [if_pos ⟨by omega, by omega⟩, en_w g1.1, c_3]
    simp only [bv_n]
    rw [er_R (K := 202) h1 (by decide) (by decide), es_R (K := 1406) (tnX w' 7 0 4) (by decide) (by decide), es_R (K := 202) (w := hp_sR (hp_nw w' 7 0 4) 1406 (hp_X w') (hp_R (hp_nw w' 7 0 4) 202 a)) h1 (by decide) (by decide), ix1]
    exact e
theorem c_2 (Z : ZS w) (h : hp_T w a = some 1) (h0 : hp_R w 202 a = none) (r1 : hp_C w + 512 ≤ kx_cc) (r2 : hp_U w + 2048 ≤ kx_cs) : ∃ w', kx_ev kx_M (d + 2) 2 [kx_r 1 (some a)] (kz_e w) = some (.inl none, kz_e w') ∧ GA a 512 w w' := by
  obtain ⟨ψ, hψ⟩ := kx_fl 514 (by omega)
  have G0 : GA a 0 w w := ⟨Z, by omega, by omega, by omega, Un.rf, h0⟩
  obtain ⟨w'', e, G⟩ := l_A (d := d) Z h r1 r2 512 0 (ψ + 1) w (by omega) G0
  refine ⟨w'', ?_, G⟩
  rw [mhE_2 hψ]
  unfold mh_2_0
  simp only [ob_s]
  exact e
end CTO
