/-! the desk as it is made -/
section DSM
variable {w : kx_H} {d : Nat}
theorem n256 : (256 : Int32).toNatClampNeg = 256 := by decide
theorem n512 : (512 : Int32).toNatClampNeg = 512 := by decide
theorem n16 : (16 : Int32).toNatClampNeg = 16 := by decide
theorem b256 : ((256 : Int32) < 0 ∨ 60000000 < 256) = False := by simp
theorem b512 : ((512 : Int32) < 0 ∨ 60000000 < 512) = False := by simp
theorem b16 : ((16 : Int32) < 0 ∨ 60000000 < 16) = False := by simp
def DF0 (w v : kx_H) : Prop := DB v ∧ hp_X v = 523 ∧ hp_C v = hp_C w + 521 ∧ hp_U v = hp_U w + 3109 ∧ Un [400] [0, 4, 1406, 202, 12, 16, 402, 404, 18, 26, 32] w v ∧ (hp_R v 4 1 = some 3 ∧ hp_R v 12 1 = some 4 ∧ hp_R v 18 1 = some 518 ∧ hp_R v 26 1 = some 521) ∧ (hp_T v 521 = some 104 ∧ hp_N v 521 = 16) ∧ (hp_I v 400 518 = -1 ∧ hp_R v 402 518 = some 519 ∧ hp_R v 404 518 = some 520) ∧ ch (hp_R v 1406) (hp_R v 202 4) (nl 5 1 512)
theorem c_00 (Z : ZS w) (h1 : hp_T w 1 = some 0) (hx : hp_X w = 2) (hR : ∀ k b, hp_R w k b = none) (r1 : hp_C w + 600 ≤ kx_cc) (r2 : hp_U w + 4000 ≤ kx_cs) (g : Nat) : ∃ v, kx_ex (bm_0 (d + 2) (kx_ev kx_M (d + 2))) (g + 1) 0 [(0, kx_r 0 (some 1))] [] (kz_e w) = kx_ex (bm_0 (d + 2) (kx_ev kx_M (d + 2))) g 79 [(0, kx_r 0 (some 1)), (1, kx_i (i32 0))] [] (kz_e v) ∧ DF0 w v := by
  obtain ⟨v1, e1, Z1, U1, R1, T1, N1, X1, C1, B1⟩ := uD_z (K := 0) (k := 0) (t := 102) (n := 256) (s := 256) Z h1 (by decide) (by decide) rfl
  have h11 := U1.tg Z h1
  obtain ⟨v2, e2, Z2, U2, R2, T2, N2, X2, C2, B2⟩ := uD_z (K := 4) (k := 2) (t := 5) (n := 0) (s := 3) Z1 h11 (by decide) (by decide) rfl
  have h12 := U2.tg Z1 h11
  have Z3 : ZS (hp_nw v2 1 0 2) := Z2.nw
  have x2 : hp_X v2 = 4 := by omega
  have t3 : hp_T (hp_nw v2 1 0 2) 4 = some 1 := by rw [← x2]; exact tnX v2 1 0 2
  have r3 : hp_R (hp_nw v2 1 0 2) 202 4 = none := by
    rw [hR_n, U2.2.2.1 202 (by decide), U1.2.2.1 202 (by decide)]
    exact hR _ _
  have h13 : hp_T (hp_nw v2 1 0 2) 1 = some 0 := Z2.tn h12
  obtain ⟨v4, e4, Z4, X4, C4, B4, U4, A4⟩ := c_2 (d := d) Z3 t3 r3 (by rw [hC_n]; omega) (by rw [hU_n]; omega)
  rw [hX_n] at X4 A4
  rw [hC_n] at C4
  rw [hU_n] at B4
  have h14 := U4.tg Z3 h13
  have t4 := U4.tg Z3 t3
  have U5 : Un [] [12] v4 (hp_sR v4 12 1 (some 4)) := Un.sR Un.rf (by simp)
  have Z5 : ZS (hp_sR v4 12 1 (some 4)) := Z4.sR (k := 6) h14 (by decide) (by decide) (by decide) (fun b hb => by cases hb; exact t4)
  have R5 : hp_R (hp_sR v4 12 1 (some 4)) 12 1 = some 4 := by rw [hR_R, if_pos ⟨rfl, rfl⟩]
  have X5 : hp_X (hp_sR v4 12 1 (some 4)) = hp_X v4 := rfl
  have C5 : hp_C (hp_sR v4 12 1 (some 4)) = hp_C v4 := rfl
  have B5 : hp_U (hp_sR v4 12 1 (some 4)) = hp_U v4 := rfl
  have h15 := U5.tg Z4 h14
  obtain ⟨v5, hv5⟩ : ∃ v5, hp_sR v4 12 1 (some 4) = v5 := ⟨_, rfl⟩
  rw [hv5] at U5 Z5 R5 X5 C5 B5 h15
  obtain ⟨v6, e6, Z6, U6, R6, T6, N6, X6, C6, B6⟩ := uD_z (K := 16) (k := 8) (t := 103) (n := 512) (s := 512) Z5 h15 (by decide) (by decide) rfl
  have h16 := U6.tg Z5 h15
  have x6 : hp_X v6 = 518 := by omega
  have Z7 : ZS (hp_nw v6 2 0 10) := Z6.nw
  have t7 : hp_T (hp_nw v6 2 0 10) 518 = some 2 := by rw [← x6]; exact tnX v6 2 0 10
  have h17 : hp_T (hp_nw v6 2 0 10) 1 = some 0 := Z6.tn h16
  obtain ⟨e8, Z8⟩ := c_4 (d := d) (x := -1) Z7 t7 (by rw [hC_n]; omega) (by rw [hU_n]; omega)
  have U8 : Un [400] [402, 404] v6 (uCh (hp_nw v6 2 0 10) 518 (-1)) := by
    unfold uCh
    refine Un.sI (Un.sR (Un.ne (Un.sR (Un.ne (Un.ne Un.rf)) ?_)) ?_) ?_ <;> simp
  have U8' : Un [400] [402, 404] (hp_nw v6 2 0 10) (uCh (hp_nw v6 2 0 10) 518 (-1)) := by
    unfold uCh
    refine Un.sI (Un.sR (Un.ne (Un.sR (Un.ne Un.rf) ?_)) ?_) ?_ <;> simp
  have h18 := U8'.tg Z7 h17
  have t8 := U8'.tg Z7 t7
  have I8 : hp_I (uCh (hp_nw v6 2 0 10) 518 (-1)) 400 518 = -1 := by
    unfold uCh
    rw [hI_I, if_pos ⟨rfl, rfl⟩]
  have xn : hp_X (hp_nw v6 2 0 10) = 519 := by rw [hX_n]; omega
  have Ra8 : hp_R (uCh (hp_nw v6 2 0 10) 518 (-1)) 404 518 = some 520 := by
    unfold uCh
    rw [hR_I, hR_R, if_pos ⟨rfl, rfl⟩, xn]
  have Rb8 : hp_R (uCh (hp_nw v6 2 0 10) 518 (-1)) 402 518 = some 519 := by
    unfold uCh
    rw [hR_I, hR_R, if_neg (by omega), hR_n, hR_R, if_pos ⟨rfl, rfl⟩, xn]
  have X8 : hp_X (uCh (hp_nw v6 2 0 10) 518 (-1)) = hp_X v6 + 3 := rfl
  have C8 : hp_C (uCh (hp_nw v6 2 0 10) 518 (-1)) = hp_C v6 + 3 := rfl
  have B8 : hp_U (uCh (hp_nw v6 2 0 10) 518 (-1)) = hp_U v6 + 16 := rfl
  obtain ⟨v8, hv8⟩ : ∃ v8, uCh (hp_nw v6 2 0 10) 518 (-1) = v8 := ⟨_, rfl⟩
  rw [hv8] at e8 Z8 U8 h18 t8 I8 Ra8 Rb8 X8 C8 B8
  have U9 : Un [] [18] v8 (hp_sR v8 18 1 (some 518)) := Un.sR Un.rf (by simp)
  have Z9 : ZS (hp_sR v8 18 1 (some 518)) := Z8.sR (k := 9) h18 (by decide) (by decide) (by decide) (fun b hb => by cases hb; exact t8)
  have R9 : hp_R (hp_sR v8 18 1 (some 518)) 18 1 = some 518 := by rw [hR_R, if_pos ⟨rfl, rfl⟩]
  have X9 : hp_X (hp_sR v8 18 1 (some 518)) = hp_X v8 := rfl
  have C9 : hp_C (hp_sR v8 18 1 (some 518)) = hp_C v8 := rfl
  have B9 : hp_U (hp_sR v8 18 1 (some 518)) = hp_U v8 := rfl
  have h19 := U9.tg Z8 h18
  obtain ⟨v9, hv9⟩ : ∃ v9, hp_sR v8 18 1 (some 518) = v9 := ⟨_, rfl⟩
  rw [hv9] at U9 Z9 R9 X9 C9 B9 h19
  obtain ⟨va, ea, Za, Ua, Ra, Ta, Na, Xa, Ca, Ba⟩ := uD_z (K := 26) (k := 13) (t := 104) (n := 16) (s := 16) Z9 h19 (by decide) (by decide) rfl
  have h1a := Ua.tg Z9 h19
  obtain ⟨vb, eb, Zb, Ub, Rb, Tb, Nb, Xb, Cb, Bb⟩ := uD_z (K := 32) (k := 16) (t := 105) (n := 256) (s := 256) Za h1a (by decide) (by decide) rfl
  have h1b := Ub.tg Za h1a
  -- from each to the last
  have V9 := Ua.tr Ub
  have V8 := U9.tr V9
  have V6 := U8.tr V8
  have V5 := U6.tr V6
  have V4 := U5.tr V5
  have V3 := U4.tr V4
  have V2 : Un _ _ v2 vb := (Un.nw (w := v2) (t := 1) (n := 0) (s := 2)).tr V3
  have V1 := U2.tr V2
  have V0 := U1.tr V1
  refine ⟨vb, ?_, ⟨Zb, h1b, ⟨?_, ?_, ?_⟩, ⟨?_, ?_, ?_⟩, ⟨?_, ?_, ?_⟩⟩, by omega, by omega, by omega, V0, ⟨?_, ?_, ?_, ?_⟩, ⟨?_, ?_⟩, ⟨?_, ?_, ?_⟩, ?_⟩
  · rw [mhe_0_0]
    unfold mh_0_0
    simp only [ob_s, n256, n512, n16, b256, b512, b16, if_false, eC, eU, eX]
    rw [if_pos ⟨by omega, by omega⟩, en_w Z.1, es_R (K := 0) (Z.tn h1) (by decide) (by decide), e1]
    rw [if_pos ⟨by rw [eC]; omega, by rw [eU]; omega⟩, en_w Z1.1, eX, c_1]
    simp only [bv_n]
    rw [es_R (K := 4) (Z1.tn h11) (by decide) (by decide), e2]
    rw [if_pos ⟨by rw [eC]; omega, by rw [eU]; omega⟩, en_w Z2.1, eX, x2, e4]
    simp only [bv_n]
    rw [es_R (K := 12) h14 (by decide) (by decide), hv5]
    rw [if_pos ⟨by rw [eC]; omega, by rw [eU]; omega⟩, en_w Z5.1, eX, es_R (K := 16) (Z5.tn h15) (by decide) (by decide), e6]
    rw [if_pos ⟨by rw [eC]; omega, by rw [eU]; omega⟩, en_w Z6.1, eX, x6, e8]
    simp only [bv_n]
    rw [es_R (K := 18) h18 (by decide) (by decide), hv9]
    rw [if_pos ⟨by rw [eC]; omega, by rw [eU]; omega⟩, en_w Z9.1, eX, es_R (K := 26) (Z9.tn h19) (by decide) (by decide), ea]
    rw [if_pos ⟨by rw [eC]; omega, by rw [eU]; omega⟩, en_w Za.1, eX, es_R (K := 32) (Za.tn h1a) (by decide) (by decide), eb]
    rfl
  · rw [V1.2.2.1 0 (by decide), R1, hx]
  · rw [← hx]; exact V1.tg Z1 T1
  · rw [← hx]; exact (V1.2.2.2.2.2.1 _ (Z1.1.lt T1)).trans N1
  · rw [V6.2.2.1 16 (by decide), R6]; congr 1; omega
  · have := V6.tg Z6 T6; rw [show hp_X v5 = 517 by omega] at this; exact this
  · have := (V6.2.2.2.2.2.1 _ (Z6.1.lt T6)).trans N6; rw [show hp_X v5 = 517 by omega] at this; exact this
  · rw [Rb]; congr 1; omega
  · have := Tb; rw [show hp_X va = 522 by omega] at this; exact this
  · have := Nb; rw [show hp_X va = 522 by omega] at this; exact this
  · rw [V2.2.2.1 4 (by decide), R2]; congr 1; omega
  · rw [V5.2.2.1 12 (by decide)]; exact R5
  · rw [V9.2.2.1 18 (by decide)]; exact R9
  · rw [Ub.2.2.1 26 (by decide), Ra]; congr 1; omega
  · have := Ub.tg Za Ta; rw [show hp_X v9 = 521 by omega] at this; exact this
  · have := (Ub.2.2.2.2.2.1 _ (Za.1.lt Ta)).trans Na; rw [show hp_X v9 = 521 by omega] at this; exact this
  · rw [V8.1 400 (by decide)]; exact I8
  · rw [V8.2.2.1 402 (by decide)]; exact Rb8
  · rw [V8.2.2.1 404 (by decide)]; exact Ra8
  · rw [V4.2.2.1 1406 (by decide), V4.2.2.1 202 (by decide)]
    rw [x2] at A4
    exact A4
/-- the desk's cells, before the first task begins -/
def DF (w u : kx_H) : Prop := DB u ∧ hp_X u = 4363 ∧ hp_C u = hp_C w + 4361 ∧ hp_U u = hp_U w + 24869 ∧ (∀ k, k ∉ [400, 808, 1200, 600] → hp_I u k = hp_I w k) ∧ hp_L u = hp_L w ∧ (∀ k, k ∉ [0, 4, 1406, 202, 12, 16, 402, 404, 18, 26, 32, 802, 800, 1202, 5, 1035, 602, 604, 1045, 1602, 24, 816, 30] → hp_R u k = hp_R w k) ∧ hp_B u = hp_B w ∧ (∀ b, b < hp_X w → hp_T u b = hp_T w b) ∧ (∀ b, b < hp_X w → hp_N u b = hp_N w b) ∧ (hp_R u 4 1 = some 3 ∧ hp_R u 12 1 = some 4 ∧ hp_R u 18 1 = some 518 ∧ hp_R u 26 1 = some 521) ∧ hp_N u 521 = 16 ∧ (hp_I u 400 518 = -1 ∧ hp_R u 402 518 = some 519 ∧ hp_R u 404 518 = some 520) ∧ ch (hp_R u 1406) (hp_R u 202 4) (nl 5 1 512) ∧ (∀ t, t < 256 → hp_R u 5 t = some (524 + 2 * t) ∧ hp_I u 1200 (524 + 2 * t) = i32 t ∧ hp_R u 1202 (524 + 2 * t) = some (523 + 2 * t) ∧ hp_R u 800 (523 + 2 * t) = some (524 + 2 * t) ∧ hp_I u 808 (523 + 2 * t) = -1) ∧ (∀ c, c < 512 → hp_R u 1035 c = some (1035 + 3 * c) ∧ hp_I u 400 (1035 + 3 * c) = i32 c ∧ hp_R u 402 (1035 + 3 * c) = some (1036 + 3 * c) ∧ hp_R u 404 (1035 + 3 * c) = some (1037 + 3 * c)) ∧ (∀ g, g < 256 → hp_R u 1045 g = some (2571 + 3 * g) ∧ hp_I u 600 (2571 + 3 * g) = i32 g ∧ hp_R u 602 (2571 + 3 * g) = some (2572 + 3 * g) ∧ hp_R u 604 (2571 + 3 * g) = some (2573 + 3 * g)) ∧ ch (hp_R u 1602) (hp_R u 24 1) (nl 3339 2 512) ∧ ch (hp_R u 816) (hp_R u 30 1) (nl 3340 2 512) ∧ hp_T u 524 = some 6
theorem c_0 (Z : ZS w) (h1 : hp_T w 1 = some 0) (hx : hp_X w = 2) (hR : ∀ k b, hp_R w k b = none) (r1 : hp_C w + 5000 ≤ kx_cc) (r2 : hp_U w + 30000 ≤ kx_cs) : ∃ u, kx_ev kx_M (d + 3) 0 [kx_r 0 (some 1)] (kz_e w) = some (.inl none, kz_e (uFin u 524)) ∧ DF w u := by
  obtain ⟨φ, hφ⟩ := kx_fl 3000 (by omega)
  obtain ⟨v, ev, D⟩ := c_00 (d := d) Z h1 hx hR (by omega) (by omega) (φ + 3000)
  obtain ⟨d1, d2, d3, d4, d5, d6, d7, d8, d9⟩ := D
  obtain ⟨u1, e1, G1⟩ := l_T (d := d) (w := v) (by omega) (by omega) 256 0 (φ + 2743) v (by omega) ⟨d1, by omega, by omega, by omega, Un.rf, fun t ht => absurd ht (by omega)⟩
  obtain ⟨g1, g2, g3, g4, g5, g6⟩ := G1
  obtain ⟨u2, e2, G2⟩ := l_C (d := d) (w := u1) (by omega) (by omega) 512 0 (φ + 2230) u1 (by omega) ⟨g1, by omega, by omega, by omega, Un.rf, fun t ht => absurd ht (by omega), fun b _ => ⟨rfl, rfl, rfl⟩⟩
  obtain ⟨k1, k2, k3, k4, k5, k6, k7⟩ := G2
  obtain ⟨u3, e3, G3⟩ := l_G (d := d) (w := u2) (by omega) (by omega) 256 0 (φ + 1973) u2 (by omega) ⟨k1, by omega, by omega, by omega, Un.rf, fun t ht => absurd ht (by omega)⟩
  obtain ⟨m1, m2, m3, m4, m5, m6⟩ := G3
  have n24 : hp_R u3 24 1 = none := by
    rw [m5.2.2.1 24 (by decide), k5.2.2.1 24 (by decide), g5.2.2.1 24 (by decide), d5.2.2.1 24 (by decide)]
    exact hR _ _
  have n30 : hp_R u3 30 1 = none := by
    rw [m5.2.2.1 30 (by decide), k5.2.2.1 30 (by decide), g5.2.2.1 30 (by decide), d5.2.2.1 30 (by decide)]
    exact hR _ _
  have q5 : hp_R u3 5 0 = some 524 := by
    rw [m5.2.2.1 5 (by decide), k5.2.2.1 5 (by decide), (g6 0 (by omega)).1]
    congr 1
    omega
  have tq : hp_T u3 524 = some 6 := m1.1.2.2.2 2 102 0 524 m1.2.2.1.2.1 (by decide) (by decide) q5
  obtain ⟨u4, e4, G4⟩ := l_V (d := d) (w := u3) (by omega) q5 tq m1.1 (by omega) (by omega) 512 0 (φ + 1460) u3 (by omega) ⟨m1, by omega, by omega, by omega, Un.rf, n24, n30, fun _ _ => rfl⟩
  obtain ⟨j1, j2, j3, j4, j5, j6, j7, j8⟩ := G4
  have W3 := m5.tr j5
  have W2 := k5.tr W3
  have W1 := g5.tr W2
  have W0 := d5.tr W1
  have xu1 : hp_X u1 = 1035 := by omega
  have xu2 : hp_X u2 = 2571 := by omega
  have xu3 : hp_X u3 = 3339 := by omega
  refine ⟨u4, ?_, j1, by omega, by omega, by omega, fun k hk => W0.1 k ?_, W0.2.1, fun k hk => W0.2.2.1 k ?_, W0.2.2.2.1, W0.2.2.2.2.1, W0.2.2.2.2.2.1, ⟨?_, ?_, ?_, ?_⟩, ?_, ⟨?_, ?_, ?_⟩, ?_, fun t ht => ?_, fun c hc => ?_, fun g hg => ?_, ?_, ?_, j5.tg m1.1 tq⟩
  · rw [show d + 3 = (d + 2) + 1 by omega]
    show kx_ex (kx_M 0 (d + 2) (kx_ev kx_M (d + 2))) kx_fuel 0 [(0, kx_r 0 (some 1))] [] (kz_e w) = _
    rw [show kx_M 0 (d + 2) (kx_ev kx_M (d + 2)) = bm_0 (d + 2) (kx_ev kx_M (d + 2)) from rfl, hφ, ev]
    rw [show φ + 3000 = φ + 2743 + 256 + 1 by omega, e1, show φ + 2743 = φ + 2230 + 512 + 1 by omega, e2, show φ + 2230 = φ + 1973 + 256 + 1 by omega, e3, show φ + 1973 = φ + 1460 + 512 + 1 by omega, e4]
  · simp only [List.mem_append, List.mem_cons, List.not_mem_nil, or_false, not_or] at hk ⊢
    omega
  · simp only [List.mem_append, List.mem_cons, List.not_mem_nil, or_false, not_or] at hk ⊢
    omega
  · rw [W1.2.2.1 4 (by decide)]; exact d6.1
  · rw [W1.2.2.1 12 (by decide)]; exact d6.2.1
  · rw [W1.2.2.1 18 (by decide)]; exact d6.2.2.1
  · rw [W1.2.2.1 26 (by decide)]; exact d6.2.2.2
  · exact (W1.2.2.2.2.2.1 521 (by omega)).trans d7.2
  · rw [W3.1 400 (by decide), (k7 518 (by omega)).1, g5.1 400 (by decide)]; exact d8.1
  · rw [W3.2.2.1 402 (by decide), (k7 518 (by omega)).2.1, g5.2.2.1 402 (by decide)]; exact d8.2.1
  · rw [W3.2.2.1 404 (by decide), (k7 518 (by omega)).2.2, g5.2.2.1 404 (by decide)]; exact d8.2.2
  · rw [W1.2.2.1 1406 (by decide), W1.2.2.1 202 (by decide)]; exact d9
  · have h := g6 t ht
    rw [d2, show 523 + 2 * t + 1 = 524 + 2 * t by omega] at h
    rw [W2.2.2.1 5 (by decide), W2.1 1200 (by decide), W2.2.2.1 1202 (by decide), W2.2.2.1 800 (by decide), j8 (523 + 2 * t) (by omega), m5.1 808 (by decide), k5.1 808 (by decide)]
    exact h
  · have h := k6 c hc
    rw [xu1, show 1035 + 3 * c + 1 = 1036 + 3 * c by omega, show 1035 + 3 * c + 2 = 1037 + 3 * c by omega] at h
    rw [W3.2.2.1 1035 (by decide), W3.1 400 (by decide), W3.2.2.1 402 (by decide), W3.2.2.1 404 (by decide)]
    exact h
  · have h := m6 g hg
    rw [xu2, show 2571 + 3 * g + 1 = 2572 + 3 * g by omega, show 2571 + 3 * g + 2 = 2573 + 3 * g by omega] at h
    rw [j5.2.2.1 1045 (by decide), j5.1 600 (by decide), j5.2.2.1 602 (by decide), j5.2.2.1 604 (by decide)]
    exact h
  · rw [xu3] at j6; exact j6
  · rw [xu3] at j7; exact j7
end DSM
