/-! the law's beginning, and the end of it all -/
def w00 (L : Nat) (xs : Nat → Int32) : kx_H := (fun b => if b = 0 then some 98 else none, fun k j => if k = 1 then xs j else 0, fun _ _ => 0, fun _ _ => none, fun _ _ => false, fun b => if b = 0 then L else 0, 1, 0, 0)
theorem h0_e (L : Nat) (xs : Nat → Int32) : kx_h0 L xs = kz_e (w00 L xs) := by
  have hI : (fun b j => if b = 0 then xs j else (0 : Int32)) = fun a k => hp_I (w00 L xs) (kz_k (hp_T (w00 L xs)) a k) (kz_x (hp_T (w00 L xs)) a k) := by
    funext b j
    by_cases hb : b = 0
    · subst hb
      have hT : hp_T (w00 L xs) 0 = some 98 := rfl
      rw [(kz_ka hT (by decide)).1, (kz_ka hT (by decide)).2]
      rfl
    · have hT : hp_T (w00 L xs) b = none := if_neg hb
      have e1 : kz_k (hp_T (w00 L xs)) b j = 2 * b + 1 := by unfold kz_k; rw [hT]
      rw [e1, if_neg hb]
      show (0 : Int32) = if 2 * b + 1 = 1 then _ else 0
      rw [if_neg (by omega)]
  show ((fun b => if b = 0 then some 98 else none, (fun b j => if b = 0 then xs j else (0 : Int32)), fun _ _ => 0, fun _ _ => none, fun _ _ => false, fun b => if b = 0 then L else 0, 1, 0, 0) : kx_H) = _
  rw [hI]
  rfl
theorem w00_z (L : Nat) (xs : Nat → Int32) : ZS (w00 L xs) := by
  refine ⟨⟨fun a ha => ?_, fun a ha k => ⟨?_, ?_⟩, fun _ _ _ => ⟨rfl, rfl⟩, fun _ _ _ => ⟨rfl, rfl⟩, fun _ _ _ => ⟨rfl, rfl⟩⟩, rfl, fun a t k b _ _ _ h => (by cases h), fun a t k b _ _ _ h => (by cases h)⟩
  · have : 1 ≤ a := ha
    show (if a = 0 then some 98 else none) = none
    rw [if_neg (by omega)]
  · have : 1 ≤ a := ha
    show (if 2 * a + 1 = 1 then _ else (0 : Int32)) = 0
    rw [if_neg (by omega)]
  · show (if 2 * k = 1 then _ else (0 : Int32)) = 0
    rw [if_neg (by omega)]
/-- the world at the law's first round -/
def WF (L : Nat) (xs : Nat → Int32) (W : kx_H) : Prop := kz_W (hp_T W) W ∧ (hp_T W 0 = some 98 ∧ hp_T W 1 = some 0 ∧ hp_T W 4363 = some 9 ∧ hp_T W 4393 = some 100) ∧ (hp_N W 0 = L ∧ hp_N W 4393 = 1 ∧ hp_N W 2 = 256 ∧ hp_N W 517 = 512 ∧ hp_N W 521 = 16 ∧ hp_N W 522 = 256) ∧ (hp_C W ≤ 100000 ∧ hp_U W ≤ 1000000) ∧ (∀ k a, k ∉ [400, 808, 1200, 600] → hp_I W k a = if k = 8733 ∧ a = 0 then -1 else if k = 8739 ∧ a = 0 then -1 else if k = 2 ∧ a = 1 then 1 else if k = 1216 ∧ a = 524 then -1 else if k = 1208 ∧ a = 524 then -1 else if k = 1 then xs a else 0) ∧ (∀ k a, hp_L W k a = 0) ∧ (∀ k a, hp_B W k a = decide (k = 8729 ∧ a = 0 ∨ k = 1204 ∧ a = 524)) ∧ (∀ k a, k < 1800 → k ∉ [6, 0, 4, 1406, 202, 12, 16, 402, 404, 18, 26, 32, 802, 800, 1202, 5, 1035, 602, 604, 1045, 1602, 24, 816, 30] → hp_R W k a = none) ∧ SH W ∧ (hp_R W 0 1 = some 2 ∧ hp_R W 4 1 = some 3 ∧ hp_R W 12 1 = some 4 ∧ hp_R W 16 1 = some 517 ∧ hp_R W 18 1 = some 518 ∧ hp_R W 26 1 = some 521 ∧ hp_R W 32 1 = some 522 ∧ hp_R W 6 1 = some 524) ∧ (hp_I W 400 518 = -1 ∧ hp_R W 402 518 = some 519 ∧ hp_R W 404 518 = some 520) ∧ ch (hp_R W 1406) (hp_R W 202 4) (nl 5 1 512) ∧ (∀ t, t < 256 → hp_R W 5 t = some (524 + 2 * t) ∧ hp_I W 1200 (524 + 2 * t) = i32 t ∧ hp_R W 1202 (524 + 2 * t) = some (523 + 2 * t) ∧ hp_R W 800 (523 + 2 * t) = some (524 + 2 * t) ∧ hp_I W 808 (523 + 2 * t) = -1) ∧ (∀ c, c < 512 → hp_R W 1035 c = some (1035 + 3 * c) ∧ hp_I W 400 (1035 + 3 * c) = i32 c ∧ hp_R W 402 (1035 + 3 * c) = some (1036 + 3 * c) ∧ hp_R W 404 (1035 + 3 * c) = some (1037 + 3 * c)) ∧ (∀ g, g < 256 → hp_R W 1045 g = some (2571 + 3 * g) ∧ hp_I W 600 (2571 + 3 * g) = i32 g ∧ hp_R W 602 (2571 + 3 * g) = some (2572 + 3 * g) ∧ hp_R W 604 (2571 + 3 * g) = some (2573 + 3 * g)) ∧ ch (hp_R W 1602) (hp_R W 24 1) (nl 3339 2 512) ∧ ch (hp_R W 816) (hp_R W 30 1) (nl 3340 2 512)
theorem SH.nw {w : kx_H} {t n s : Nat} (h : SH w) (hx : hp_X w = 4393) : SH (hp_nw w t n s) := by
  unfold SH at *
  simp only [hR_n, hN_n, hx]
  exact h
section STA
variable {L : Nat} {xs : Nat → Int32} {u m : kx_H}
theorem uFin_I (w : kx_H) (k b : Nat) : hp_I (uFin w 524) k b = if k = 2 ∧ b = 1 then 1 else if k = 1206 ∧ b = 524 then 0 else if k = 1216 ∧ b = 524 then -1 else if k = 1208 ∧ b = 524 then -1 else hp_I w k b := Eq.trans rfl rfl
theorem uFin_B (w : kx_H) (k b : Nat) : hp_B (uFin w 524) k b = if k = 1218 ∧ b = 524 then false else if k = 1214 ∧ b = 524 then false else if k = 1204 ∧ b = 524 then true else hp_B w k b := Eq.trans rfl rfl
theorem uFin_L (w : kx_H) (k b : Nat) : hp_L (uFin w 524) k b = if k = 1212 ∧ b = 524 then 0 else hp_L w k b := Eq.trans rfl rfl
theorem uFin_R (w : kx_H) (k b : Nat) : hp_R (uFin w 524) k b = if k = 6 ∧ b = 1 then some 524 else hp_R w k b := Eq.trans rfl rfl
theorem law0 (L : Nat) (xs : Nat → Int32) (g : Nat) : ∃ W, kx_ex (bl_m 9 (kx_ev kx_M 9)) (g + 1) 0 [(0, kx_r 98 (some 0))] [] (kx_h0 L xs) = kx_ex (bl_m 9 (kx_ev kx_M 9)) g 23 (kLv 0) [] (kz_e W) ∧ WF L xs W := by
  have Z0 := w00_z L xs
  have Z1 : ZS (hp_nw (w00 L xs) 0 0 18) := Z0.nw
  have x1 : hp_X (hp_nw (w00 L xs) 0 0 18) = 2 := rfl
  have c1 : hp_C (hp_nw (w00 L xs) 0 0 18) = 1 := rfl
  have u1 : hp_U (hp_nw (w00 L xs) 0 0 18) = 18 := by show 0 + 18 = 18; omega
  have t1 : hp_T (hp_nw (w00 L xs) 0 0 18) 1 = some 0 := tnX (w00 L xs) 0 0 18
  have t0 : hp_T (hp_nw (w00 L xs) 0 0 18) 0 = some 98 := rfl
  have n0 : hp_N (hp_nw (w00 L xs) 0 0 18) 0 = L := rfl
  have I1 : ∀ k a, hp_I (hp_nw (w00 L xs) 0 0 18) k a = if k = 1 then xs a else 0 := fun _ _ => rfl
  have L1 : ∀ k a, hp_L (hp_nw (w00 L xs) 0 0 18) k a = 0 := fun _ _ => rfl
  have R1 : ∀ k a, hp_R (hp_nw (w00 L xs) 0 0 18) k a = none := fun _ _ => rfl
  have B1 : ∀ k a, hp_B (hp_nw (w00 L xs) 0 0 18) k a = false := fun _ _ => rfl
  have e1 : hp_new (kz_e (w00 L xs)) 0 0 18 = kz_e (hp_nw (w00 L xs) 0 0 18) := en_w Z0.1 0 0 18
  have xz : hp_X (w00 L xs) = 1 := rfl
  have cz : hp_C (w00 L xs) = 0 := rfl
  have uz : hp_U (w00 L xs) = 0 := rfl
  generalize hp_nw (w00 L xs) 0 0 18 = w1 at *
  obtain ⟨u, eu, D⟩ := c_0 (d := 6) Z1 t1 x1 R1 (by unfold kx_cc; omega) (by unfold kx_cs; omega)
  obtain ⟨d1, d2, d3, d4, d5, d6, d7, d8, d9, d10, ⟨q4, q12, q18, q26⟩, n521, d13, d14, d15, d16, d17, d18, d19, t524⟩ := D
  have Zf := uFin_z d1.1 d1.2.1 t524
  have fI := uFin_I u
  have fB := uFin_B u
  have fL := uFin_L u
  have fR := uFin_R u
  have fX : hp_X (uFin u 524) = 4363 := d2
  have fC : hp_C (uFin u 524) = hp_C u := rfl
  have fU : hp_U (uFin u 524) = hp_U u := rfl
  have fN : hp_N (uFin u 524) = hp_N u := rfl
  have fT : hp_T (uFin u 524) = hp_T u := rfl
  generalize uFin u 524 = f at *
  have Z2 : ZS (hp_nw f 9 0 42) := Zf.nw
  have t2 : hp_T (hp_nw f 9 0 42) 4363 = some 9 := by rw [← fX]; exact tnX f 9 0 42
  obtain ⟨m, em, Zm, mX, mC, mU, mI, mL, mR, mB, mT, mN, mS⟩ := c_88 (d := 8) Z2 t2 (by rw [hX_n]; omega) (by rw [hC_n]; unfold kx_cc; omega) (by rw [hU_n]; unfold kx_cs; omega)
  rw [hC_n] at mC
  rw [hU_n] at mU
  have gI : ∀ k a, hp_I (hp_sI (hp_sI (hp_sB m 8729 0 true) 8739 0 (-1)) 8733 0 (-1)) k a = if k = 8733 ∧ a = 0 then -1 else if k = 8739 ∧ a = 0 then -1 else hp_I m k a := fun _ _ => rfl
  have gB : ∀ k a, hp_B (hp_sI (hp_sI (hp_sB m 8729 0 true) 8739 0 (-1)) 8733 0 (-1)) k a = if k = 8729 ∧ a = 0 then true else hp_B m k a := fun _ _ => rfl
  have gL : hp_L (hp_sI (hp_sI (hp_sB m 8729 0 true) 8739 0 (-1)) 8733 0 (-1)) = hp_L m := rfl
  have gR : hp_R (hp_sI (hp_sI (hp_sB m 8729 0 true) 8739 0 (-1)) 8733 0 (-1)) = hp_R m := rfl
  have gX : hp_X (hp_sI (hp_sI (hp_sB m 8729 0 true) 8739 0 (-1)) 8733 0 (-1)) = hp_X m := rfl
  have gC : hp_C (hp_sI (hp_sI (hp_sB m 8729 0 true) 8739 0 (-1)) 8733 0 (-1)) = hp_C m := rfl
  have gU : hp_U (hp_sI (hp_sI (hp_sB m 8729 0 true) 8739 0 (-1)) 8733 0 (-1)) = hp_U m := rfl
  have gN : hp_N (hp_sI (hp_sI (hp_sB m 8729 0 true) 8739 0 (-1)) 8733 0 (-1)) = hp_N m := rfl
  have gT : hp_T (hp_sI (hp_sI (hp_sB m 8729 0 true) 8739 0 (-1)) 8733 0 (-1)) = hp_T m := rfl
  generalize hp_sI (hp_sI (hp_sB m 8729 0 true) 8739 0 (-1)) 8733 0 (-1) = g' at *
  have x4 : hp_X g' = 4393 := gX.trans mX
  have Z4 : ZS (hp_nw g' 100 1 1) := Zm.nw
  -- reading the last world
  have rR : ∀ k a, k < 1800 → k ≠ 6 → hp_R (hp_nw g' 100 1 1) k a = hp_R u k a := fun k a hk h6 => by
    rw [hR_n, gR, mR k hk, hR_n, fR, if_neg (fun e => h6 e.1)]
  have rI : ∀ k a, hp_I (hp_nw g' 100 1 1) k a = if k = 8733 ∧ a = 0 then -1 else if k = 8739 ∧ a = 0 then -1 else if k = 2 ∧ a = 1 then 1 else if k = 1206 ∧ a = 524 then 0 else if k = 1216 ∧ a = 524 then -1 else if k = 1208 ∧ a = 524 then -1 else hp_I u k a := fun k a => by
    rw [hI_n, gI, mI k, hI_n, fI]
  have rN : ∀ b, b < 4363 → hp_N (hp_nw g' 100 1 1) b = hp_N u b := fun b hb => by
    rw [hN_n, if_neg (by omega), gN, mN b (by omega), hN_n, if_neg (by omega), fN]
  have rT : ∀ b, b < 4363 → hp_T (hp_nw g' 100 1 1) b = hp_T u b := fun b hb => by
    rw [hT_n, if_neg (by omega), gT, mT b (by omega), hT_n, if_neg (by omega), fT]
  have rL : ∀ k a, hp_L (hp_nw g' 100 1 1) k a = 0 := fun k a => by
    rw [hL_n, gL, mL, hL_n, fL, d6, L1]
    split <;> rfl
  have rB : ∀ k a, hp_B (hp_nw g' 100 1 1) k a = decide (k = 8729 ∧ a = 0 ∨ k = 1204 ∧ a = 524) := fun k a => by
    rw [hB_n, gB, mB, hB_n, fB, d8, B1]
    by_cases h1 : k = 8729 ∧ a = 0
    · rw [if_pos h1]; simp [h1]
    rw [if_neg h1]
    by_cases h2 : k = 1218 ∧ a = 524
    · rw [if_pos h2]; simp [h2]
    rw [if_neg h2]
    by_cases h3 : k = 1214 ∧ a = 524
    · rw [if_pos h3]; simp [h3]
    rw [if_neg h3]
    by_cases h4 : k = 1204 ∧ a = 524
    · rw [if_pos h4]; simp [h4]
    · rw [if_neg h4]
      symm
      rw [decide_eq_false_iff_not]
      exact fun h => h.elim h1 h4
  refine ⟨hp_nw g' 100 1 1, ?_, Z4.2, ⟨?_, ?_, ?_, ?_⟩, ⟨?_, ?_, ?_, ?_, ?_, ?_⟩, ⟨?_, ?_⟩, fun k a hk => ?_, rL, rB, fun k a hk hk2 => ?_, ?_, ⟨?_, ?_, ?_, ?_, ?_, ?_, ?_, ?_⟩, ⟨?_, ?_, ?_⟩, ?_, fun t ht => ?_, fun c hc => ?_, fun g hg => ?_, ?_, ?_⟩
  · rw [h0_e, mhl_0]
    unfold mh_l0
    simp only [ob_s, eC, eU, eX, xz, cz, uz]
    rw [if_pos (by decide), e1, eu, bv_n, eC, eU, eX, fX]
    rw [if_pos ⟨by unfold kx_cc; omega, by unfold kx_cs; omega⟩, en_w Zf.1, em, bv_n, eC, eU, eX, x4]
    rw [if_neg (by decide), if_pos ⟨by unfold kx_cc; omega, by rw [show (1 : Int32).toNatClampNeg = 1 from by decide]; unfold kx_cs; omega⟩, show (1 : Int32).toNatClampNeg = 1 from by decide, en_w Zm.1]
    rfl
  · rw [rT 0 (by omega), d9 0 (by omega)]; exact t0
  · rw [rT 1 (by omega), d9 1 (by omega)]; exact t1
  · rw [hT_n, if_neg (by omega), gT, mT 4363 (by omega)]; exact t2
  · rw [← x4]; exact tnX g' 100 1 1
  · rw [rN 0 (by omega), d10 0 (by omega)]; exact n0
  · rw [hN_n, if_pos x4.symm]
  · rw [rN 2 (by omega)]; exact d1.2.2.1.2.2
  · rw [rN 517 (by omega)]; exact d1.2.2.2.1.2.2
  · rw [rN 521 (by omega)]; exact n521
  · rw [rN 522 (by omega)]; exact d1.2.2.2.2.2.2
  · rw [hC_n]; omega
  · rw [hU_n]; omega
  · rw [rI, d5 k hk, I1]
    by_cases h : k = 1206 ∧ a = 524
    · rw [h.1, h.2]; rfl
    · rw [if_neg h]
  · rw [rR k a hk (fun e => hk2 (by simp [e])), d7 k (fun e => hk2 (List.mem_cons_of_mem _ e)), R1]
  · refine SH.nw ?_ x4
    exact mS.cong gR gN
  · rw [rR 0 1 (by decide) (by decide)]; exact d1.2.2.1.1
  · rw [rR 4 1 (by decide) (by decide)]; exact q4
  · rw [rR 12 1 (by decide) (by decide)]; exact q12
  · rw [rR 16 1 (by decide) (by decide)]; exact d1.2.2.2.1.1
  · rw [rR 18 1 (by decide) (by decide)]; exact q18
  · rw [rR 26 1 (by decide) (by decide)]; exact q26
  · rw [rR 32 1 (by decide) (by decide)]; exact d1.2.2.2.2.1
  · rw [hR_n, gR, mR 6 (by decide), hR_n, fR, if_pos ⟨rfl, rfl⟩]
  · rw [rI]; exact d13.1
  · rw [rR 402 518 (by decide) (by decide)]; exact d13.2.1
  · rw [rR 404 518 (by decide) (by decide)]; exact d13.2.2
  · rw [show hp_R (hp_nw g' 100 1 1) 1406 = hp_R u 1406 from funext fun a => rR 1406 a (by decide) (by decide), rR 202 4 (by decide) (by decide)]; exact d14
  · rw [rR 5 t (by decide) (by decide), rR 1202 _ (by decide) (by decide), rR 800 _ (by decide) (by decide), rI, rI]
    have h := d15 t ht
    simp only [Nat.reduceEqDiff, false_and, if_false]
    exact h
  · rw [rR 1035 c (by decide) (by decide), rR 402 _ (by decide) (by decide), rR 404 _ (by decide) (by decide), rI]
    have h := d16 c hc
    simp only [Nat.reduceEqDiff, false_and, if_false]
    exact h
  · rw [rR 1045 g (by decide) (by decide), rR 602 _ (by decide) (by decide), rR 604 _ (by decide) (by decide), rI]
    have h := d17 g hg
    simp only [Nat.reduceEqDiff, false_and, if_false]
    exact h
  · rw [show hp_R (hp_nw g' 100 1 1) 1602 = hp_R u 1602 from funext fun a => rR 1602 a (by decide) (by decide), rR 24 1 (by decide) (by decide)]; exact d18
  · rw [show hp_R (hp_nw g' 100 1 1) 816 = hp_R u 816 from funext fun a => rR 816 a (by decide) (by decide), rR 30 1 (by decide) (by decide)]; exact d19
end STA
