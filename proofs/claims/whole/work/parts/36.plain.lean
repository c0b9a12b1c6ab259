/-! the blocks over the store as plain functions -/
def kx_sb (v : Int32) (f : Bool → kx_O) : kx_O := if v = 0 then f false else if v = 1 then f true else none
/-! TaskDesk.keepValue(LTaskDesk$Value;)V -/
def mb_9_0 (J : Nat → kx_F) (d : Nat) (C : kx_C) (x0 : Option Nat) (x1 : Option Nat) (w : kx_H) : kx_O := x0.bind fun a1 => x1.bind fun a2 => let w3 := hp_sR w 1602 a2 (hp_R w 24 a1);
  x0.bind fun a4 => let w5 := hp_sR w3 24 a4 x1;
  some (.inl none, w5)
theorem me_9_0 {f d : Nat} {C : kx_C} {x0 : Option Nat} {x1 : Option Nat} {w : kx_H} : kx_ex (wm_9 d C) (f + 1) 0 [(0, kx_r 0 x0), (1, kx_r 8 x1)] [] w = mb_9_0 (kx_ex (wm_9 d C) f) d C x0 x1 w := Eq.trans rfl rfl
theorem mE_9 {φ d : Nat} (hφ : kx_fuel = φ + 1) {x0 : Option Nat} {x1 : Option Nat} {w : kx_H} : kx_ev wx_M (d + 1) 9 [kx_r 0 x0, kx_r 8 x1] w = mb_9_0 (kx_ex (wm_9 d (kx_ev wx_M d)) φ) d (kx_ev wx_M d) x0 x1 w := by
  show kx_ex (wx_M 9 d (kx_ev wx_M d)) kx_fuel 0 [(0, kx_r 0 x0), (1, kx_r 8 x1)] [] w = _
  rw [show wx_M 9 d (kx_ev wx_M d) = wm_9 d (kx_ev wx_M d) from rfl, hφ]
  exact me_9_0
/-! TaskDesk.keepPlace(LTaskDesk$Place;)V -/
def mb_10_0 (J : Nat → kx_F) (d : Nat) (C : kx_C) (x0 : Option Nat) (x1 : Option Nat) (w : kx_H) : kx_O := x0.bind fun a1 => x1.bind fun a2 => let w3 := hp_sR w 816 a2 (hp_R w 30 a1);
  x0.bind fun a4 => let w5 := hp_sR w3 30 a4 x1;
  some (.inl none, w5)
theorem me_10_0 {f d : Nat} {C : kx_C} {x0 : Option Nat} {x1 : Option Nat} {w : kx_H} : kx_ex (wm_10 d C) (f + 1) 0 [(0, kx_r 0 x0), (1, kx_r 4 x1)] [] w = mb_10_0 (kx_ex (wm_10 d C) f) d C x0 x1 w := Eq.trans rfl rfl
theorem mE_10 {φ d : Nat} (hφ : kx_fuel = φ + 1) {x0 : Option Nat} {x1 : Option Nat} {w : kx_H} : kx_ev wx_M (d + 1) 10 [kx_r 0 x0, kx_r 4 x1] w = mb_10_0 (kx_ex (wm_10 d (kx_ev wx_M d)) φ) d (kx_ev wx_M d) x0 x1 w := by
  show kx_ex (wx_M 10 d (kx_ev wx_M d)) kx_fuel 0 [(0, kx_r 0 x0), (1, kx_r 4 x1)] [] w = _
  rw [show wx_M 10 d (kx_ev wx_M d) = wm_10 d (kx_ev wx_M d) from rfl, hφ]
  exact me_10_0
/-! TaskDesk$Task.begin()V -/
def mb_11_0 (J : Nat → kx_F) (d : Nat) (C : kx_C) (x0 : Option Nat) (w : kx_H) : kx_O := x0.bind fun a1 => kx_sb (1 : Int32) fun b9 => let w2 := hp_sB w 1204 a1 b9;
  x0.bind fun a3 => let w4 := hp_sI w2 1208 a3 ((-1) : Int32);
    x0.bind fun a7 => kx_bv (C 12 [kx_r 6 (some a7), kx_l (0 : Int64), kx_i (0 : Int32), kx_i ((-1) : Int32), kx_i (0 : Int32)] w4) fun w5 =>
    some (.inl none, w5)
theorem me_11_0 {f d : Nat} {C : kx_C} {x0 : Option Nat} {w : kx_H} : kx_ex (wm_11 d C) (f + 1) 0 [(0, kx_r 6 x0)] [] w = mb_11_0 (kx_ex (wm_11 d C) f) d C x0 w := Eq.trans rfl rfl
theorem mE_11 {φ d : Nat} (hφ : kx_fuel = φ + 1) {x0 : Option Nat} {w : kx_H} : kx_ev wx_M (d + 1) 11 [kx_r 6 x0] w = mb_11_0 (kx_ex (wm_11 d (kx_ev wx_M d)) φ) d (kx_ev wx_M d) x0 w := by
  show kx_ex (wx_M 11 d (kx_ev wx_M d)) kx_fuel 0 [(0, kx_r 6 x0)] [] w = _
  rw [show wx_M 11 d (kx_ev wx_M d) = wm_11 d (kx_ev wx_M d) from rfl, hφ]
  exact me_11_0
/-! TaskDesk$Task.tell(JZIZ)V -/
def mb_12_0 (J : Nat → kx_F) (d : Nat) (C : kx_C) (x0 : Option Nat) (x1 : Int64) (x3 : Int32) (x4 : Int32) (x5 : Int32) (w : kx_H) : kx_O := x0.bind fun a1 => let w2 := hp_sL w 1212 a1 x1;
  x0.bind fun a3 => kx_sb x3 fun b9 => let w4 := hp_sB w2 1214 a3 b9;
  x0.bind fun a5 => let w6 := hp_sI w4 1216 a5 x4;
    x0.bind fun a7 => kx_sb x5 fun b9 => let w8 := hp_sB w6 1218 a7 b9;
    some (.inl none, w8)
theorem me_12_0 {f d : Nat} {C : kx_C} {x0 : Option Nat} {x1 : Int64} {x3 : Int32} {x4 : Int32} {x5 : Int32} {w : kx_H} : kx_ex (wm_12 d C) (f + 1) 0 [(0, kx_r 6 x0), (1, kx_l x1), (3, kx_i x3), (4, kx_i x4), (5, kx_i x5)] [] w = mb_12_0 (kx_ex (wm_12 d C) f) d C x0 x1 x3 x4 x5 w := Eq.trans rfl rfl
theorem mE_12 {φ d : Nat} (hφ : kx_fuel = φ + 1) {x0 : Option Nat} {x1 : Int64} {x3 : Int32} {x4 : Int32} {x5 : Int32} {w : kx_H} : kx_ev wx_M (d + 1) 12 [kx_r 6 x0, kx_l x1, kx_i x3, kx_i x4, kx_i x5] w = mb_12_0 (kx_ex (wm_12 d (kx_ev wx_M d)) φ) d (kx_ev wx_M d) x0 x1 x3 x4 x5 w := by
  show kx_ex (wx_M 12 d (kx_ev wx_M d)) kx_fuel 0 [(0, kx_r 6 x0), (1, kx_l x1), (3, kx_i x3), (4, kx_i x4), (5, kx_i x5)] [] w = _
  rw [show wx_M 12 d (kx_ev wx_M d) = wm_12 d (kx_ev wx_M d) from rfl, hφ]
  exact me_12_0
/-! TaskDesk.release(I)Z -/
def mb_13_0 (J : Nat → kx_F) (d : Nat) (C : kx_C) (x0 : Option Nat) (x1 : Int32) (w : kx_H) : kx_O := x0.bind fun a3 => kx_br 2 (C 14 [kx_r 0 (some a3), kx_i x1] w) fun y2 w1 =>
  if y2 = none then (J 25 [] [] w1)
  else (y2.bind fun a6 => kx_bi (C 15 [kx_r 2 (some a6)] w1) fun y5 w4 =>
    if y5 = 0 then (x0.bind fun a9 => kx_bi (C 16 [kx_r 0 (some a9), kx_r 2 y2] w4) fun y8 w7 =>
      if y8 = 0 then (y2.bind fun a10 => J 32 [(0, kx_r 0 x0), (2, kx_r 2 y2), (3, kx_i (hp_I w7 412 a10))] [] w7)
      else (J 25 [] [] w7))
    else (J 25 [] [] w4))
theorem me_13_0 {f d : Nat} {C : kx_C} {x0 : Option Nat} {x1 : Int32} {w : kx_H} : kx_ex (wm_13 d C) (f + 1) 0 [(0, kx_r 0 x0), (1, kx_i x1)] [] w = mb_13_0 (kx_ex (wm_13 d C) f) d C x0 x1 w := Eq.trans rfl rfl
theorem mE_13 {φ d : Nat} (hφ : kx_fuel = φ + 1) {x0 : Option Nat} {x1 : Int32} {w : kx_H} : kx_ev wx_M (d + 1) 13 [kx_r 0 x0, kx_i x1] w = mb_13_0 (kx_ex (wm_13 d (kx_ev wx_M d)) φ) d (kx_ev wx_M d) x0 x1 w := by
  show kx_ex (wx_M 13 d (kx_ev wx_M d)) kx_fuel 0 [(0, kx_r 0 x0), (1, kx_i x1)] [] w = _
  rw [show wx_M 13 d (kx_ev wx_M d) = wm_13 d (kx_ev wx_M d) from rfl, hφ]
  exact me_13_0
def mb_13_25 (J : Nat → kx_F) (d : Nat) (C : kx_C)  (w : kx_H) : kx_O := if (0 : Int32) = 0 ∨ (0 : Int32) = 1 then some (.inl (some (.inl (0 : Int32))), w) else none
theorem me_13_25 {f d : Nat} {C : kx_C}  {w : kx_H} : kx_ex (wm_13 d C) (f + 1) 25 [] [] w = mb_13_25 (kx_ex (wm_13 d C) f) d C  w := Eq.trans rfl rfl
def mb_13_32 (J : Nat → kx_F) (d : Nat) (C : kx_C) (x0 : Option Nat) (x2 : Option Nat) (x3 : Int32) (w : kx_H) : kx_O := if x3 ≤ 0 then (x2.bind fun a1 => kx_sb (0 : Int32) fun b9 => let w2 := hp_sB w 406 a1 b9;
    x0.bind fun a3 => x0.bind fun a4 => let w5 := hp_sI w2 20 a4 ((hp_I w2 20 a3) - (1 : Int32));
      x0.bind fun a6 => x2.bind fun a7 => x0.bind fun a8 => let w9 := hp_sI w5 22 a8 ((hp_I w5 22 a6) - (hp_I w5 410 a7));
      if (1 : Int32) = 0 ∨ (1 : Int32) = 1 then some (.inl (some (.inl (1 : Int32))), w9) else none)
  else (x0.bind fun a12 => kx_bl (C 17 [kx_r 0 (some a12), kx_r 2 x2] w) fun y11 w10 =>
    J 32 [(0, kx_r 0 x0), (2, kx_r 2 x2), (3, kx_i (x3 + (-1)))] [] w10)
theorem me_13_32 {f d : Nat} {C : kx_C} {x0 : Option Nat} {x2 : Option Nat} {x3 : Int32} {w : kx_H} : kx_ex (wm_13 d C) (f + 1) 32 [(0, kx_r 0 x0), (2, kx_r 2 x2), (3, kx_i x3)] [] w = mb_13_32 (kx_ex (wm_13 d C) f) d C x0 x2 x3 w := Eq.trans rfl rfl
/-! TaskDesk.channelAt(I)LTaskDesk$Channel; -/
def mb_14_0 (J : Nat → kx_F) (d : Nat) (C : kx_C) (x0 : Option Nat) (x1 : Int32) (w : kx_H) : kx_O := if x1 < 0 then (J 23 [] [] w)
  else (if (512 : Int32) ≤ x1 then (J 23 [] [] w)
    else (x0.bind fun a1 => (hp_R w 16 a1).bind fun a2 => if x1 < 0 ∨ hp_N w a2 ≤ x1.toNatClampNeg then none else (hp_R w (2 * a2 + 1) x1.toNatClampNeg).bind fun a3 => if kx_b (hp_B w 406 a3) = 0 then (J 23 [] [] w)
      else (x0.bind fun a4 => (hp_R w 16 a4).bind fun a5 => if x1 < 0 ∨ hp_N w a5 ≤ x1.toNatClampNeg then none else some (.inl (some (.inr (.inr (2, hp_R w (2 * a5 + 1) x1.toNatClampNeg)))), w))))
theorem me_14_0 {f d : Nat} {C : kx_C} {x0 : Option Nat} {x1 : Int32} {w : kx_H} : kx_ex (wm_14 d C) (f + 1) 0 [(0, kx_r 0 x0), (1, kx_i x1)] [] w = mb_14_0 (kx_ex (wm_14 d C) f) d C x0 x1 w := Eq.trans rfl rfl
theorem mE_14 {φ d : Nat} (hφ : kx_fuel = φ + 1) {x0 : Option Nat} {x1 : Int32} {w : kx_H} : kx_ev wx_M (d + 1) 14 [kx_r 0 x0, kx_i x1] w = mb_14_0 (kx_ex (wm_14 d (kx_ev wx_M d)) φ) d (kx_ev wx_M d) x0 x1 w := by
  show kx_ex (wx_M 14 d (kx_ev wx_M d)) kx_fuel 0 [(0, kx_r 0 x0), (1, kx_i x1)] [] w = _
  rw [show wx_M 14 d (kx_ev wx_M d) = wm_14 d (kx_ev wx_M d) from rfl, hφ]
  exact me_14_0
def mb_14_23 (J : Nat → kx_F) (d : Nat) (C : kx_C)  (w : kx_H) : kx_O := some (.inl (some (.inr (.inr (2, none)))), w)
theorem me_14_23 {f d : Nat} {C : kx_C}  {w : kx_H} : kx_ex (wm_14 d C) (f + 1) 23 [] [] w = mb_14_23 (kx_ex (wm_14 d C) f) d C  w := Eq.trans rfl rfl
/-! TaskDesk$Channel.isAwaited()Z -/
def mb_15_0 (J : Nat → kx_F) (d : Nat) (C : kx_C) (x0 : Option Nat) (w : kx_H) : kx_O := x0.bind fun a1 => (hp_R w 402 a1).bind fun a2 => if 0 < hp_I w 1004 a2 then (J 27 [] [] w)
  else (x0.bind fun a3 => (hp_R w 404 a3).bind fun a4 => if 0 < hp_I w 1004 a4 then (J 27 [] [] w)
    else (x0.bind fun a5 => if hp_I w 414 a5 ≤ 0 then (J 32 [] [kx_i (0 : Int32)] w)
      else (J 27 [] [] w)))
theorem me_15_0 {f d : Nat} {C : kx_C} {x0 : Option Nat} {w : kx_H} : kx_ex (wm_15 d C) (f + 1) 0 [(0, kx_r 2 x0)] [] w = mb_15_0 (kx_ex (wm_15 d C) f) d C x0 w := Eq.trans rfl rfl
theorem mE_15 {φ d : Nat} (hφ : kx_fuel = φ + 1) {x0 : Option Nat} {w : kx_H} : kx_ev wx_M (d + 1) 15 [kx_r 2 x0] w = mb_15_0 (kx_ex (wm_15 d (kx_ev wx_M d)) φ) d (kx_ev wx_M d) x0 w := by
  show kx_ex (wx_M 15 d (kx_ev wx_M d)) kx_fuel 0 [(0, kx_r 2 x0)] [] w = _
  rw [show wx_M 15 d (kx_ev wx_M d) = wm_15 d (kx_ev wx_M d) from rfl, hφ]
  exact me_15_0
def mb_15_27 (J : Nat → kx_F) (d : Nat) (C : kx_C)  (w : kx_H) : kx_O := J 32 [] [kx_i (1 : Int32)] w
theorem me_15_27 {f d : Nat} {C : kx_C}  {w : kx_H} : kx_ex (wm_15 d C) (f + 1) 27 [] [] w = mb_15_27 (kx_ex (wm_15 d C) f) d C  w := Eq.trans rfl rfl
def mb_15_32 (J : Nat → kx_F) (d : Nat) (C : kx_C) (xs0 : Int32) (w : kx_H) : kx_O := if xs0 = 0 ∨ xs0 = 1 then some (.inl (some (.inl xs0)), w) else none
theorem me_15_32 {f d : Nat} {C : kx_C} {xs0 : Int32} {w : kx_H} : kx_ex (wm_15 d C) (f + 1) 32 [] [kx_i xs0] w = mb_15_32 (kx_ex (wm_15 d C) f) d C xs0 w := Eq.trans rfl rfl
/-! TaskDesk.isTold(LTaskDesk$Channel;)Z -/
def mb_16_0 (J : Nat → kx_F) (d : Nat) (C : kx_C) (x0 : Option Nat) (x1 : Option Nat) (w : kx_H) : kx_O := J 2 [(0, kx_r 0 x0), (1, kx_r 2 x1), (2, kx_i (0 : Int32))] [] w
theorem me_16_0 {f d : Nat} {C : kx_C} {x0 : Option Nat} {x1 : Option Nat} {w : kx_H} : kx_ex (wm_16 d C) (f + 1) 0 [(0, kx_r 0 x0), (1, kx_r 2 x1)] [] w = mb_16_0 (kx_ex (wm_16 d C) f) d C x0 x1 w := Eq.trans rfl rfl
theorem mE_16 {φ d : Nat} (hφ : kx_fuel = φ + 1) {x0 : Option Nat} {x1 : Option Nat} {w : kx_H} : kx_ev wx_M (d + 1) 16 [kx_r 0 x0, kx_r 2 x1] w = mb_16_0 (kx_ex (wm_16 d (kx_ev wx_M d)) φ) d (kx_ev wx_M d) x0 x1 w := by
  show kx_ex (wx_M 16 d (kx_ev wx_M d)) kx_fuel 0 [(0, kx_r 0 x0), (1, kx_r 2 x1)] [] w = _
  rw [show wx_M 16 d (kx_ev wx_M d) = wm_16 d (kx_ev wx_M d) from rfl, hφ]
  exact me_16_0
def mb_16_2 (J : Nat → kx_F) (d : Nat) (C : kx_C) (x0 : Option Nat) (x1 : Option Nat) (x2 : Int32) (w : kx_H) : kx_O := x0.bind fun a1 => if hp_I w 28 a1 ≤ x2 then (if (0 : Int32) = 0 ∨ (0 : Int32) = 1 then some (.inl (some (.inl (0 : Int32))), w) else none)
  else (x0.bind fun a2 => (hp_R w 26 a2).bind fun a3 => if x2 < 0 ∨ hp_N w a3 ≤ x2.toNatClampNeg then none else if hp_R w (2 * a3 + 1) x2.toNatClampNeg = none then (J 34 [(0, kx_r 0 x0), (1, kx_r 2 x1), (2, kx_i x2)] [] w)
    else (x0.bind fun a4 => (hp_R w 26 a4).bind fun a5 => if x2 < 0 ∨ hp_N w a5 ≤ x2.toNatClampNeg then none else (hp_R w (2 * a5 + 1) x2.toNatClampNeg).bind fun a6 => if hp_R w 802 a6 = x1 then (if (1 : Int32) = 0 ∨ (1 : Int32) = 1 then some (.inl (some (.inl (1 : Int32))), w) else none)
      else (J 34 [(0, kx_r 0 x0), (1, kx_r 2 x1), (2, kx_i x2)] [] w)))
theorem me_16_2 {f d : Nat} {C : kx_C} {x0 : Option Nat} {x1 : Option Nat} {x2 : Int32} {w : kx_H} : kx_ex (wm_16 d C) (f + 1) 2 [(0, kx_r 0 x0), (1, kx_r 2 x1), (2, kx_i x2)] [] w = mb_16_2 (kx_ex (wm_16 d C) f) d C x0 x1 x2 w := Eq.trans rfl rfl
def mb_16_34 (J : Nat → kx_F) (d : Nat) (C : kx_C) (x0 : Option Nat) (x1 : Option Nat) (x2 : Int32) (w : kx_H) : kx_O := J 2 [(0, kx_r 0 x0), (1, kx_r 2 x1), (2, kx_i (x2 + 1))] [] w
theorem me_16_34 {f d : Nat} {C : kx_C} {x0 : Option Nat} {x1 : Option Nat} {x2 : Int32} {w : kx_H} : kx_ex (wm_16 d C) (f + 1) 34 [(0, kx_r 0 x0), (1, kx_r 2 x1), (2, kx_i x2)] [] w = mb_16_34 (kx_ex (wm_16 d C) f) d C x0 x1 x2 w := Eq.trans rfl rfl
/-! TaskDesk.takeValue(LTaskDesk$Channel;)J -/
def mb_17_0 (J : Nat → kx_F) (d : Nat) (C : kx_C) (x0 : Option Nat) (x1 : Option Nat) (w : kx_H) : kx_O := x1.bind fun a1 => if hp_R w 416 a1 = none then (some (.inl (some (.inr (.inl (0 : Int64)))), w))
  else (x1.bind fun a4 => kx_bv (C 18 [kx_r 2 (some a4)] w) fun w2 =>
    x0.bind fun a7 => kx_bv (C 9 [kx_r 0 (some a7), kx_r 8 (hp_R w 416 a1)] w2) fun w5 =>
    (hp_R w 416 a1).bind fun a8 => some (.inl (some (.inr (.inl (hp_L w5 1600 a8)))), w5))
theorem me_17_0 {f d : Nat} {C : kx_C} {x0 : Option Nat} {x1 : Option Nat} {w : kx_H} : kx_ex (wm_17 d C) (f + 1) 0 [(0, kx_r 0 x0), (1, kx_r 2 x1)] [] w = mb_17_0 (kx_ex (wm_17 d C) f) d C x0 x1 w := Eq.trans rfl rfl
theorem mE_17 {φ d : Nat} (hφ : kx_fuel = φ + 1) {x0 : Option Nat} {x1 : Option Nat} {w : kx_H} : kx_ev wx_M (d + 1) 17 [kx_r 0 x0, kx_r 2 x1] w = mb_17_0 (kx_ex (wm_17 d (kx_ev wx_M d)) φ) d (kx_ev wx_M d) x0 x1 w := by
  show kx_ex (wx_M 17 d (kx_ev wx_M d)) kx_fuel 0 [(0, kx_r 0 x0), (1, kx_r 2 x1)] [] w = _
  rw [show wx_M 17 d (kx_ev wx_M d) = wm_17 d (kx_ev wx_M d) from rfl, hφ]
  exact me_17_0
/-! TaskDesk$Channel.removeFirst()V -/
def mb_18_0 (J : Nat → kx_F) (d : Nat) (C : kx_C) (x0 : Option Nat) (w : kx_H) : kx_O := x0.bind fun a1 => if hp_R w 416 a1 = none then (some (.inl none, w))
  else (x0.bind fun a2 => (hp_R w 416 a2).bind fun a3 => x0.bind fun a4 => let w5 := hp_sR w 416 a4 (hp_R w 1602 a3);
    x0.bind fun a6 => if hp_R w5 416 a6 = none then (x0.bind fun a7 => let w8 := hp_sR w5 418 a7 none;
      J 31 [(0, kx_r 2 x0)] [] w8)
    else (J 31 [(0, kx_r 2 x0)] [] w5))
theorem me_18_0 {f d : Nat} {C : kx_C} {x0 : Option Nat} {w : kx_H} : kx_ex (wm_18 d C) (f + 1) 0 [(0, kx_r 2 x0)] [] w = mb_18_0 (kx_ex (wm_18 d C) f) d C x0 w := Eq.trans rfl rfl
theorem mE_18 {φ d : Nat} (hφ : kx_fuel = φ + 1) {x0 : Option Nat} {w : kx_H} : kx_ev wx_M (d + 1) 18 [kx_r 2 x0] w = mb_18_0 (kx_ex (wm_18 d (kx_ev wx_M d)) φ) d (kx_ev wx_M d) x0 w := by
  show kx_ex (wx_M 18 d (kx_ev wx_M d)) kx_fuel 0 [(0, kx_r 2 x0)] [] w = _
  rw [show wx_M 18 d (kx_ev wx_M d) = wm_18 d (kx_ev wx_M d) from rfl, hφ]
  exact me_18_0
def mb_18_31 (J : Nat → kx_F) (d : Nat) (C : kx_C) (x0 : Option Nat) (w : kx_H) : kx_O := x0.bind fun a1 => x0.bind fun a2 => let w3 := hp_sI w 412 a2 ((hp_I w 412 a1) - (1 : Int32));
  some (.inl none, w3)
theorem me_18_31 {f d : Nat} {C : kx_C} {x0 : Option Nat} {w : kx_H} : kx_ex (wm_18 d C) (f + 1) 31 [(0, kx_r 2 x0)] [] w = mb_18_31 (kx_ex (wm_18 d C) f) d C x0 w := Eq.trans rfl rfl
/-! TaskDesk.current()I -/
def mb_19_0 (J : Nat → kx_F) (d : Nat) (C : kx_C) (x0 : Option Nat) (w : kx_H) : kx_O := x0.bind fun a1 => if hp_R w 6 a1 = none then (J 18 [] [kx_i ((-1) : Int32)] w)
  else (x0.bind fun a2 => (hp_R w 6 a2).bind fun a3 => J 18 [] [kx_i (hp_I w 1200 a3)] w)
theorem me_19_0 {f d : Nat} {C : kx_C} {x0 : Option Nat} {w : kx_H} : kx_ex (wm_19 d C) (f + 1) 0 [(0, kx_r 0 x0)] [] w = mb_19_0 (kx_ex (wm_19 d C) f) d C x0 w := Eq.trans rfl rfl
theorem mE_19 {φ d : Nat} (hφ : kx_fuel = φ + 1) {x0 : Option Nat} {w : kx_H} : kx_ev wx_M (d + 1) 19 [kx_r 0 x0] w = mb_19_0 (kx_ex (wm_19 d (kx_ev wx_M d)) φ) d (kx_ev wx_M d) x0 w := by
  show kx_ex (wx_M 19 d (kx_ev wx_M d)) kx_fuel 0 [(0, kx_r 0 x0)] [] w = _
  rw [show wx_M 19 d (kx_ev wx_M d) = wm_19 d (kx_ev wx_M d) from rfl, hφ]
  exact me_19_0
def mb_19_18 (J : Nat → kx_F) (d : Nat) (C : kx_C) (xs0 : Int32) (w : kx_H) : kx_O := some (.inl (some (.inl xs0)), w)
theorem me_19_18 {f d : Nat} {C : kx_C} {xs0 : Int32} {w : kx_H} : kx_ex (wm_19 d C) (f + 1) 18 [] [kx_i xs0] w = mb_19_18 (kx_ex (wm_19 d C) f) d C xs0 w := Eq.trans rfl rfl
/-! TaskDesk.clock()J -/
def mb_20_0 (J : Nat → kx_F) (d : Nat) (C : kx_C) (x0 : Option Nat) (w : kx_H) : kx_O := x0.bind fun a1 => some (.inl (some (.inr (.inl (hp_L w 10 a1)))), w)
theorem me_20_0 {f d : Nat} {C : kx_C} {x0 : Option Nat} {w : kx_H} : kx_ex (wm_20 d C) (f + 1) 0 [(0, kx_r 0 x0)] [] w = mb_20_0 (kx_ex (wm_20 d C) f) d C x0 w := Eq.trans rfl rfl
theorem mE_20 {φ d : Nat} (hφ : kx_fuel = φ + 1) {x0 : Option Nat} {w : kx_H} : kx_ev wx_M (d + 1) 20 [kx_r 0 x0] w = mb_20_0 (kx_ex (wm_20 d (kx_ev wx_M d)) φ) d (kx_ev wx_M d) x0 w := by
  show kx_ex (wx_M 20 d (kx_ev wx_M d)) kx_fuel 0 [(0, kx_r 0 x0)] [] w = _
  rw [show wx_M 20 d (kx_ev wx_M d) = wm_20 d (kx_ev wx_M d) from rfl, hφ]
  exact me_20_0
/-! TaskDesk.count(I)I -/
def mb_21_0 (J : Nat → kx_F) (d : Nat) (C : kx_C) (x0 : Option Nat) (x1 : Int32) (w : kx_H) : kx_O := if x1 = 0 then (x0.bind fun a1 => some (.inl (some (.inl (hp_I w 2 a1))), w))
  else if x1 = 1 then (x0.bind fun a2 => (hp_R w 4 a2).bind fun a3 => some (.inl (some (.inl (hp_I w 1004 a3))), w))
  else if x1 = 2 then (x0.bind fun a4 => some (.inl (some (.inl (hp_I w 20 a4))), w))
  else if x1 = 3 then (x0.bind fun a5 => some (.inl (some (.inl (hp_I w 22 a5))), w))
  else if x1 = 4 then (x0.bind fun a6 => some (.inl (some (.inl (hp_I w 34 a6))), w))
  else if x1 = 5 then (x0.bind fun a7 => some (.inl (some (.inl (hp_I w 14 a7))), w))
  else if x1 = 6 then (x0.bind fun a8 => some (.inl (some (.inl (hp_I w 28 a8))), w))
  else if x1 = 7 then (x0.bind fun a11 => kx_bi (C 22 [kx_r 0 (some a11)] w) fun y10 w9 =>
    some (.inl (some (.inl y10)), w9))
  else (some (.inl (some (.inl ((-1) : Int32))), w))
theorem me_21_0 {f d : Nat} {C : kx_C} {x0 : Option Nat} {x1 : Int32} {w : kx_H} : kx_ex (wm_21 d C) (f + 1) 0 [(0, kx_r 0 x0), (1, kx_i x1)] [] w = mb_21_0 (kx_ex (wm_21 d C) f) d C x0 x1 w := Eq.trans rfl rfl
theorem mE_21 {φ d : Nat} (hφ : kx_fuel = φ + 1) {x0 : Option Nat} {x1 : Int32} {w : kx_H} : kx_ev wx_M (d + 1) 21 [kx_r 0 x0, kx_i x1] w = mb_21_0 (kx_ex (wm_21 d (kx_ev wx_M d)) φ) d (kx_ev wx_M d) x0 x1 w := by
  show kx_ex (wx_M 21 d (kx_ev wx_M d)) kx_fuel 0 [(0, kx_r 0 x0), (1, kx_i x1)] [] w = _
  rw [show wx_M 21 d (kx_ev wx_M d) = wm_21 d (kx_ev wx_M d) from rfl, hφ]
  exact me_21_0
/-! TaskDesk.howItStands()I -/
def mb_22_0 (J : Nat → kx_F) (d : Nat) (C : kx_C) (x0 : Option Nat) (w : kx_H) : kx_O := x0.bind fun a1 => if hp_R w 6 a1 = none then (x0.bind fun a2 => if kx_b (hp_B w 8 a2) = 0 then (J 21 [] [kx_i (2 : Int32)] w)
    else (J 21 [] [kx_i (1 : Int32)] w))
  else (some (.inl (some (.inl (0 : Int32))), w))
theorem me_22_0 {f d : Nat} {C : kx_C} {x0 : Option Nat} {w : kx_H} : kx_ex (wm_22 d C) (f + 1) 0 [(0, kx_r 0 x0)] [] w = mb_22_0 (kx_ex (wm_22 d C) f) d C x0 w := Eq.trans rfl rfl
theorem mE_22 {φ d : Nat} (hφ : kx_fuel = φ + 1) {x0 : Option Nat} {w : kx_H} : kx_ev wx_M (d + 1) 22 [kx_r 0 x0] w = mb_22_0 (kx_ex (wm_22 d (kx_ev wx_M d)) φ) d (kx_ev wx_M d) x0 w := by
  show kx_ex (wx_M 22 d (kx_ev wx_M d)) kx_fuel 0 [(0, kx_r 0 x0)] [] w = _
  rw [show wx_M 22 d (kx_ev wx_M d) = wm_22 d (kx_ev wx_M d) from rfl, hφ]
  exact me_22_0
def mb_22_21 (J : Nat → kx_F) (d : Nat) (C : kx_C) (xs0 : Int32) (w : kx_H) : kx_O := some (.inl (some (.inl xs0)), w)
theorem me_22_21 {f d : Nat} {C : kx_C} {xs0 : Int32} {w : kx_H} : kx_ex (wm_22 d C) (f + 1) 21 [] [kx_i xs0] w = mb_22_21 (kx_ex (wm_22 d C) f) d C xs0 w := Eq.trans rfl rfl
/-! TaskDesk.spawn()I -/
def mb_23_0 (J : Nat → kx_F) (d : Nat) (C : kx_C) (x0 : Option Nat) (w : kx_H) : kx_O := x0.bind fun a3 => kx_br 6 (C 24 [kx_r 0 (some a3)] w) fun y2 w1 =>
  x0.bind fun a6 => kx_br 6 (C 25 [kx_r 0 (some a6)] w1) fun y5 w4 =>
  if y5 = none then (kx_thd kx_cc kx_cs d 0 [(1, kx_r 6 y5), (0, kx_r 0 x0)] [] w4)
  else (y5.bind fun a9 => kx_bv (C 11 [kx_r 6 (some a9)] w4) fun w7 =>
    x0.bind fun a10 => x0.bind fun a11 => let w12 := hp_sI w7 2 a11 ((hp_I w7 2 a10) + (1 : Int32));
    x0.bind fun a15 => kx_bv (C 26 [kx_r 0 (some a15), kx_r 6 y5] w12) fun w13 =>
    y5.bind fun a16 => some (.inl (some (.inl (hp_I w13 1200 a16))), w13))
theorem me_23_0 {f d : Nat} {C : kx_C} {x0 : Option Nat} {w : kx_H} : kx_ex (wm_23 d C) (f + 1) 0 [(0, kx_r 0 x0)] [] w = mb_23_0 (kx_ex (wm_23 d C) f) d C x0 w := Eq.trans rfl rfl
theorem mE_23 {φ d : Nat} (hφ : kx_fuel = φ + 1) {x0 : Option Nat} {w : kx_H} : kx_ev wx_M (d + 1) 23 [kx_r 0 x0] w = mb_23_0 (kx_ex (wm_23 d (kx_ev wx_M d)) φ) d (kx_ev wx_M d) x0 w := by
  show kx_ex (wx_M 23 d (kx_ev wx_M d)) kx_fuel 0 [(0, kx_r 0 x0)] [] w = _
  rw [show wx_M 23 d (kx_ev wx_M d) = wm_23 d (kx_ev wx_M d) from rfl, hφ]
  exact me_23_0
/-! TaskDesk.mustBeCurrent()LTaskDesk$Task; -/
def mb_24_0 (J : Nat → kx_F) (d : Nat) (C : kx_C) (x0 : Option Nat) (w : kx_H) : kx_O := x0.bind fun a1 => if hp_R w 6 a1 = none then (kx_thd kx_cc kx_cs d 0 [(0, kx_r 0 x0)] [] w)
  else (x0.bind fun a2 => some (.inl (some (.inr (.inr (6, hp_R w 6 a2)))), w))
theorem me_24_0 {f d : Nat} {C : kx_C} {x0 : Option Nat} {w : kx_H} : kx_ex (wm_24 d C) (f + 1) 0 [(0, kx_r 0 x0)] [] w = mb_24_0 (kx_ex (wm_24 d C) f) d C x0 w := Eq.trans rfl rfl
theorem mE_24 {φ d : Nat} (hφ : kx_fuel = φ + 1) {x0 : Option Nat} {w : kx_H} : kx_ev wx_M (d + 1) 24 [kx_r 0 x0] w = mb_24_0 (kx_ex (wm_24 d (kx_ev wx_M d)) φ) d (kx_ev wx_M d) x0 w := by
  show kx_ex (wx_M 24 d (kx_ev wx_M d)) kx_fuel 0 [(0, kx_r 0 x0)] [] w = _
  rw [show wx_M 24 d (kx_ev wx_M d) = wm_24 d (kx_ev wx_M d) from rfl, hφ]
  exact me_24_0
/-! TaskDesk.firstFreeTask()LTaskDesk$Task; -/
def mb_25_0 (J : Nat → kx_F) (d : Nat) (C : kx_C) (x0 : Option Nat) (w : kx_H) : kx_O := J 2 [(0, kx_r 0 x0), (1, kx_i (0 : Int32))] [] w
theorem me_25_0 {f d : Nat} {C : kx_C} {x0 : Option Nat} {w : kx_H} : kx_ex (wm_25 d C) (f + 1) 0 [(0, kx_r 0 x0)] [] w = mb_25_0 (kx_ex (wm_25 d C) f) d C x0 w := Eq.trans rfl rfl
theorem mE_25 {φ d : Nat} (hφ : kx_fuel = φ + 1) {x0 : Option Nat} {w : kx_H} : kx_ev wx_M (d + 1) 25 [kx_r 0 x0] w = mb_25_0 (kx_ex (wm_25 d (kx_ev wx_M d)) φ) d (kx_ev wx_M d) x0 w := by
  show kx_ex (wx_M 25 d (kx_ev wx_M d)) kx_fuel 0 [(0, kx_r 0 x0)] [] w = _
  rw [show wx_M 25 d (kx_ev wx_M d) = wm_25 d (kx_ev wx_M d) from rfl, hφ]
  exact me_25_0
def mb_25_2 (J : Nat → kx_F) (d : Nat) (C : kx_C) (x0 : Option Nat) (x1 : Int32) (w : kx_H) : kx_O := if (256 : Int32) ≤ x1 then (some (.inl (some (.inr (.inr (6, none)))), w))
  else (x0.bind fun a1 => (hp_R w 0 a1).bind fun a2 => if x1 < 0 ∨ hp_N w a2 ≤ x1.toNatClampNeg then none else (hp_R w (2 * a2 + 1) x1.toNatClampNeg).bind fun a3 => if kx_b (hp_B w 1204 a3) = 0 then (x0.bind fun a4 => (hp_R w 0 a4).bind fun a5 => if x1 < 0 ∨ hp_N w a5 ≤ x1.toNatClampNeg then none else some (.inl (some (.inr (.inr (6, hp_R w (2 * a5 + 1) x1.toNatClampNeg)))), w))
    else (J 2 [(0, kx_r 0 x0), (1, kx_i (x1 + 1))] [] w))
theorem me_25_2 {f d : Nat} {C : kx_C} {x0 : Option Nat} {x1 : Int32} {w : kx_H} : kx_ex (wm_25 d C) (f + 1) 2 [(0, kx_r 0 x0), (1, kx_i x1)] [] w = mb_25_2 (kx_ex (wm_25 d C) f) d C x0 x1 w := Eq.trans rfl rfl
/-! TaskDesk.makeReady(LTaskDesk$Task;)V -/
def mb_26_0 (J : Nat → kx_F) (d : Nat) (C : kx_C) (x0 : Option Nat) (x1 : Option Nat) (w : kx_H) : kx_O := x0.bind fun a1 => x1.bind fun a4 => kx_bv (C 27 [kx_r 6 (some a4), kx_r 5 (hp_R w 4 a1), kx_i (1 : Int32), kx_i ((-1) : Int32)] w) fun w2 =>
  some (.inl none, w2)
theorem me_26_0 {f d : Nat} {C : kx_C} {x0 : Option Nat} {x1 : Option Nat} {w : kx_H} : kx_ex (wm_26 d C) (f + 1) 0 [(0, kx_r 0 x0), (1, kx_r 6 x1)] [] w = mb_26_0 (kx_ex (wm_26 d C) f) d C x0 x1 w := Eq.trans rfl rfl
theorem mE_26 {φ d : Nat} (hφ : kx_fuel = φ + 1) {x0 : Option Nat} {x1 : Option Nat} {w : kx_H} : kx_ev wx_M (d + 1) 26 [kx_r 0 x0, kx_r 6 x1] w = mb_26_0 (kx_ex (wm_26 d (kx_ev wx_M d)) φ) d (kx_ev wx_M d) x0 x1 w := by
  show kx_ex (wx_M 26 d (kx_ev wx_M d)) kx_fuel 0 [(0, kx_r 0 x0), (1, kx_r 6 x1)] [] w = _
  rw [show wx_M 26 d (kx_ev wx_M d) = wm_26 d (kx_ev wx_M d) from rfl, hφ]
  exact me_26_0
/-! TaskDesk$Task.waitIn(LTaskDesk$Row;II)V -/
def mb_27_0 (J : Nat → kx_F) (d : Nat) (C : kx_C) (x0 : Option Nat) (x1 : Option Nat) (x2 : Int32) (x3 : Int32) (w : kx_H) : kx_O := x0.bind fun a1 => let w2 := hp_sI w 1206 a1 x2;
  x0.bind fun a3 => let w4 := hp_sI w2 1208 a3 x3;
  x0.bind fun a5 => x1.bind fun a8 => kx_bv (C 28 [kx_r 5 (some a8), kx_r 4 (hp_R w4 1202 a5)] w4) fun w6 =>
  some (.inl none, w6)
theorem me_27_0 {f d : Nat} {C : kx_C} {x0 : Option Nat} {x1 : Option Nat} {x2 : Int32} {x3 : Int32} {w : kx_H} : kx_ex (wm_27 d C) (f + 1) 0 [(0, kx_r 6 x0), (1, kx_r 5 x1), (2, kx_i x2), (3, kx_i x3)] [] w = mb_27_0 (kx_ex (wm_27 d C) f) d C x0 x1 x2 x3 w := Eq.trans rfl rfl
theorem mE_27 {φ d : Nat} (hφ : kx_fuel = φ + 1) {x0 : Option Nat} {x1 : Option Nat} {x2 : Int32} {x3 : Int32} {w : kx_H} : kx_ev wx_M (d + 1) 27 [kx_r 6 x0, kx_r 5 x1, kx_i x2, kx_i x3] w = mb_27_0 (kx_ex (wm_27 d (kx_ev wx_M d)) φ) d (kx_ev wx_M d) x0 x1 x2 x3 w := by
  show kx_ex (wx_M 27 d (kx_ev wx_M d)) kx_fuel 0 [(0, kx_r 6 x0), (1, kx_r 5 x1), (2, kx_i x2), (3, kx_i x3)] [] w = _
  rw [show wx_M 27 d (kx_ev wx_M d) = wm_27 d (kx_ev wx_M d) from rfl, hφ]
  exact me_27_0
/-! TaskDesk$Row.append(LTaskDesk$Place;)V -/
def mb_28_0 (J : Nat → kx_F) (d : Nat) (C : kx_C) (x0 : Option Nat) (x1 : Option Nat) (w : kx_H) : kx_O := x1.bind fun a1 => let w2 := hp_sR w 810 a1 x0;
  x0.bind fun a3 => x1.bind fun a4 => let w5 := hp_sR w2 812 a4 (hp_R w2 1002 a3);
  x0.bind fun a6 => if hp_R w5 1002 a6 = none then (x0.bind fun a10 => let w11 := hp_sR w5 1000 a10 x1;
    J 36 [(0, kx_r 5 x0), (1, kx_r 4 x1)] [] w11)
  else (x0.bind fun a7 => (hp_R w5 1002 a7).bind fun a8 => let w9 := hp_sR w5 814 a8 x1;
    J 36 [(0, kx_r 5 x0), (1, kx_r 4 x1)] [] w9)
theorem me_28_0 {f d : Nat} {C : kx_C} {x0 : Option Nat} {x1 : Option Nat} {w : kx_H} : kx_ex (wm_28 d C) (f + 1) 0 [(0, kx_r 5 x0), (1, kx_r 4 x1)] [] w = mb_28_0 (kx_ex (wm_28 d C) f) d C x0 x1 w := Eq.trans rfl rfl
theorem mE_28 {φ d : Nat} (hφ : kx_fuel = φ + 1) {x0 : Option Nat} {x1 : Option Nat} {w : kx_H} : kx_ev wx_M (d + 1) 28 [kx_r 5 x0, kx_r 4 x1] w = mb_28_0 (kx_ex (wm_28 d (kx_ev wx_M d)) φ) d (kx_ev wx_M d) x0 x1 w := by
  show kx_ex (wx_M 28 d (kx_ev wx_M d)) kx_fuel 0 [(0, kx_r 5 x0), (1, kx_r 4 x1)] [] w = _
  rw [show wx_M 28 d (kx_ev wx_M d) = wm_28 d (kx_ev wx_M d) from rfl, hφ]
  exact me_28_0
def mb_28_36 (J : Nat → kx_F) (d : Nat) (C : kx_C) (x0 : Option Nat) (x1 : Option Nat) (w : kx_H) : kx_O := x0.bind fun a1 => let w2 := hp_sR w 1002 a1 x1;
  x0.bind fun a3 => x0.bind fun a4 => let w5 := hp_sI w2 1004 a4 ((hp_I w2 1004 a3) + (1 : Int32));
  some (.inl none, w5)
theorem me_28_36 {f d : Nat} {C : kx_C} {x0 : Option Nat} {x1 : Option Nat} {w : kx_H} : kx_ex (wm_28 d C) (f + 1) 36 [(0, kx_r 5 x0), (1, kx_r 4 x1)] [] w = mb_28_36 (kx_ex (wm_28 d C) f) d C x0 x1 w := Eq.trans rfl rfl
/-! TaskDesk.giveWay()I -/
def mb_29_0 (J : Nat → kx_F) (d : Nat) (C : kx_C) (x0 : Option Nat) (w : kx_H) : kx_O := x0.bind fun a3 => kx_br 6 (C 24 [kx_r 0 (some a3)] w) fun y2 w1 =>
  x0.bind fun a6 => kx_bv (C 26 [kx_r 0 (some a6), kx_r 6 y2] w1) fun w4 =>
  x0.bind fun a9 => kx_bv (C 30 [kx_r 0 (some a9)] w4) fun w7 =>
  x0.bind fun a12 => kx_bi (C 19 [kx_r 0 (some a12)] w7) fun y11 w10 =>
  some (.inl (some (.inl y11)), w10)
theorem me_29_0 {f d : Nat} {C : kx_C} {x0 : Option Nat} {w : kx_H} : kx_ex (wm_29 d C) (f + 1) 0 [(0, kx_r 0 x0)] [] w = mb_29_0 (kx_ex (wm_29 d C) f) d C x0 w := Eq.trans rfl rfl
theorem mE_29 {φ d : Nat} (hφ : kx_fuel = φ + 1) {x0 : Option Nat} {w : kx_H} : kx_ev wx_M (d + 1) 29 [kx_r 0 x0] w = mb_29_0 (kx_ex (wm_29 d (kx_ev wx_M d)) φ) d (kx_ev wx_M d) x0 w := by
  show kx_ex (wx_M 29 d (kx_ev wx_M d)) kx_fuel 0 [(0, kx_r 0 x0)] [] w = _
  rw [show wx_M 29 d (kx_ev wx_M d) = wm_29 d (kx_ev wx_M d) from rfl, hφ]
  exact me_29_0
/-! TaskDesk.goOn()V -/
def mb_30_0 (J : Nat → kx_F) (d : Nat) (C : kx_C) (x0 : Option Nat) (w : kx_H) : kx_O := x0.bind fun a1 => let w2 := hp_sR w 6 a1 none;
  x0.bind fun a3 => (hp_R w2 4 a3).bind fun a4 => if hp_R w2 1000 a4 = none then (J 20 [(0, kx_r 0 x0)] [kx_i (1 : Int32)] w2)
  else (J 20 [(0, kx_r 0 x0)] [kx_i (0 : Int32)] w2)
theorem me_30_0 {f d : Nat} {C : kx_C} {x0 : Option Nat} {w : kx_H} : kx_ex (wm_30 d C) (f + 1) 0 [(0, kx_r 0 x0)] [] w = mb_30_0 (kx_ex (wm_30 d C) f) d C x0 w := Eq.trans rfl rfl
theorem mE_30 {φ d : Nat} (hφ : kx_fuel = φ + 1) {x0 : Option Nat} {w : kx_H} : kx_ev wx_M (d + 1) 30 [kx_r 0 x0] w = mb_30_0 (kx_ex (wm_30 d (kx_ev wx_M d)) φ) d (kx_ev wx_M d) x0 w := by
  show kx_ex (wx_M 30 d (kx_ev wx_M d)) kx_fuel 0 [(0, kx_r 0 x0)] [] w = _
  rw [show wx_M 30 d (kx_ev wx_M d) = wm_30 d (kx_ev wx_M d) from rfl, hφ]
  exact me_30_0
def mb_30_20 (J : Nat → kx_F) (d : Nat) (C : kx_C) (x0 : Option Nat) (xs0 : Int32) (w : kx_H) : kx_O := J 25 [(0, kx_r 0 x0), (1, kx_i xs0), (2, kx_i (512 : Int32))] [] w
theorem me_30_20 {f d : Nat} {C : kx_C} {x0 : Option Nat} {xs0 : Int32} {w : kx_H} : kx_ex (wm_30 d C) (f + 1) 20 [(0, kx_r 0 x0)] [kx_i xs0] w = mb_30_20 (kx_ex (wm_30 d C) f) d C x0 xs0 w := Eq.trans rfl rfl
def mb_30_25 (J : Nat → kx_F) (d : Nat) (C : kx_C) (x0 : Option Nat) (x1 : Int32) (x2 : Int32) (w : kx_H) : kx_O := if x1 = 0 then (J 108 [(0, kx_r 0 x0)] [] w)
  else (if x2 ≤ 0 then (J 108 [(0, kx_r 0 x0)] [] w)
    else (x0.bind fun a1 => (hp_R w 12 a1).bind fun a4 => kx_br 7 (C 31 [kx_r 1 (some a4)] w) fun y3 w2 =>
      if y3 = none then (J 58 [(0, kx_r 0 x0), (2, kx_i x2)] [] w2)
      else (y3.bind fun a5 => x0.bind fun a6 => let w7 := hp_sL w2 10 a6 (hp_L w2 1400 a5);
        x0.bind fun a10 => kx_bv (C 32 [kx_r 0 (some a10), kx_r 7 y3] w7) fun w8 =>
        J 58 [(0, kx_r 0 x0), (2, kx_i x2)] [] w8)))
theorem me_30_25 {f d : Nat} {C : kx_C} {x0 : Option Nat} {x1 : Int32} {x2 : Int32} {w : kx_H} : kx_ex (wm_30 d C) (f + 1) 25 [(0, kx_r 0 x0), (1, kx_i x1), (2, kx_i x2)] [] w = mb_30_25 (kx_ex (wm_30 d C) f) d C x0 x1 x2 w := Eq.trans rfl rfl
def mb_30_58 (J : Nat → kx_F) (d : Nat) (C : kx_C) (x0 : Option Nat) (x2 : Int32) (w : kx_H) : kx_O := x0.bind fun a1 => (hp_R w 12 a1).bind fun a2 => if hp_R w 200 a2 = none then (J 100 [(0, kx_r 0 x0), (2, kx_i x2)] [] w)
  else (x0.bind fun a3 => (hp_R w 4 a3).bind fun a4 => if hp_R w 1000 a4 = none then (J 96 [(0, kx_r 0 x0), (2, kx_i x2)] [] w)
    else (x0.bind fun a5 => (hp_R w 12 a5).bind fun a6 => (hp_R w 200 a6).bind fun a7 => x0.bind fun a8 => if lg_cmp (hp_L w 1400 a7) (hp_L w 10 a8) = 0 then (J 96 [(0, kx_r 0 x0), (2, kx_i x2)] [] w)
      else (J 100 [(0, kx_r 0 x0), (2, kx_i x2)] [] w)))
theorem me_30_58 {f d : Nat} {C : kx_C} {x0 : Option Nat} {x2 : Int32} {w : kx_H} : kx_ex (wm_30 d C) (f + 1) 58 [(0, kx_r 0 x0), (2, kx_i x2)] [] w = mb_30_58 (kx_ex (wm_30 d C) f) d C x0 x2 w := Eq.trans rfl rfl
def mb_30_96 (J : Nat → kx_F) (d : Nat) (C : kx_C) (x0 : Option Nat) (x2 : Int32) (w : kx_H) : kx_O := J 101 [(0, kx_r 0 x0), (2, kx_i x2)] [kx_i (1 : Int32)] w
theorem me_30_96 {f d : Nat} {C : kx_C} {x0 : Option Nat} {x2 : Int32} {w : kx_H} : kx_ex (wm_30 d C) (f + 1) 96 [(0, kx_r 0 x0), (2, kx_i x2)] [] w = mb_30_96 (kx_ex (wm_30 d C) f) d C x0 x2 w := Eq.trans rfl rfl
def mb_30_100 (J : Nat → kx_F) (d : Nat) (C : kx_C) (x0 : Option Nat) (x2 : Int32) (w : kx_H) : kx_O := J 101 [(0, kx_r 0 x0), (2, kx_i x2)] [kx_i (0 : Int32)] w
theorem me_30_100 {f d : Nat} {C : kx_C} {x0 : Option Nat} {x2 : Int32} {w : kx_H} : kx_ex (wm_30 d C) (f + 1) 100 [(0, kx_r 0 x0), (2, kx_i x2)] [] w = mb_30_100 (kx_ex (wm_30 d C) f) d C x0 x2 w := Eq.trans rfl rfl
def mb_30_101 (J : Nat → kx_F) (d : Nat) (C : kx_C) (x0 : Option Nat) (x2 : Int32) (xs0 : Int32) (w : kx_H) : kx_O := J 25 [(0, kx_r 0 x0), (1, kx_i xs0), (2, kx_i (x2 + (-1)))] [] w
theorem me_30_101 {f d : Nat} {C : kx_C} {x0 : Option Nat} {x2 : Int32} {xs0 : Int32} {w : kx_H} : kx_ex (wm_30 d C) (f + 1) 101 [(0, kx_r 0 x0), (2, kx_i x2)] [kx_i xs0] w = mb_30_101 (kx_ex (wm_30 d C) f) d C x0 x2 xs0 w := Eq.trans rfl rfl
def mb_30_108 (J : Nat → kx_F) (d : Nat) (C : kx_C) (x0 : Option Nat) (w : kx_H) : kx_O := x0.bind fun a1 => (hp_R w 4 a1).bind fun a2 => if hp_R w 1000 a2 = none then (J 132 [(0, kx_r 0 x0)] [] w)
  else ((hp_R w 1000 a2).bind fun a5 => kx_bv (C 37 [kx_r 4 (some a5)] w) fun w3 =>
    (hp_R w 1000 a2).bind fun a6 => x0.bind fun a7 => let w8 := hp_sR w3 6 a7 (hp_R w3 800 a6);
    J 132 [(0, kx_r 0 x0)] [] w8)
theorem me_30_108 {f d : Nat} {C : kx_C} {x0 : Option Nat} {w : kx_H} : kx_ex (wm_30 d C) (f + 1) 108 [(0, kx_r 0 x0)] [] w = mb_30_108 (kx_ex (wm_30 d C) f) d C x0 w := Eq.trans rfl rfl
def mb_30_132 (J : Nat → kx_F) (d : Nat) (C : kx_C) (x0 : Option Nat) (w : kx_H) : kx_O := x0.bind fun a1 => if hp_R w 6 a1 = none then (J 147 [] [] w)
  else (x0.bind fun a2 => (hp_R w 6 a2).bind fun a3 => let w4 := hp_sI w 1206 a3 (0 : Int32);
    J 147 [] [] w4)
theorem me_30_132 {f d : Nat} {C : kx_C} {x0 : Option Nat} {w : kx_H} : kx_ex (wm_30 d C) (f + 1) 132 [(0, kx_r 0 x0)] [] w = mb_30_132 (kx_ex (wm_30 d C) f) d C x0 w := Eq.trans rfl rfl
def mb_30_147 (J : Nat → kx_F) (d : Nat) (C : kx_C)  (w : kx_H) : kx_O := some (.inl none, w)
theorem me_30_147 {f d : Nat} {C : kx_C}  {w : kx_H} : kx_ex (wm_30 d C) (f + 1) 147 [] [] w = mb_30_147 (kx_ex (wm_30 d C) f) d C  w := Eq.trans rfl rfl
/-! TaskDesk$Agenda.takeFirst()LTaskDesk$Timer; -/
def mb_31_0 (J : Nat → kx_F) (d : Nat) (C : kx_C) (x0 : Option Nat) (w : kx_H) : kx_O := x0.bind fun a1 => if hp_R w 200 a1 = none then (J 30 [(1, kx_r 7 (hp_R w 200 a1))] [] w)
  else ((hp_R w 200 a1).bind fun a2 => x0.bind fun a3 => let w4 := hp_sR w 200 a3 (hp_R w 1406 a2);
    x0.bind fun a5 => (hp_R w 200 a1).bind fun a6 => let w7 := hp_sR w4 1406 a6 (hp_R w4 202 a5);
    x0.bind fun a8 => let w9 := hp_sR w7 202 a8 (hp_R w 200 a1);
    J 30 [(1, kx_r 7 (hp_R w 200 a1))] [] w9)
theorem me_31_0 {f d : Nat} {C : kx_C} {x0 : Option Nat} {w : kx_H} : kx_ex (wm_31 d C) (f + 1) 0 [(0, kx_r 1 x0)] [] w = mb_31_0 (kx_ex (wm_31 d C) f) d C x0 w := Eq.trans rfl rfl
theorem mE_31 {φ d : Nat} (hφ : kx_fuel = φ + 1) {x0 : Option Nat} {w : kx_H} : kx_ev wx_M (d + 1) 31 [kx_r 1 x0] w = mb_31_0 (kx_ex (wm_31 d (kx_ev wx_M d)) φ) d (kx_ev wx_M d) x0 w := by
  show kx_ex (wx_M 31 d (kx_ev wx_M d)) kx_fuel 0 [(0, kx_r 1 x0)] [] w = _
  rw [show wx_M 31 d (kx_ev wx_M d) = wm_31 d (kx_ev wx_M d) from rfl, hφ]
  exact me_31_0
def mb_31_30 (J : Nat → kx_F) (d : Nat) (C : kx_C) (x1 : Option Nat) (w : kx_H) : kx_O := some (.inl (some (.inr (.inr (7, x1)))), w)
theorem me_31_30 {f d : Nat} {C : kx_C} {x1 : Option Nat} {w : kx_H} : kx_ex (wm_31 d C) (f + 1) 30 [(1, kx_r 7 x1)] [] w = mb_31_30 (kx_ex (wm_31 d C) f) d C x1 w := Eq.trans rfl rfl
/-! TaskDesk.ring(LTaskDesk$Timer;)V -/
def mb_32_0 (J : Nat → kx_F) (d : Nat) (C : kx_C) (x0 : Option Nat) (x1 : Option Nat) (w : kx_H) : kx_O := x1.bind fun a1 => if hp_R w 1402 a1 = none then (J 15 [(0, kx_r 0 x0), (1, kx_r 7 x1)] [] w)
  else (x1.bind fun a2 => x0.bind fun a5 => kx_bv (C 26 [kx_r 0 (some a5), kx_r 6 (hp_R w 1402 a2)] w) fun w3 =>
    J 15 [(0, kx_r 0 x0), (1, kx_r 7 x1)] [] w3)
theorem me_32_0 {f d : Nat} {C : kx_C} {x0 : Option Nat} {x1 : Option Nat} {w : kx_H} : kx_ex (wm_32 d C) (f + 1) 0 [(0, kx_r 0 x0), (1, kx_r 7 x1)] [] w = mb_32_0 (kx_ex (wm_32 d C) f) d C x0 x1 w := Eq.trans rfl rfl
theorem mE_32 {φ d : Nat} (hφ : kx_fuel = φ + 1) {x0 : Option Nat} {x1 : Option Nat} {w : kx_H} : kx_ev wx_M (d + 1) 32 [kx_r 0 x0, kx_r 7 x1] w = mb_32_0 (kx_ex (wm_32 d (kx_ev wx_M d)) φ) d (kx_ev wx_M d) x0 x1 w := by
  show kx_ex (wx_M 32 d (kx_ev wx_M d)) kx_fuel 0 [(0, kx_r 0 x0), (1, kx_r 7 x1)] [] w = _
  rw [show wx_M 32 d (kx_ev wx_M d) = wm_32 d (kx_ev wx_M d) from rfl, hφ]
  exact me_32_0
def mb_32_15 (J : Nat → kx_F) (d : Nat) (C : kx_C) (x0 : Option Nat) (x1 : Option Nat) (w : kx_H) : kx_O := x1.bind fun a1 => if hp_R w 1404 a1 = none then (J 61 [] [] w)
  else ((hp_R w 1404 a1).bind fun a2 => (hp_R w 1404 a1).bind fun a3 => let w4 := hp_sI w 414 a3 ((hp_I w 414 a2) - (1 : Int32));
    x0.bind fun a5 => x0.bind fun a6 => let w7 := hp_sI w4 14 a6 ((hp_I w4 14 a5) - (1 : Int32));
    x0.bind fun a10 => kx_bi (C 33 [kx_r 0 (some a10), kx_r 2 (hp_R w 1404 a1)] w7) fun y9 w8 =>
    if y9 = 0 then (J 61 [] [] w8)
    else (x0.bind fun a11 => x0.bind fun a14 => kx_bv (C 34 [kx_r 0 (some a14), kx_r 2 (hp_R w 1404 a1), kx_l (hp_L w8 10 a11)] w8) fun w12 =>
      J 61 [] [] w12))
theorem me_32_15 {f d : Nat} {C : kx_C} {x0 : Option Nat} {x1 : Option Nat} {w : kx_H} : kx_ex (wm_32 d C) (f + 1) 15 [(0, kx_r 0 x0), (1, kx_r 7 x1)] [] w = mb_32_15 (kx_ex (wm_32 d C) f) d C x0 x1 w := Eq.trans rfl rfl
def mb_32_61 (J : Nat → kx_F) (d : Nat) (C : kx_C)  (w : kx_H) : kx_O := some (.inl none, w)
theorem me_32_61 {f d : Nat} {C : kx_C}  {w : kx_H} : kx_ex (wm_32 d C) (f + 1) 61 [] [] w = mb_32_61 (kx_ex (wm_32 d C) f) d C  w := Eq.trans rfl rfl
/-! TaskDesk.takesAtOnce(LTaskDesk$Channel;)Z -/
def mb_33_0 (J : Nat → kx_F) (d : Nat) (C : kx_C) (x0 : Option Nat) (x1 : Option Nat) (w : kx_H) : kx_O := x1.bind fun a1 => (hp_R w 404 a1).bind fun a2 => if hp_R w 1000 a2 = none then (x1.bind fun a3 => x1.bind fun a4 => if hp_I w 410 a4 ≤ hp_I w 412 a3 then (J 26 [(0, kx_r 0 x0), (1, kx_r 2 x1)] [kx_i (0 : Int32)] w)
    else (J 21 [(0, kx_r 0 x0), (1, kx_r 2 x1)] [] w))
  else (J 21 [(0, kx_r 0 x0), (1, kx_r 2 x1)] [] w)
theorem me_33_0 {f d : Nat} {C : kx_C} {x0 : Option Nat} {x1 : Option Nat} {w : kx_H} : kx_ex (wm_33 d C) (f + 1) 0 [(0, kx_r 0 x0), (1, kx_r 2 x1)] [] w = mb_33_0 (kx_ex (wm_33 d C) f) d C x0 x1 w := Eq.trans rfl rfl
theorem mE_33 {φ d : Nat} (hφ : kx_fuel = φ + 1) {x0 : Option Nat} {x1 : Option Nat} {w : kx_H} : kx_ev wx_M (d + 1) 33 [kx_r 0 x0, kx_r 2 x1] w = mb_33_0 (kx_ex (wm_33 d (kx_ev wx_M d)) φ) d (kx_ev wx_M d) x0 x1 w := by
  show kx_ex (wx_M 33 d (kx_ev wx_M d)) kx_fuel 0 [(0, kx_r 0 x0), (1, kx_r 2 x1)] [] w = _
  rw [show wx_M 33 d (kx_ev wx_M d) = wm_33 d (kx_ev wx_M d) from rfl, hφ]
  exact me_33_0
def mb_33_21 (J : Nat → kx_F) (d : Nat) (C : kx_C) (x0 : Option Nat) (x1 : Option Nat) (w : kx_H) : kx_O := J 26 [(0, kx_r 0 x0), (1, kx_r 2 x1)] [kx_i (1 : Int32)] w
theorem me_33_21 {f d : Nat} {C : kx_C} {x0 : Option Nat} {x1 : Option Nat} {w : kx_H} : kx_ex (wm_33 d C) (f + 1) 21 [(0, kx_r 0 x0), (1, kx_r 2 x1)] [] w = mb_33_21 (kx_ex (wm_33 d C) f) d C x0 x1 w := Eq.trans rfl rfl
def mb_33_26 (J : Nat → kx_F) (d : Nat) (C : kx_C) (x0 : Option Nat) (x1 : Option Nat) (xs0 : Int32) (w : kx_H) : kx_O := x0.bind fun a1 => if x1 = hp_R w 18 a1 then (J 50 [] [] w)
  else (x1.bind fun a2 => if kx_b (hp_B w 408 a2) = 0 then (if xs0 = 0 then (J 50 [] [] w)
      else (J 51 [] [kx_i (1 : Int32)] w))
    else (J 50 [] [] w))
theorem me_33_26 {f d : Nat} {C : kx_C} {x0 : Option Nat} {x1 : Option Nat} {xs0 : Int32} {w : kx_H} : kx_ex (wm_33 d C) (f + 1) 26 [(0, kx_r 0 x0), (1, kx_r 2 x1)] [kx_i xs0] w = mb_33_26 (kx_ex (wm_33 d C) f) d C x0 x1 xs0 w := Eq.trans rfl rfl
def mb_33_50 (J : Nat → kx_F) (d : Nat) (C : kx_C)  (w : kx_H) : kx_O := J 51 [] [kx_i (0 : Int32)] w
theorem me_33_50 {f d : Nat} {C : kx_C}  {w : kx_H} : kx_ex (wm_33 d C) (f + 1) 50 [] [] w = mb_33_50 (kx_ex (wm_33 d C) f) d C  w := Eq.trans rfl rfl
def mb_33_51 (J : Nat → kx_F) (d : Nat) (C : kx_C) (xs0 : Int32) (w : kx_H) : kx_O := if xs0 = 0 ∨ xs0 = 1 then some (.inl (some (.inl xs0)), w) else none
theorem me_33_51 {f d : Nat} {C : kx_C} {xs0 : Int32} {w : kx_H} : kx_ex (wm_33 d C) (f + 1) 51 [] [kx_i xs0] w = mb_33_51 (kx_ex (wm_33 d C) f) d C xs0 w := Eq.trans rfl rfl
/-! TaskDesk.pass(LTaskDesk$Channel;J)V -/
def mb_34_0 (J : Nat → kx_F) (d : Nat) (C : kx_C) (x0 : Option Nat) (x1 : Option Nat) (x2 : Int64) (w : kx_H) : kx_O := x1.bind fun a1 => (hp_R w 404 a1).bind fun a2 => if hp_R w 1000 a2 = none then (x0.bind fun a5 => kx_bv (C 38 [kx_r 0 (some a5), kx_r 2 x1, kx_l x2] w) fun w3 =>
    J 32 [] [] w3)
  else (x0.bind fun a8 => kx_bv (C 35 [kx_r 0 (some a8), kx_r 4 (hp_R w 1000 a2), kx_l x2, kx_i (1 : Int32), kx_i (0 : Int32)] w) fun w6 =>
    J 32 [] [] w6)
theorem me_34_0 {f d : Nat} {C : kx_C} {x0 : Option Nat} {x1 : Option Nat} {x2 : Int64} {w : kx_H} : kx_ex (wm_34 d C) (f + 1) 0 [(0, kx_r 0 x0), (1, kx_r 2 x1), (2, kx_l x2)] [] w = mb_34_0 (kx_ex (wm_34 d C) f) d C x0 x1 x2 w := Eq.trans rfl rfl
theorem mE_34 {φ d : Nat} (hφ : kx_fuel = φ + 1) {x0 : Option Nat} {x1 : Option Nat} {x2 : Int64} {w : kx_H} : kx_ev wx_M (d + 1) 34 [kx_r 0 x0, kx_r 2 x1, kx_l x2] w = mb_34_0 (kx_ex (wm_34 d (kx_ev wx_M d)) φ) d (kx_ev wx_M d) x0 x1 x2 w := by
  show kx_ex (wx_M 34 d (kx_ev wx_M d)) kx_fuel 0 [(0, kx_r 0 x0), (1, kx_r 2 x1), (2, kx_l x2)] [] w = _
  rw [show wx_M 34 d (kx_ev wx_M d) = wm_34 d (kx_ev wx_M d) from rfl, hφ]
  exact me_34_0
def mb_34_32 (J : Nat → kx_F) (d : Nat) (C : kx_C)  (w : kx_H) : kx_O := some (.inl none, w)
theorem me_34_32 {f d : Nat} {C : kx_C}  {w : kx_H} : kx_ex (wm_34 d C) (f + 1) 32 [] [] w = mb_34_32 (kx_ex (wm_34 d C) f) d C  w := Eq.trans rfl rfl
/-! TaskDesk.wake(LTaskDesk$Place;JZZ)V -/
def mb_35_0 (J : Nat → kx_F) (d : Nat) (C : kx_C) (x0 : Option Nat) (x1 : Option Nat) (x2 : Int64) (x4 : Int32) (x5 : Int32) (w : kx_H) : kx_O := x1.bind fun a1 => if hp_R w 800 a1 = none then (J 42 [] [] w)
  else (x1.bind fun a2 => (hp_R w 800 a1).bind fun a5 => kx_bv (C 12 [kx_r 6 (some a5), kx_l x2, kx_i x4, kx_i (hp_I w 808 a2), kx_i x5] w) fun w3 =>
    x0.bind fun a8 => kx_bv (C 36 [kx_r 0 (some a8), kx_r 6 (hp_R w 800 a1)] w3) fun w6 =>
    x0.bind fun a9 => (hp_R w 800 a1).bind fun a12 => kx_bv (C 27 [kx_r 6 (some a12), kx_r 5 (hp_R w6 4 a9), kx_i (1 : Int32), kx_i ((-1) : Int32)] w6) fun w10 =>
    J 42 [] [] w10)
theorem me_35_0 {f d : Nat} {C : kx_C} {x0 : Option Nat} {x1 : Option Nat} {x2 : Int64} {x4 : Int32} {x5 : Int32} {w : kx_H} : kx_ex (wm_35 d C) (f + 1) 0 [(0, kx_r 0 x0), (1, kx_r 4 x1), (2, kx_l x2), (4, kx_i x4), (5, kx_i x5)] [] w = mb_35_0 (kx_ex (wm_35 d C) f) d C x0 x1 x2 x4 x5 w := Eq.trans rfl rfl
theorem mE_35 {φ d : Nat} (hφ : kx_fuel = φ + 1) {x0 : Option Nat} {x1 : Option Nat} {x2 : Int64} {x4 : Int32} {x5 : Int32} {w : kx_H} : kx_ev wx_M (d + 1) 35 [kx_r 0 x0, kx_r 4 x1, kx_l x2, kx_i x4, kx_i x5] w = mb_35_0 (kx_ex (wm_35 d (kx_ev wx_M d)) φ) d (kx_ev wx_M d) x0 x1 x2 x4 x5 w := by
  show kx_ex (wx_M 35 d (kx_ev wx_M d)) kx_fuel 0 [(0, kx_r 0 x0), (1, kx_r 4 x1), (2, kx_l x2), (4, kx_i x4), (5, kx_i x5)] [] w = _
  rw [show wx_M 35 d (kx_ev wx_M d) = wm_35 d (kx_ev wx_M d) from rfl, hφ]
  exact me_35_0
def mb_35_42 (J : Nat → kx_F) (d : Nat) (C : kx_C)  (w : kx_H) : kx_O := some (.inl none, w)
theorem me_35_42 {f d : Nat} {C : kx_C}  {w : kx_H} : kx_ex (wm_35 d C) (f + 1) 42 [] [] w = mb_35_42 (kx_ex (wm_35 d C) f) d C  w := Eq.trans rfl rfl
/-! TaskDesk.takeOut(LTaskDesk$Task;)V -/
def mb_36_0 (J : Nat → kx_F) (d : Nat) (C : kx_C) (x0 : Option Nat) (x1 : Option Nat) (w : kx_H) : kx_O := x1.bind fun a1 => (hp_R w 1202 a1).bind fun a4 => kx_bv (C 37 [kx_r 4 (some a4)] w) fun w2 =>
  x1.bind fun a5 => x1.bind fun a6 => let w7 := hp_sR w2 1210 a6 none;
  J 20 [(0, kx_r 0 x0), (2, kx_r 4 (hp_R w2 1210 a5)), (3, kx_i (16 : Int32))] [] w7
theorem me_36_0 {f d : Nat} {C : kx_C} {x0 : Option Nat} {x1 : Option Nat} {w : kx_H} : kx_ex (wm_36 d C) (f + 1) 0 [(0, kx_r 0 x0), (1, kx_r 6 x1)] [] w = mb_36_0 (kx_ex (wm_36 d C) f) d C x0 x1 w := Eq.trans rfl rfl
theorem mE_36 {φ d : Nat} (hφ : kx_fuel = φ + 1) {x0 : Option Nat} {x1 : Option Nat} {w : kx_H} : kx_ev wx_M (d + 1) 36 [kx_r 0 x0, kx_r 6 x1] w = mb_36_0 (kx_ex (wm_36 d (kx_ev wx_M d)) φ) d (kx_ev wx_M d) x0 x1 w := by
  show kx_ex (wx_M 36 d (kx_ev wx_M d)) kx_fuel 0 [(0, kx_r 0 x0), (1, kx_r 6 x1)] [] w = _
  rw [show wx_M 36 d (kx_ev wx_M d) = wm_36 d (kx_ev wx_M d) from rfl, hφ]
  exact me_36_0
def mb_36_20 (J : Nat → kx_F) (d : Nat) (C : kx_C) (x0 : Option Nat) (x2 : Option Nat) (x3 : Int32) (w : kx_H) : kx_O := if x3 ≤ 0 then (J 52 [] [] w)
  else (if x2 = none then (J 52 [] [] w)
    else (x2.bind fun a1 => x2.bind fun a4 => kx_bv (C 37 [kx_r 4 (some a4)] w) fun w2 =>
      x0.bind fun a7 => kx_bv (C 10 [kx_r 0 (some a7), kx_r 4 x2] w2) fun w5 =>
      J 20 [(0, kx_r 0 x0), (2, kx_r 4 (hp_R w 816 a1)), (3, kx_i (x3 + (-1)))] [] w5))
theorem me_36_20 {f d : Nat} {C : kx_C} {x0 : Option Nat} {x2 : Option Nat} {x3 : Int32} {w : kx_H} : kx_ex (wm_36 d C) (f + 1) 20 [(0, kx_r 0 x0), (2, kx_r 4 x2), (3, kx_i x3)] [] w = mb_36_20 (kx_ex (wm_36 d C) f) d C x0 x2 x3 w := Eq.trans rfl rfl
def mb_36_52 (J : Nat → kx_F) (d : Nat) (C : kx_C)  (w : kx_H) : kx_O := some (.inl none, w)
theorem me_36_52 {f d : Nat} {C : kx_C}  {w : kx_H} : kx_ex (wm_36 d C) (f + 1) 52 [] [] w = mb_36_52 (kx_ex (wm_36 d C) f) d C  w := Eq.trans rfl rfl
/-! TaskDesk$Place.stepOut()V -/
def mb_37_0 (J : Nat → kx_F) (d : Nat) (C : kx_C) (x0 : Option Nat) (w : kx_H) : kx_O := x0.bind fun a1 => if hp_R w 810 a1 = none then (some (.inl none, w))
  else (x0.bind fun a2 => if hp_R w 812 a2 = none then (x0.bind fun a7 => x0.bind fun a8 => (hp_R w 810 a7).bind fun a9 => let w10 := hp_sR w 1000 a9 (hp_R w 814 a8);
      J 40 [(0, kx_r 4 x0)] [] w10)
    else (x0.bind fun a3 => x0.bind fun a4 => (hp_R w 812 a3).bind fun a5 => let w6 := hp_sR w 814 a5 (hp_R w 814 a4);
      J 40 [(0, kx_r 4 x0)] [] w6))
theorem me_37_0 {f d : Nat} {C : kx_C} {x0 : Option Nat} {w : kx_H} : kx_ex (wm_37 d C) (f + 1) 0 [(0, kx_r 4 x0)] [] w = mb_37_0 (kx_ex (wm_37 d C) f) d C x0 w := Eq.trans rfl rfl
theorem mE_37 {φ d : Nat} (hφ : kx_fuel = φ + 1) {x0 : Option Nat} {w : kx_H} : kx_ev wx_M (d + 1) 37 [kx_r 4 x0] w = mb_37_0 (kx_ex (wm_37 d (kx_ev wx_M d)) φ) d (kx_ev wx_M d) x0 w := by
  show kx_ex (wx_M 37 d (kx_ev wx_M d)) kx_fuel 0 [(0, kx_r 4 x0)] [] w = _
  rw [show wx_M 37 d (kx_ev wx_M d) = wm_37 d (kx_ev wx_M d) from rfl, hφ]
  exact me_37_0
def mb_37_40 (J : Nat → kx_F) (d : Nat) (C : kx_C) (x0 : Option Nat) (w : kx_H) : kx_O := x0.bind fun a1 => if hp_R w 814 a1 = none then (x0.bind fun a6 => x0.bind fun a7 => (hp_R w 810 a6).bind fun a8 => let w9 := hp_sR w 1002 a8 (hp_R w 812 a7);
    J 72 [(0, kx_r 4 x0)] [] w9)
  else (x0.bind fun a2 => x0.bind fun a3 => (hp_R w 814 a2).bind fun a4 => let w5 := hp_sR w 812 a4 (hp_R w 812 a3);
    J 72 [(0, kx_r 4 x0)] [] w5)
theorem me_37_40 {f d : Nat} {C : kx_C} {x0 : Option Nat} {w : kx_H} : kx_ex (wm_37 d C) (f + 1) 40 [(0, kx_r 4 x0)] [] w = mb_37_40 (kx_ex (wm_37 d C) f) d C x0 w := Eq.trans rfl rfl
def mb_37_72 (J : Nat → kx_F) (d : Nat) (C : kx_C) (x0 : Option Nat) (w : kx_H) : kx_O := x0.bind fun a1 => (hp_R w 810 a1).bind fun a2 => (hp_R w 810 a1).bind fun a3 => let w4 := hp_sI w 1004 a3 ((hp_I w 1004 a2) - (1 : Int32));
  x0.bind fun a5 => let w6 := hp_sR w4 810 a5 none;
  x0.bind fun a7 => let w8 := hp_sR w6 812 a7 none;
  x0.bind fun a9 => let w10 := hp_sR w8 814 a9 none;
  some (.inl none, w10)
theorem me_37_72 {f d : Nat} {C : kx_C} {x0 : Option Nat} {w : kx_H} : kx_ex (wm_37 d C) (f + 1) 72 [(0, kx_r 4 x0)] [] w = mb_37_72 (kx_ex (wm_37 d C) f) d C x0 w := Eq.trans rfl rfl
/-! TaskDesk.putValue(LTaskDesk$Channel;J)V -/
def mb_38_0 (J : Nat → kx_F) (d : Nat) (C : kx_C) (x0 : Option Nat) (x1 : Option Nat) (x2 : Int64) (w : kx_H) : kx_O := x0.bind fun a1 => if hp_R w 24 a1 = none then (J 32 [] [] w)
  else ((hp_R w 24 a1).bind fun a2 => x0.bind fun a3 => let w4 := hp_sR w 24 a3 (hp_R w 1602 a2);
    (hp_R w 24 a1).bind fun a5 => let w6 := hp_sL w4 1600 a5 x2;
    x1.bind fun a9 => kx_bv (C 39 [kx_r 2 (some a9), kx_r 8 (hp_R w 24 a1)] w6) fun w7 =>
    J 32 [] [] w7)
theorem me_38_0 {f d : Nat} {C : kx_C} {x0 : Option Nat} {x1 : Option Nat} {x2 : Int64} {w : kx_H} : kx_ex (wm_38 d C) (f + 1) 0 [(0, kx_r 0 x0), (1, kx_r 2 x1), (2, kx_l x2)] [] w = mb_38_0 (kx_ex (wm_38 d C) f) d C x0 x1 x2 w := Eq.trans rfl rfl
theorem mE_38 {φ d : Nat} (hφ : kx_fuel = φ + 1) {x0 : Option Nat} {x1 : Option Nat} {x2 : Int64} {w : kx_H} : kx_ev wx_M (d + 1) 38 [kx_r 0 x0, kx_r 2 x1, kx_l x2] w = mb_38_0 (kx_ex (wm_38 d (kx_ev wx_M d)) φ) d (kx_ev wx_M d) x0 x1 x2 w := by
  show kx_ex (wx_M 38 d (kx_ev wx_M d)) kx_fuel 0 [(0, kx_r 0 x0), (1, kx_r 2 x1), (2, kx_l x2)] [] w = _
  rw [show wx_M 38 d (kx_ev wx_M d) = wm_38 d (kx_ev wx_M d) from rfl, hφ]
  exact me_38_0
def mb_38_32 (J : Nat → kx_F) (d : Nat) (C : kx_C)  (w : kx_H) : kx_O := some (.inl none, w)
theorem me_38_32 {f d : Nat} {C : kx_C}  {w : kx_H} : kx_ex (wm_38 d C) (f + 1) 32 [] [] w = mb_38_32 (kx_ex (wm_38 d C) f) d C  w := Eq.trans rfl rfl
/-! TaskDesk$Channel.append(LTaskDesk$Value;)V -/
def mb_39_0 (J : Nat → kx_F) (d : Nat) (C : kx_C) (x0 : Option Nat) (x1 : Option Nat) (w : kx_H) : kx_O := x1.bind fun a1 => let w2 := hp_sR w 1602 a1 none;
  x0.bind fun a3 => if hp_R w2 418 a3 = none then (x0.bind fun a7 => let w8 := hp_sR w2 416 a7 x1;
    J 28 [(0, kx_r 2 x0), (1, kx_r 8 x1)] [] w8)
  else (x0.bind fun a4 => (hp_R w2 418 a4).bind fun a5 => let w6 := hp_sR w2 1602 a5 x1;
    J 28 [(0, kx_r 2 x0), (1, kx_r 8 x1)] [] w6)
theorem me_39_0 {f d : Nat} {C : kx_C} {x0 : Option Nat} {x1 : Option Nat} {w : kx_H} : kx_ex (wm_39 d C) (f + 1) 0 [(0, kx_r 2 x0), (1, kx_r 8 x1)] [] w = mb_39_0 (kx_ex (wm_39 d C) f) d C x0 x1 w := Eq.trans rfl rfl
theorem mE_39 {φ d : Nat} (hφ : kx_fuel = φ + 1) {x0 : Option Nat} {x1 : Option Nat} {w : kx_H} : kx_ev wx_M (d + 1) 39 [kx_r 2 x0, kx_r 8 x1] w = mb_39_0 (kx_ex (wm_39 d (kx_ev wx_M d)) φ) d (kx_ev wx_M d) x0 x1 w := by
  show kx_ex (wx_M 39 d (kx_ev wx_M d)) kx_fuel 0 [(0, kx_r 2 x0), (1, kx_r 8 x1)] [] w = _
  rw [show wx_M 39 d (kx_ev wx_M d) = wm_39 d (kx_ev wx_M d) from rfl, hφ]
  exact me_39_0
def mb_39_28 (J : Nat → kx_F) (d : Nat) (C : kx_C) (x0 : Option Nat) (x1 : Option Nat) (w : kx_H) : kx_O := x0.bind fun a1 => let w2 := hp_sR w 418 a1 x1;
  x0.bind fun a3 => x0.bind fun a4 => let w5 := hp_sI w2 412 a4 ((hp_I w2 412 a3) + (1 : Int32));
  some (.inl none, w5)
theorem me_39_28 {f d : Nat} {C : kx_C} {x0 : Option Nat} {x1 : Option Nat} {w : kx_H} : kx_ex (wm_39 d C) (f + 1) 28 [(0, kx_r 2 x0), (1, kx_r 8 x1)] [] w = mb_39_28 (kx_ex (wm_39 d C) f) d C x0 x1 w := Eq.trans rfl rfl
/-! TaskDesk.finish()I -/
def mb_40_0 (J : Nat → kx_F) (d : Nat) (C : kx_C) (x0 : Option Nat) (w : kx_H) : kx_O := x0.bind fun a3 => kx_br 6 (C 24 [kx_r 0 (some a3)] w) fun y2 w1 =>
  y2.bind fun a4 => if hp_I w1 1200 a4 = 0 then (x0.bind fun a15 => kx_bv (C 41 [kx_r 0 (some a15)] w1) fun w13 =>
    J 38 [(0, kx_r 0 x0)] [] w13)
  else (y2.bind fun a5 => kx_sb (0 : Int32) fun b9 => let w6 := hp_sB w1 1204 a5 b9;
    x0.bind fun a7 => x0.bind fun a8 => let w9 := hp_sI w6 2 a8 ((hp_I w6 2 a7) - (1 : Int32));
      x0.bind fun a12 => kx_bv (C 30 [kx_r 0 (some a12)] w9) fun w10 =>
      J 38 [(0, kx_r 0 x0)] [] w10)
theorem me_40_0 {f d : Nat} {C : kx_C} {x0 : Option Nat} {w : kx_H} : kx_ex (wm_40 d C) (f + 1) 0 [(0, kx_r 0 x0)] [] w = mb_40_0 (kx_ex (wm_40 d C) f) d C x0 w := Eq.trans rfl rfl
theorem mE_40 {φ d : Nat} (hφ : kx_fuel = φ + 1) {x0 : Option Nat} {w : kx_H} : kx_ev wx_M (d + 1) 40 [kx_r 0 x0] w = mb_40_0 (kx_ex (wm_40 d (kx_ev wx_M d)) φ) d (kx_ev wx_M d) x0 w := by
  show kx_ex (wx_M 40 d (kx_ev wx_M d)) kx_fuel 0 [(0, kx_r 0 x0)] [] w = _
  rw [show wx_M 40 d (kx_ev wx_M d) = wm_40 d (kx_ev wx_M d) from rfl, hφ]
  exact me_40_0
def mb_40_38 (J : Nat → kx_F) (d : Nat) (C : kx_C) (x0 : Option Nat) (w : kx_H) : kx_O := x0.bind fun a3 => kx_bi (C 19 [kx_r 0 (some a3)] w) fun y2 w1 =>
  some (.inl (some (.inl y2)), w1)
theorem me_40_38 {f d : Nat} {C : kx_C} {x0 : Option Nat} {w : kx_H} : kx_ex (wm_40 d C) (f + 1) 38 [(0, kx_r 0 x0)] [] w = mb_40_38 (kx_ex (wm_40 d C) f) d C x0 w := Eq.trans rfl rfl
/-! TaskDesk.endAll()V -/
def mb_41_0 (J : Nat → kx_F) (d : Nat) (C : kx_C) (x0 : Option Nat) (w : kx_H) : kx_O := J 2 [(0, kx_r 0 x0), (1, kx_i (0 : Int32))] [] w
theorem me_41_0 {f d : Nat} {C : kx_C} {x0 : Option Nat} {w : kx_H} : kx_ex (wm_41 d C) (f + 1) 0 [(0, kx_r 0 x0)] [] w = mb_41_0 (kx_ex (wm_41 d C) f) d C x0 w := Eq.trans rfl rfl
theorem mE_41 {φ d : Nat} (hφ : kx_fuel = φ + 1) {x0 : Option Nat} {w : kx_H} : kx_ev wx_M (d + 1) 41 [kx_r 0 x0] w = mb_41_0 (kx_ex (wm_41 d (kx_ev wx_M d)) φ) d (kx_ev wx_M d) x0 w := by
  show kx_ex (wx_M 41 d (kx_ev wx_M d)) kx_fuel 0 [(0, kx_r 0 x0)] [] w = _
  rw [show wx_M 41 d (kx_ev wx_M d) = wm_41 d (kx_ev wx_M d) from rfl, hφ]
  exact me_41_0
def mb_41_2 (J : Nat → kx_F) (d : Nat) (C : kx_C) (x0 : Option Nat) (x1 : Int32) (w : kx_H) : kx_O := if (256 : Int32) ≤ x1 then (x0.bind fun a1 => let w2 := hp_sI w 2 a1 (0 : Int32);
    x0.bind fun a3 => let w4 := hp_sR w2 6 a3 none;
    x0.bind fun a5 => kx_sb (1 : Int32) fun b9 => let w6 := hp_sB w4 8 a5 b9;
    some (.inl none, w6))
  else (x0.bind fun a7 => (hp_R w 0 a7).bind fun a8 => if x1 < 0 ∨ hp_N w a8 ≤ x1.toNatClampNeg then none else x0.bind fun a11 => kx_bv (C 36 [kx_r 0 (some a11), kx_r 6 (hp_R w (2 * a8 + 1) x1.toNatClampNeg)] w) fun w9 =>
    x0.bind fun a12 => (hp_R w9 0 a12).bind fun a13 => if x1 < 0 ∨ hp_N w9 a13 ≤ x1.toNatClampNeg then none else (hp_R w9 (2 * a13 + 1) x1.toNatClampNeg).bind fun a14 => kx_sb (0 : Int32) fun b9 => let w15 := hp_sB w9 1204 a14 b9;
    J 2 [(0, kx_r 0 x0), (1, kx_i (x1 + 1))] [] w15)
theorem me_41_2 {f d : Nat} {C : kx_C} {x0 : Option Nat} {x1 : Int32} {w : kx_H} : kx_ex (wm_41 d C) (f + 1) 2 [(0, kx_r 0 x0), (1, kx_i x1)] [] w = mb_41_2 (kx_ex (wm_41 d C) f) d C x0 x1 w := Eq.trans rfl rfl
/-! TaskDesk.sleep(J)I -/
def mb_42_0 (J : Nat → kx_F) (d : Nat) (C : kx_C) (x0 : Option Nat) (x1 : Int64) (w : kx_H) : kx_O := if lg_cmp x1 (1000000000 : Int64) ≤ 0 then (x0.bind fun a3 => kx_br 6 (C 24 [kx_r 0 (some a3)] w) fun y2 w1 =>
    if 0 < lg_cmp x1 (0 : Int64) then (y2.bind fun a4 => let w5 := hp_sI w1 1206 a4 (5 : Int32);
      x0.bind fun a6 => x0.bind fun a7 => (hp_R w5 12 a6).bind fun a10 => kx_bv (C 43 [kx_r 1 (some a10), kx_l ((hp_L w5 10 a7) + x1), kx_r 6 y2, kx_r 2 none] w5) fun w8 =>
      J 57 [(0, kx_r 0 x0)] [] w8)
    else (x0.bind fun a13 => kx_bv (C 26 [kx_r 0 (some a13), kx_r 6 y2] w1) fun w11 =>
      J 57 [(0, kx_r 0 x0)] [] w11))
  else (kx_thd kx_cc kx_cs d 1 [(0, kx_r 0 x0), (1, kx_l x1)] [] w)
theorem me_42_0 {f d : Nat} {C : kx_C} {x0 : Option Nat} {x1 : Int64} {w : kx_H} : kx_ex (wm_42 d C) (f + 1) 0 [(0, kx_r 0 x0), (1, kx_l x1)] [] w = mb_42_0 (kx_ex (wm_42 d C) f) d C x0 x1 w := Eq.trans rfl rfl
theorem mE_42 {φ d : Nat} (hφ : kx_fuel = φ + 1) {x0 : Option Nat} {x1 : Int64} {w : kx_H} : kx_ev wx_M (d + 1) 42 [kx_r 0 x0, kx_l x1] w = mb_42_0 (kx_ex (wm_42 d (kx_ev wx_M d)) φ) d (kx_ev wx_M d) x0 x1 w := by
  show kx_ex (wx_M 42 d (kx_ev wx_M d)) kx_fuel 0 [(0, kx_r 0 x0), (1, kx_l x1)] [] w = _
  rw [show wx_M 42 d (kx_ev wx_M d) = wm_42 d (kx_ev wx_M d) from rfl, hφ]
  exact me_42_0
def mb_42_57 (J : Nat → kx_F) (d : Nat) (C : kx_C) (x0 : Option Nat) (w : kx_H) : kx_O := x0.bind fun a3 => kx_bv (C 30 [kx_r 0 (some a3)] w) fun w1 =>
  x0.bind fun a6 => kx_bi (C 19 [kx_r 0 (some a6)] w1) fun y5 w4 =>
  some (.inl (some (.inl y5)), w4)
theorem me_42_57 {f d : Nat} {C : kx_C} {x0 : Option Nat} {w : kx_H} : kx_ex (wm_42 d C) (f + 1) 57 [(0, kx_r 0 x0)] [] w = mb_42_57 (kx_ex (wm_42 d C) f) d C x0 w := Eq.trans rfl rfl
/-! TaskDesk$Agenda.note(JLTaskDesk$Task;LTaskDesk$Channel;)V -/
def mb_43_0 (J : Nat → kx_F) (d : Nat) (C : kx_C) (x0 : Option Nat) (x1 : Int64) (x3 : Option Nat) (x4 : Option Nat) (w : kx_H) : kx_O := x0.bind fun a1 => if hp_R w 202 a1 = none then (some (.inl none, w))
  else ((hp_R w 202 a1).bind fun a2 => x0.bind fun a3 => let w4 := hp_sR w 202 a3 (hp_R w 1406 a2);
    (hp_R w 202 a1).bind fun a5 => let w6 := hp_sL w4 1400 a5 x1;
    (hp_R w 202 a1).bind fun a7 => let w8 := hp_sR w6 1402 a7 x3;
    (hp_R w 202 a1).bind fun a9 => let w10 := hp_sR w8 1404 a9 x4;
    x0.bind fun a13 => kx_br 7 (C 44 [kx_r 1 (some a13), kx_l x1] w10) fun y12 w11 =>
    if y12 = none then (x0.bind fun a19 => (hp_R w 202 a1).bind fun a20 => let w21 := hp_sR w11 1406 a20 (hp_R w11 200 a19);
      x0.bind fun a22 => let w23 := hp_sR w21 200 a22 (hp_R w 202 a1);
      J 87 [] [] w23)
    else (y12.bind fun a14 => (hp_R w 202 a1).bind fun a15 => let w16 := hp_sR w11 1406 a15 (hp_R w11 1406 a14);
      y12.bind fun a17 => let w18 := hp_sR w16 1406 a17 (hp_R w 202 a1);
      J 87 [] [] w18))
theorem me_43_0 {f d : Nat} {C : kx_C} {x0 : Option Nat} {x1 : Int64} {x3 : Option Nat} {x4 : Option Nat} {w : kx_H} : kx_ex (wm_43 d C) (f + 1) 0 [(0, kx_r 1 x0), (1, kx_l x1), (3, kx_r 6 x3), (4, kx_r 2 x4)] [] w = mb_43_0 (kx_ex (wm_43 d C) f) d C x0 x1 x3 x4 w := Eq.trans rfl rfl
theorem mE_43 {φ d : Nat} (hφ : kx_fuel = φ + 1) {x0 : Option Nat} {x1 : Int64} {x3 : Option Nat} {x4 : Option Nat} {w : kx_H} : kx_ev wx_M (d + 1) 43 [kx_r 1 x0, kx_l x1, kx_r 6 x3, kx_r 2 x4] w = mb_43_0 (kx_ex (wm_43 d (kx_ev wx_M d)) φ) d (kx_ev wx_M d) x0 x1 x3 x4 w := by
  show kx_ex (wx_M 43 d (kx_ev wx_M d)) kx_fuel 0 [(0, kx_r 1 x0), (1, kx_l x1), (3, kx_r 6 x3), (4, kx_r 2 x4)] [] w = _
  rw [show wx_M 43 d (kx_ev wx_M d) = wm_43 d (kx_ev wx_M d) from rfl, hφ]
  exact me_43_0
def mb_43_87 (J : Nat → kx_F) (d : Nat) (C : kx_C)  (w : kx_H) : kx_O := some (.inl none, w)
theorem me_43_87 {f d : Nat} {C : kx_C}  {w : kx_H} : kx_ex (wm_43 d C) (f + 1) 87 [] [] w = mb_43_87 (kx_ex (wm_43 d C) f) d C  w := Eq.trans rfl rfl
/-! TaskDesk$Agenda.lastNotAfter(J)LTaskDesk$Timer; -/
def mb_44_0 (J : Nat → kx_F) (d : Nat) (C : kx_C) (x0 : Option Nat) (x1 : Int64) (w : kx_H) : kx_O := x0.bind fun a1 => J 8 [(1, kx_l x1), (3, kx_r 7 none), (4, kx_r 7 (hp_R w 200 a1))] [] w
theorem me_44_0 {f d : Nat} {C : kx_C} {x0 : Option Nat} {x1 : Int64} {w : kx_H} : kx_ex (wm_44 d C) (f + 1) 0 [(0, kx_r 1 x0), (1, kx_l x1)] [] w = mb_44_0 (kx_ex (wm_44 d C) f) d C x0 x1 w := Eq.trans rfl rfl
theorem mE_44 {φ d : Nat} (hφ : kx_fuel = φ + 1) {x0 : Option Nat} {x1 : Int64} {w : kx_H} : kx_ev wx_M (d + 1) 44 [kx_r 1 x0, kx_l x1] w = mb_44_0 (kx_ex (wm_44 d (kx_ev wx_M d)) φ) d (kx_ev wx_M d) x0 x1 w := by
  show kx_ex (wx_M 44 d (kx_ev wx_M d)) kx_fuel 0 [(0, kx_r 1 x0), (1, kx_l x1)] [] w = _
  rw [show wx_M 44 d (kx_ev wx_M d) = wm_44 d (kx_ev wx_M d) from rfl, hφ]
  exact me_44_0
def mb_44_8 (J : Nat → kx_F) (d : Nat) (C : kx_C) (x1 : Int64) (x3 : Option Nat) (x4 : Option Nat) (w : kx_H) : kx_O := if x4 = none then (J 36 [(3, kx_r 7 x3)] [] w)
  else (x4.bind fun a1 => if 0 < lg_cmp (hp_L w 1400 a1) x1 then (J 36 [(3, kx_r 7 x3)] [] w)
    else (x4.bind fun a2 => J 8 [(1, kx_l x1), (3, kx_r 7 x4), (4, kx_r 7 (hp_R w 1406 a2))] [] w))
theorem me_44_8 {f d : Nat} {C : kx_C} {x1 : Int64} {x3 : Option Nat} {x4 : Option Nat} {w : kx_H} : kx_ex (wm_44 d C) (f + 1) 8 [(1, kx_l x1), (3, kx_r 7 x3), (4, kx_r 7 x4)] [] w = mb_44_8 (kx_ex (wm_44 d C) f) d C x1 x3 x4 w := Eq.trans rfl rfl
def mb_44_36 (J : Nat → kx_F) (d : Nat) (C : kx_C) (x3 : Option Nat) (w : kx_H) : kx_O := some (.inl (some (.inr (.inr (7, x3)))), w)
theorem me_44_36 {f d : Nat} {C : kx_C} {x3 : Option Nat} {w : kx_H} : kx_ex (wm_44 d C) (f + 1) 36 [(3, kx_r 7 x3)] [] w = mb_44_36 (kx_ex (wm_44 d C) f) d C x3 w := Eq.trans rfl rfl
/-! TaskDesk.channel(I)I -/
def mb_45_0 (J : Nat → kx_F) (d : Nat) (C : kx_C) (x0 : Option Nat) (x1 : Int32) (w : kx_H) : kx_O := if x1 < 0 then (J 11 [] [] w)
  else (if x1 ≤ (8192 : Int32) then (x0.bind fun a3 => kx_br 2 (C 46 [kx_r 0 (some a3)] w) fun y2 w1 =>
      if y2 = none then (J 42 [] [] w1)
      else (x0.bind fun a4 => if x1 ≤ (8192 : Int32) - (hp_I w1 22 a4) then (y2.bind fun a5 => kx_sb (1 : Int32) fun b9 => let w6 := hp_sB w1 406 a5 b9;
          y2.bind fun a7 => kx_sb (0 : Int32) fun b9 => let w8 := hp_sB w6 408 a7 b9;
            y2.bind fun a9 => let w10 := hp_sI w8 410 a9 x1;
              x0.bind fun a11 => x0.bind fun a12 => let w13 := hp_sI w10 20 a12 ((hp_I w10 20 a11) + (1 : Int32));
              x0.bind fun a14 => x0.bind fun a15 => let w16 := hp_sI w13 22 a15 ((hp_I w13 22 a14) + x1);
              y2.bind fun a17 => some (.inl (some (.inl (hp_I w16 400 a17))), w16))
        else (J 42 [] [] w1)))
    else (J 11 [] [] w))
set_option maxRecDepth 100000 in
set_option maxHeartbeats 4000000 in
theorem me_45_0 {f d : Nat} {C : kx_C} {x0 : Option Nat} {x1 : Int32} {w : kx_H} : kx_ex (wm_45 d C) (f + 1) 0 [(0, kx_r 0 x0), (1, kx_i x1)] [] w = mb_45_0 (kx_ex (wm_45 d C) f) d C x0 x1 w := Eq.trans rfl rfl
theorem mE_45 {φ d : Nat} (hφ : kx_fuel = φ + 1) {x0 : Option Nat} {x1 : Int32} {w : kx_H} : kx_ev wx_M (d + 1) 45 [kx_r 0 x0, kx_i x1] w = mb_45_0 (kx_ex (wm_45 d (kx_ev wx_M d)) φ) d (kx_ev wx_M d) x0 x1 w := by
  show kx_ex (wx_M 45 d (kx_ev wx_M d)) kx_fuel 0 [(0, kx_r 0 x0), (1, kx_i x1)] [] w = _
  rw [show wx_M 45 d (kx_ev wx_M d) = wm_45 d (kx_ev wx_M d) from rfl, hφ]
  exact me_45_0
def mb_45_11 (J : Nat → kx_F) (d : Nat) (C : kx_C)  (w : kx_H) : kx_O := kx_thd kx_cc kx_cs d 1 [] [] w
theorem me_45_11 {f d : Nat} {C : kx_C}  {w : kx_H} : kx_ex (wm_45 d C) (f + 1) 11 [] [] w = mb_45_11 (kx_ex (wm_45 d C) f) d C  w := Eq.trans rfl rfl
def mb_45_42 (J : Nat → kx_F) (d : Nat) (C : kx_C)  (w : kx_H) : kx_O := kx_thd kx_cc kx_cs d 0 [] [] w
theorem me_45_42 {f d : Nat} {C : kx_C}  {w : kx_H} : kx_ex (wm_45 d C) (f + 1) 42 [] [] w = mb_45_42 (kx_ex (wm_45 d C) f) d C  w := Eq.trans rfl rfl
/-! TaskDesk.firstFreeChannel()LTaskDesk$Channel; -/
def mb_46_0 (J : Nat → kx_F) (d : Nat) (C : kx_C) (x0 : Option Nat) (w : kx_H) : kx_O := J 2 [(0, kx_r 0 x0), (1, kx_i (0 : Int32))] [] w
theorem me_46_0 {f d : Nat} {C : kx_C} {x0 : Option Nat} {w : kx_H} : kx_ex (wm_46 d C) (f + 1) 0 [(0, kx_r 0 x0)] [] w = mb_46_0 (kx_ex (wm_46 d C) f) d C x0 w := Eq.trans rfl rfl
theorem mE_46 {φ d : Nat} (hφ : kx_fuel = φ + 1) {x0 : Option Nat} {w : kx_H} : kx_ev wx_M (d + 1) 46 [kx_r 0 x0] w = mb_46_0 (kx_ex (wm_46 d (kx_ev wx_M d)) φ) d (kx_ev wx_M d) x0 w := by
  show kx_ex (wx_M 46 d (kx_ev wx_M d)) kx_fuel 0 [(0, kx_r 0 x0)] [] w = _
  rw [show wx_M 46 d (kx_ev wx_M d) = wm_46 d (kx_ev wx_M d) from rfl, hφ]
  exact me_46_0
def mb_46_2 (J : Nat → kx_F) (d : Nat) (C : kx_C) (x0 : Option Nat) (x1 : Int32) (w : kx_H) : kx_O := if (512 : Int32) ≤ x1 then (some (.inl (some (.inr (.inr (2, none)))), w))
  else (x0.bind fun a1 => (hp_R w 16 a1).bind fun a2 => if x1 < 0 ∨ hp_N w a2 ≤ x1.toNatClampNeg then none else (hp_R w (2 * a2 + 1) x1.toNatClampNeg).bind fun a3 => if kx_b (hp_B w 406 a3) = 0 then (x0.bind fun a4 => (hp_R w 16 a4).bind fun a5 => if x1 < 0 ∨ hp_N w a5 ≤ x1.toNatClampNeg then none else some (.inl (some (.inr (.inr (2, hp_R w (2 * a5 + 1) x1.toNatClampNeg)))), w))
    else (J 2 [(0, kx_r 0 x0), (1, kx_i (x1 + 1))] [] w))
theorem me_46_2 {f d : Nat} {C : kx_C} {x0 : Option Nat} {x1 : Int32} {w : kx_H} : kx_ex (wm_46 d C) (f + 1) 2 [(0, kx_r 0 x0), (1, kx_i x1)] [] w = mb_46_2 (kx_ex (wm_46 d C) f) d C x0 x1 w := Eq.trans rfl rfl
/-! TaskDesk.alarm(IJ)V -/
def mb_47_0 (J : Nat → kx_F) (d : Nat) (C : kx_C) (x0 : Option Nat) (x1 : Int32) (x2 : Int64) (w : kx_H) : kx_O := x0.bind fun a3 => kx_br 2 (C 14 [kx_r 0 (some a3), kx_i x1] w) fun y2 w1 =>
  if y2 = none then (J 26 [] [] w1)
  else (if lg_cmp x2 (0 : Int64) < 0 then (J 26 [] [] w1)
    else (if lg_cmp x2 (1000000000 : Int64) ≤ 0 then (x0.bind fun a6 => kx_br 6 (C 24 [kx_r 0 (some a6)] w1) fun y5 w4 =>
        x0.bind fun a7 => if hp_I w4 14 a7 < (256 : Int32) then (x0.bind fun a8 => x0.bind fun a9 => (hp_R w4 12 a8).bind fun a12 => kx_bv (C 43 [kx_r 1 (some a12), kx_l ((hp_L w4 10 a9) + x2), kx_r 6 none, kx_r 2 y2] w4) fun w10 =>
          y2.bind fun a13 => y2.bind fun a14 => let w15 := hp_sI w10 414 a14 ((hp_I w10 414 a13) + (1 : Int32));
          x0.bind fun a16 => x0.bind fun a17 => let w18 := hp_sI w15 14 a17 ((hp_I w15 14 a16) + (1 : Int32));
          some (.inl none, w18))
        else (kx_thd kx_cc kx_cs d 0 [(4, kx_r 2 y2), (0, kx_r 0 x0), (1, kx_i x1), (2, kx_l x2)] [] w4))
      else (J 26 [] [] w1)))
theorem me_47_0 {f d : Nat} {C : kx_C} {x0 : Option Nat} {x1 : Int32} {x2 : Int64} {w : kx_H} : kx_ex (wm_47 d C) (f + 1) 0 [(0, kx_r 0 x0), (1, kx_i x1), (2, kx_l x2)] [] w = mb_47_0 (kx_ex (wm_47 d C) f) d C x0 x1 x2 w := Eq.trans rfl rfl
theorem mE_47 {φ d : Nat} (hφ : kx_fuel = φ + 1) {x0 : Option Nat} {x1 : Int32} {x2 : Int64} {w : kx_H} : kx_ev wx_M (d + 1) 47 [kx_r 0 x0, kx_i x1, kx_l x2] w = mb_47_0 (kx_ex (wm_47 d (kx_ev wx_M d)) φ) d (kx_ev wx_M d) x0 x1 x2 w := by
  show kx_ex (wx_M 47 d (kx_ev wx_M d)) kx_fuel 0 [(0, kx_r 0 x0), (1, kx_i x1), (2, kx_l x2)] [] w = _
  rw [show wx_M 47 d (kx_ev wx_M d) = wm_47 d (kx_ev wx_M d) from rfl, hφ]
  exact me_47_0
def mb_47_26 (J : Nat → kx_F) (d : Nat) (C : kx_C)  (w : kx_H) : kx_O := kx_thd kx_cc kx_cs d 1 [] [] w
theorem me_47_26 {f d : Nat} {C : kx_C}  {w : kx_H} : kx_ex (wm_47 d C) (f + 1) 26 [] [] w = mb_47_26 (kx_ex (wm_47 d C) f) d C  w := Eq.trans rfl rfl
/-! TaskDesk.send(IJ)Z -/
def mb_48_0 (J : Nat → kx_F) (d : Nat) (C : kx_C) (x0 : Option Nat) (x1 : Int32) (x2 : Int64) (w : kx_H) : kx_O := x0.bind fun a3 => kx_br 2 (C 49 [kx_r 0 (some a3), kx_i x1] w) fun y2 w1 =>
  x0.bind fun a6 => kx_br 6 (C 24 [kx_r 0 (some a6)] w1) fun y5 w4 =>
  y2.bind fun a7 => if kx_b (hp_B w4 408 a7) = 0 then (x0.bind fun a10 => kx_bi (C 33 [kx_r 0 (some a10), kx_r 2 y2] w4) fun y9 w8 =>
    if y9 = 0 then (y5.bind fun a11 => (hp_R w8 1202 a11).bind fun a12 => let w13 := hp_sL w8 806 a12 x2;
      y2.bind fun a14 => x0.bind fun a15 => if y2 = hp_R w13 18 a15 then (J 89 [(0, kx_r 0 x0), (4, kx_r 2 y2)] [kx_i (7 : Int32), kx_r 5 (hp_R w13 402 a14), kx_r 6 y5] w13)
      else (J 89 [(0, kx_r 0 x0), (4, kx_r 2 y2)] [kx_i (2 : Int32), kx_r 5 (hp_R w13 402 a14), kx_r 6 y5] w13))
    else (x0.bind fun a18 => kx_bv (C 34 [kx_r 0 (some a18), kx_r 2 y2, kx_l x2] w8) fun w16 =>
      y5.bind fun a21 => kx_bv (C 12 [kx_r 6 (some a21), kx_l (0 : Int64), kx_i (1 : Int32), kx_i ((-1) : Int32), kx_i (0 : Int32)] w16) fun w19 =>
      if (1 : Int32) = 0 ∨ (1 : Int32) = 1 then some (.inl (some (.inl (1 : Int32))), w19) else none))
  else (kx_thd kx_cc kx_cs d 2 [(5, kx_r 6 y5), (4, kx_r 2 y2), (0, kx_r 0 x0), (1, kx_i x1), (2, kx_l x2)] [] w4)
theorem me_48_0 {f d : Nat} {C : kx_C} {x0 : Option Nat} {x1 : Int32} {x2 : Int64} {w : kx_H} : kx_ex (wm_48 d C) (f + 1) 0 [(0, kx_r 0 x0), (1, kx_i x1), (2, kx_l x2)] [] w = mb_48_0 (kx_ex (wm_48 d C) f) d C x0 x1 x2 w := Eq.trans rfl rfl
theorem mE_48 {φ d : Nat} (hφ : kx_fuel = φ + 1) {x0 : Option Nat} {x1 : Int32} {x2 : Int64} {w : kx_H} : kx_ev wx_M (d + 1) 48 [kx_r 0 x0, kx_i x1, kx_l x2] w = mb_48_0 (kx_ex (wm_48 d (kx_ev wx_M d)) φ) d (kx_ev wx_M d) x0 x1 x2 w := by
  show kx_ex (wx_M 48 d (kx_ev wx_M d)) kx_fuel 0 [(0, kx_r 0 x0), (1, kx_i x1), (2, kx_l x2)] [] w = _
  rw [show wx_M 48 d (kx_ev wx_M d) = wm_48 d (kx_ev wx_M d) from rfl, hφ]
  exact me_48_0
def mb_48_89 (J : Nat → kx_F) (d : Nat) (C : kx_C) (x0 : Option Nat) (x4 : Option Nat) (xs0 : Int32) (xs1 : Option Nat) (xs2 : Option Nat) (w : kx_H) : kx_O := x4.bind fun a1 => xs2.bind fun a4 => kx_bv (C 27 [kx_r 6 (some a4), kx_r 5 xs1, kx_i xs0, kx_i (hp_I w 400 a1)] w) fun w2 =>
  x0.bind fun a7 => kx_bv (C 30 [kx_r 0 (some a7)] w2) fun w5 =>
  if (0 : Int32) = 0 ∨ (0 : Int32) = 1 then some (.inl (some (.inl (0 : Int32))), w5) else none
theorem me_48_89 {f d : Nat} {C : kx_C} {x0 : Option Nat} {x4 : Option Nat} {xs0 : Int32} {xs1 : Option Nat} {xs2 : Option Nat} {w : kx_H} : kx_ex (wm_48 d C) (f + 1) 89 [(0, kx_r 0 x0), (4, kx_r 2 x4)] [kx_i xs0, kx_r 5 xs1, kx_r 6 xs2] w = mb_48_89 (kx_ex (wm_48 d C) f) d C x0 x4 xs0 xs1 xs2 w := Eq.trans rfl rfl
/-! TaskDesk.mustBeChannel(I)LTaskDesk$Channel; -/
def mb_49_0 (J : Nat → kx_F) (d : Nat) (C : kx_C) (x0 : Option Nat) (x1 : Int32) (w : kx_H) : kx_O := if x1 = ((-1) : Int32) then (x0.bind fun a4 => J 17 [] [kx_r 2 (hp_R w 18 a4)] w)
  else (x0.bind fun a3 => kx_br 2 (C 14 [kx_r 0 (some a3), kx_i x1] w) fun y2 w1 =>
    J 17 [] [kx_r 2 y2] w1)
theorem me_49_0 {f d : Nat} {C : kx_C} {x0 : Option Nat} {x1 : Int32} {w : kx_H} : kx_ex (wm_49 d C) (f + 1) 0 [(0, kx_r 0 x0), (1, kx_i x1)] [] w = mb_49_0 (kx_ex (wm_49 d C) f) d C x0 x1 w := Eq.trans rfl rfl
theorem mE_49 {φ d : Nat} (hφ : kx_fuel = φ + 1) {x0 : Option Nat} {x1 : Int32} {w : kx_H} : kx_ev wx_M (d + 1) 49 [kx_r 0 x0, kx_i x1] w = mb_49_0 (kx_ex (wm_49 d (kx_ev wx_M d)) φ) d (kx_ev wx_M d) x0 x1 w := by
  show kx_ex (wx_M 49 d (kx_ev wx_M d)) kx_fuel 0 [(0, kx_r 0 x0), (1, kx_i x1)] [] w = _
  rw [show wx_M 49 d (kx_ev wx_M d) = wm_49 d (kx_ev wx_M d) from rfl, hφ]
  exact me_49_0
def mb_49_17 (J : Nat → kx_F) (d : Nat) (C : kx_C) (xs0 : Option Nat) (w : kx_H) : kx_O := if xs0 = none then (kx_thd kx_cc kx_cs d 1 [(2, kx_r 2 xs0)] [] w)
  else (some (.inl (some (.inr (.inr (2, xs0)))), w))
theorem me_49_17 {f d : Nat} {C : kx_C} {xs0 : Option Nat} {w : kx_H} : kx_ex (wm_49 d C) (f + 1) 17 [] [kx_r 2 xs0] w = mb_49_17 (kx_ex (wm_49 d C) f) d C xs0 w := Eq.trans rfl rfl
/-! TaskDesk.receive(I)Z -/
def mb_50_0 (J : Nat → kx_F) (d : Nat) (C : kx_C) (x0 : Option Nat) (x1 : Int32) (w : kx_H) : kx_O := x0.bind fun a3 => kx_br 2 (C 49 [kx_r 0 (some a3), kx_i x1] w) fun y2 w1 =>
  x0.bind fun a6 => kx_br 6 (C 24 [kx_r 0 (some a6)] w1) fun y5 w4 =>
  x0.bind fun a9 => kx_bi (C 51 [kx_r 0 (some a9), kx_r 2 y2] w4) fun y8 w7 =>
  if y8 = 0 then (y2.bind fun a10 => x0.bind fun a11 => if y2 = hp_R w7 18 a11 then (J 47 [(0, kx_r 0 x0), (2, kx_r 2 y2)] [kx_i (7 : Int32), kx_r 5 (hp_R w7 404 a10), kx_r 6 y5] w7)
    else (J 47 [(0, kx_r 0 x0), (2, kx_r 2 y2)] [kx_i (3 : Int32), kx_r 5 (hp_R w7 404 a10), kx_r 6 y5] w7))
  else (x0.bind fun a14 => kx_bv (C 52 [kx_r 0 (some a14), kx_r 6 y5, kx_r 2 y2, kx_i ((-1) : Int32)] w7) fun w12 =>
    if (1 : Int32) = 0 ∨ (1 : Int32) = 1 then some (.inl (some (.inl (1 : Int32))), w12) else none)
theorem me_50_0 {f d : Nat} {C : kx_C} {x0 : Option Nat} {x1 : Int32} {w : kx_H} : kx_ex (wm_50 d C) (f + 1) 0 [(0, kx_r 0 x0), (1, kx_i x1)] [] w = mb_50_0 (kx_ex (wm_50 d C) f) d C x0 x1 w := Eq.trans rfl rfl
theorem mE_50 {φ d : Nat} (hφ : kx_fuel = φ + 1) {x0 : Option Nat} {x1 : Int32} {w : kx_H} : kx_ev wx_M (d + 1) 50 [kx_r 0 x0, kx_i x1] w = mb_50_0 (kx_ex (wm_50 d (kx_ev wx_M d)) φ) d (kx_ev wx_M d) x0 x1 w := by
  show kx_ex (wx_M 50 d (kx_ev wx_M d)) kx_fuel 0 [(0, kx_r 0 x0), (1, kx_i x1)] [] w = _
  rw [show wx_M 50 d (kx_ev wx_M d) = wm_50 d (kx_ev wx_M d) from rfl, hφ]
  exact me_50_0
def mb_50_47 (J : Nat → kx_F) (d : Nat) (C : kx_C) (x0 : Option Nat) (x2 : Option Nat) (xs0 : Int32) (xs1 : Option Nat) (xs2 : Option Nat) (w : kx_H) : kx_O := x2.bind fun a1 => xs2.bind fun a4 => kx_bv (C 27 [kx_r 6 (some a4), kx_r 5 xs1, kx_i xs0, kx_i (hp_I w 400 a1)] w) fun w2 =>
  x0.bind fun a7 => kx_bv (C 30 [kx_r 0 (some a7)] w2) fun w5 =>
  if (0 : Int32) = 0 ∨ (0 : Int32) = 1 then some (.inl (some (.inl (0 : Int32))), w5) else none
theorem me_50_47 {f d : Nat} {C : kx_C} {x0 : Option Nat} {x2 : Option Nat} {xs0 : Int32} {xs1 : Option Nat} {xs2 : Option Nat} {w : kx_H} : kx_ex (wm_50 d C) (f + 1) 47 [(0, kx_r 0 x0), (2, kx_r 2 x2)] [kx_i xs0, kx_r 5 xs1, kx_r 6 xs2] w = mb_50_47 (kx_ex (wm_50 d C) f) d C x0 x2 xs0 xs1 xs2 w := Eq.trans rfl rfl
/-! TaskDesk.givesAtOnce(LTaskDesk$Channel;)Z -/
def mb_51_0 (J : Nat → kx_F) (d : Nat) (C : kx_C) (x0 : Option Nat) (x1 : Option Nat) (w : kx_H) : kx_O := x1.bind fun a1 => if 0 < hp_I w 412 a1 then (J 17 [(0, kx_r 0 x0), (1, kx_r 2 x1)] [] w)
  else (x1.bind fun a2 => (hp_R w 402 a2).bind fun a3 => if hp_R w 1000 a3 = none then (J 22 [(0, kx_r 0 x0), (1, kx_r 2 x1)] [kx_i (0 : Int32)] w)
    else (J 17 [(0, kx_r 0 x0), (1, kx_r 2 x1)] [] w))
theorem me_51_0 {f d : Nat} {C : kx_C} {x0 : Option Nat} {x1 : Option Nat} {w : kx_H} : kx_ex (wm_51 d C) (f + 1) 0 [(0, kx_r 0 x0), (1, kx_r 2 x1)] [] w = mb_51_0 (kx_ex (wm_51 d C) f) d C x0 x1 w := Eq.trans rfl rfl
theorem mE_51 {φ d : Nat} (hφ : kx_fuel = φ + 1) {x0 : Option Nat} {x1 : Option Nat} {w : kx_H} : kx_ev wx_M (d + 1) 51 [kx_r 0 x0, kx_r 2 x1] w = mb_51_0 (kx_ex (wm_51 d (kx_ev wx_M d)) φ) d (kx_ev wx_M d) x0 x1 w := by
  show kx_ex (wx_M 51 d (kx_ev wx_M d)) kx_fuel 0 [(0, kx_r 0 x0), (1, kx_r 2 x1)] [] w = _
  rw [show wx_M 51 d (kx_ev wx_M d) = wm_51 d (kx_ev wx_M d) from rfl, hφ]
  exact me_51_0
def mb_51_17 (J : Nat → kx_F) (d : Nat) (C : kx_C) (x0 : Option Nat) (x1 : Option Nat) (w : kx_H) : kx_O := J 22 [(0, kx_r 0 x0), (1, kx_r 2 x1)] [kx_i (1 : Int32)] w
theorem me_51_17 {f d : Nat} {C : kx_C} {x0 : Option Nat} {x1 : Option Nat} {w : kx_H} : kx_ex (wm_51 d C) (f + 1) 17 [(0, kx_r 0 x0), (1, kx_r 2 x1)] [] w = mb_51_17 (kx_ex (wm_51 d C) f) d C x0 x1 w := Eq.trans rfl rfl
def mb_51_22 (J : Nat → kx_F) (d : Nat) (C : kx_C) (x0 : Option Nat) (x1 : Option Nat) (xs0 : Int32) (w : kx_H) : kx_O := x0.bind fun a1 => if x1 = hp_R w 18 a1 then (J 46 [] [] w)
  else (x1.bind fun a2 => if kx_b (hp_B w 408 a2) = 0 then (if xs0 = 0 then (J 46 [] [] w)
      else (J 42 [] [] w))
    else (J 42 [] [] w))
theorem me_51_22 {f d : Nat} {C : kx_C} {x0 : Option Nat} {x1 : Option Nat} {xs0 : Int32} {w : kx_H} : kx_ex (wm_51 d C) (f + 1) 22 [(0, kx_r 0 x0), (1, kx_r 2 x1)] [kx_i xs0] w = mb_51_22 (kx_ex (wm_51 d C) f) d C x0 x1 xs0 w := Eq.trans rfl rfl
def mb_51_42 (J : Nat → kx_F) (d : Nat) (C : kx_C)  (w : kx_H) : kx_O := J 47 [] [kx_i (1 : Int32)] w
theorem me_51_42 {f d : Nat} {C : kx_C}  {w : kx_H} : kx_ex (wm_51 d C) (f + 1) 42 [] [] w = mb_51_42 (kx_ex (wm_51 d C) f) d C  w := Eq.trans rfl rfl
def mb_51_46 (J : Nat → kx_F) (d : Nat) (C : kx_C)  (w : kx_H) : kx_O := J 47 [] [kx_i (0 : Int32)] w
theorem me_51_46 {f d : Nat} {C : kx_C}  {w : kx_H} : kx_ex (wm_51 d C) (f + 1) 46 [] [] w = mb_51_46 (kx_ex (wm_51 d C) f) d C  w := Eq.trans rfl rfl
def mb_51_47 (J : Nat → kx_F) (d : Nat) (C : kx_C) (xs0 : Int32) (w : kx_H) : kx_O := if xs0 = 0 ∨ xs0 = 1 then some (.inl (some (.inl xs0)), w) else none
theorem me_51_47 {f d : Nat} {C : kx_C} {xs0 : Int32} {w : kx_H} : kx_ex (wm_51 d C) (f + 1) 47 [] [kx_i xs0] w = mb_51_47 (kx_ex (wm_51 d C) f) d C xs0 w := Eq.trans rfl rfl
/-! TaskDesk.receiveNow(LTaskDesk$Task;LTaskDesk$Channel;I)V -/
def mb_52_0 (J : Nat → kx_F) (d : Nat) (C : kx_C) (x0 : Option Nat) (x1 : Option Nat) (x2 : Option Nat) (x3 : Int32) (w : kx_H) : kx_O := x2.bind fun a1 => (hp_R w 402 a1).bind fun a2 => x2.bind fun a3 => if 0 < hp_I w 412 a3 then (J 21 [(0, kx_r 0 x0), (1, kx_r 6 x1), (2, kx_r 2 x2), (3, kx_i x3), (4, kx_r 4 (hp_R w 1000 a2))] [] w)
  else (if hp_R w 1000 a2 = none then (J 26 [(0, kx_r 0 x0), (1, kx_r 6 x1), (2, kx_r 2 x2), (3, kx_i x3), (4, kx_r 4 (hp_R w 1000 a2))] [kx_i (0 : Int32)] w)
    else (J 21 [(0, kx_r 0 x0), (1, kx_r 6 x1), (2, kx_r 2 x2), (3, kx_i x3), (4, kx_r 4 (hp_R w 1000 a2))] [] w))
theorem me_52_0 {f d : Nat} {C : kx_C} {x0 : Option Nat} {x1 : Option Nat} {x2 : Option Nat} {x3 : Int32} {w : kx_H} : kx_ex (wm_52 d C) (f + 1) 0 [(0, kx_r 0 x0), (1, kx_r 6 x1), (2, kx_r 2 x2), (3, kx_i x3)] [] w = mb_52_0 (kx_ex (wm_52 d C) f) d C x0 x1 x2 x3 w := Eq.trans rfl rfl
theorem mE_52 {φ d : Nat} (hφ : kx_fuel = φ + 1) {x0 : Option Nat} {x1 : Option Nat} {x2 : Option Nat} {x3 : Int32} {w : kx_H} : kx_ev wx_M (d + 1) 52 [kx_r 0 x0, kx_r 6 x1, kx_r 2 x2, kx_i x3] w = mb_52_0 (kx_ex (wm_52 d (kx_ev wx_M d)) φ) d (kx_ev wx_M d) x0 x1 x2 x3 w := by
  show kx_ex (wx_M 52 d (kx_ev wx_M d)) kx_fuel 0 [(0, kx_r 0 x0), (1, kx_r 6 x1), (2, kx_r 2 x2), (3, kx_i x3)] [] w = _
  rw [show wx_M 52 d (kx_ev wx_M d) = wm_52 d (kx_ev wx_M d) from rfl, hφ]
  exact me_52_0
def mb_52_21 (J : Nat → kx_F) (d : Nat) (C : kx_C) (x0 : Option Nat) (x1 : Option Nat) (x2 : Option Nat) (x3 : Int32) (x4 : Option Nat) (w : kx_H) : kx_O := J 26 [(0, kx_r 0 x0), (1, kx_r 6 x1), (2, kx_r 2 x2), (3, kx_i x3), (4, kx_r 4 x4)] [kx_i (1 : Int32)] w
theorem me_52_21 {f d : Nat} {C : kx_C} {x0 : Option Nat} {x1 : Option Nat} {x2 : Option Nat} {x3 : Int32} {x4 : Option Nat} {w : kx_H} : kx_ex (wm_52 d C) (f + 1) 21 [(0, kx_r 0 x0), (1, kx_r 6 x1), (2, kx_r 2 x2), (3, kx_i x3), (4, kx_r 4 x4)] [] w = mb_52_21 (kx_ex (wm_52 d C) f) d C x0 x1 x2 x3 x4 w := Eq.trans rfl rfl
def mb_52_26 (J : Nat → kx_F) (d : Nat) (C : kx_C) (x0 : Option Nat) (x1 : Option Nat) (x2 : Option Nat) (x3 : Int32) (x4 : Option Nat) (xs0 : Int32) (w : kx_H) : kx_O := x2.bind fun a1 => if hp_I w 412 a1 ≤ 0 then (if x4 = none then (J 75 [(0, kx_r 0 x0), (1, kx_r 6 x1), (3, kx_i x3), (4, kx_r 4 x4), (5, kx_i xs0), (6, kx_l (0 : Int64))] [] w)
    else (x4.bind fun a2 => J 75 [(0, kx_r 0 x0), (1, kx_r 6 x1), (3, kx_i x3), (4, kx_r 4 x4), (5, kx_i xs0), (6, kx_l (hp_L w 806 a2))] [] w))
  else (x0.bind fun a5 => kx_bl (C 17 [kx_r 0 (some a5), kx_r 2 x2] w) fun y4 w3 =>
    if x4 = none then (J 75 [(0, kx_r 0 x0), (1, kx_r 6 x1), (3, kx_i x3), (4, kx_r 4 x4), (5, kx_i xs0), (6, kx_l y4)] [] w3)
    else (x4.bind fun a6 => x0.bind fun a9 => kx_bv (C 38 [kx_r 0 (some a9), kx_r 2 x2, kx_l (hp_L w3 806 a6)] w3) fun w7 =>
      J 75 [(0, kx_r 0 x0), (1, kx_r 6 x1), (3, kx_i x3), (4, kx_r 4 x4), (5, kx_i xs0), (6, kx_l y4)] [] w7))
theorem me_52_26 {f d : Nat} {C : kx_C} {x0 : Option Nat} {x1 : Option Nat} {x2 : Option Nat} {x3 : Int32} {x4 : Option Nat} {xs0 : Int32} {w : kx_H} : kx_ex (wm_52 d C) (f + 1) 26 [(0, kx_r 0 x0), (1, kx_r 6 x1), (2, kx_r 2 x2), (3, kx_i x3), (4, kx_r 4 x4)] [kx_i xs0] w = mb_52_26 (kx_ex (wm_52 d C) f) d C x0 x1 x2 x3 x4 xs0 w := Eq.trans rfl rfl
def mb_52_75 (J : Nat → kx_F) (d : Nat) (C : kx_C) (x0 : Option Nat) (x1 : Option Nat) (x3 : Int32) (x4 : Option Nat) (x5 : Int32) (x6 : Int64) (w : kx_H) : kx_O := if x4 = none then (J 89 [(1, kx_r 6 x1), (3, kx_i x3), (5, kx_i x5), (6, kx_l x6)] [] w)
  else (x0.bind fun a3 => kx_bv (C 35 [kx_r 0 (some a3), kx_r 4 x4, kx_l (0 : Int64), kx_i (1 : Int32), kx_i (0 : Int32)] w) fun w1 =>
    J 89 [(1, kx_r 6 x1), (3, kx_i x3), (5, kx_i x5), (6, kx_l x6)] [] w1)
theorem me_52_75 {f d : Nat} {C : kx_C} {x0 : Option Nat} {x1 : Option Nat} {x3 : Int32} {x4 : Option Nat} {x5 : Int32} {x6 : Int64} {w : kx_H} : kx_ex (wm_52 d C) (f + 1) 75 [(0, kx_r 0 x0), (1, kx_r 6 x1), (3, kx_i x3), (4, kx_r 4 x4), (5, kx_i x5), (6, kx_l x6)] [] w = mb_52_75 (kx_ex (wm_52 d C) f) d C x0 x1 x3 x4 x5 x6 w := Eq.trans rfl rfl
def mb_52_89 (J : Nat → kx_F) (d : Nat) (C : kx_C) (x1 : Option Nat) (x3 : Int32) (x5 : Int32) (x6 : Int64) (w : kx_H) : kx_O := x1.bind fun a3 => kx_bv (C 12 [kx_r 6 (some a3), kx_l x6, kx_i x5, kx_i x3, kx_i (0 : Int32)] w) fun w1 =>
  some (.inl none, w1)
theorem me_52_89 {f d : Nat} {C : kx_C} {x1 : Option Nat} {x3 : Int32} {x5 : Int32} {x6 : Int64} {w : kx_H} : kx_ex (wm_52 d C) (f + 1) 89 [(1, kx_r 6 x1), (3, kx_i x3), (5, kx_i x5), (6, kx_l x6)] [] w = mb_52_89 (kx_ex (wm_52 d C) f) d C x1 x3 x5 x6 w := Eq.trans rfl rfl
/-! TaskDesk.close(I)V -/
def mb_53_0 (J : Nat → kx_F) (d : Nat) (C : kx_C) (x0 : Option Nat) (x1 : Int32) (w : kx_H) : kx_O := x0.bind fun a3 => kx_br 2 (C 49 [kx_r 0 (some a3), kx_i x1] w) fun y2 w1 =>
  x0.bind fun a6 => kx_br 6 (C 24 [kx_r 0 (some a6)] w1) fun y5 w4 =>
  x0.bind fun a7 => if y2 = hp_R w4 18 a7 then (J 26 [] [] w4)
  else (y2.bind fun a8 => if kx_b (hp_B w4 408 a8) = 0 then (y2.bind fun a9 => kx_sb (1 : Int32) fun b9 => let w10 := hp_sB w4 408 a9 b9;
      y2.bind fun a11 => x0.bind fun a14 => kx_bv (C 54 [kx_r 0 (some a14), kx_r 5 (hp_R w10 404 a11), kx_i (0 : Int32), kx_i (0 : Int32)] w10) fun w12 =>
        y2.bind fun a15 => x0.bind fun a18 => kx_bv (C 54 [kx_r 0 (some a18), kx_r 5 (hp_R w12 402 a15), kx_i (0 : Int32), kx_i (1 : Int32)] w12) fun w16 =>
        some (.inl none, w16))
    else (J 26 [] [] w4))
theorem me_53_0 {f d : Nat} {C : kx_C} {x0 : Option Nat} {x1 : Int32} {w : kx_H} : kx_ex (wm_53 d C) (f + 1) 0 [(0, kx_r 0 x0), (1, kx_i x1)] [] w = mb_53_0 (kx_ex (wm_53 d C) f) d C x0 x1 w := Eq.trans rfl rfl
theorem mE_53 {φ d : Nat} (hφ : kx_fuel = φ + 1) {x0 : Option Nat} {x1 : Int32} {w : kx_H} : kx_ev wx_M (d + 1) 53 [kx_r 0 x0, kx_i x1] w = mb_53_0 (kx_ex (wm_53 d (kx_ev wx_M d)) φ) d (kx_ev wx_M d) x0 x1 w := by
  show kx_ex (wx_M 53 d (kx_ev wx_M d)) kx_fuel 0 [(0, kx_r 0 x0), (1, kx_i x1)] [] w = _
  rw [show wx_M 53 d (kx_ev wx_M d) = wm_53 d (kx_ev wx_M d) from rfl, hφ]
  exact me_53_0
def mb_53_26 (J : Nat → kx_F) (d : Nat) (C : kx_C)  (w : kx_H) : kx_O := kx_thd kx_cc kx_cs d 2 [] [] w
theorem me_53_26 {f d : Nat} {C : kx_C}  {w : kx_H} : kx_ex (wm_53 d C) (f + 1) 26 [] [] w = mb_53_26 (kx_ex (wm_53 d C) f) d C  w := Eq.trans rfl rfl
/-! TaskDesk.wakeAll(LTaskDesk$Row;ZZ)V -/
def mb_54_0 (J : Nat → kx_F) (d : Nat) (C : kx_C) (x0 : Option Nat) (x1 : Option Nat) (x2 : Int32) (x3 : Int32) (w : kx_H) : kx_O := x1.bind fun a1 => J 6 [(0, kx_r 0 x0), (1, kx_r 5 x1), (2, kx_i x2), (3, kx_i x3), (4, kx_i (hp_I w 1004 a1))] [] w
theorem me_54_0 {f d : Nat} {C : kx_C} {x0 : Option Nat} {x1 : Option Nat} {x2 : Int32} {x3 : Int32} {w : kx_H} : kx_ex (wm_54 d C) (f + 1) 0 [(0, kx_r 0 x0), (1, kx_r 5 x1), (2, kx_i x2), (3, kx_i x3)] [] w = mb_54_0 (kx_ex (wm_54 d C) f) d C x0 x1 x2 x3 w := Eq.trans rfl rfl
theorem mE_54 {φ d : Nat} (hφ : kx_fuel = φ + 1) {x0 : Option Nat} {x1 : Option Nat} {x2 : Int32} {x3 : Int32} {w : kx_H} : kx_ev wx_M (d + 1) 54 [kx_r 0 x0, kx_r 5 x1, kx_i x2, kx_i x3] w = mb_54_0 (kx_ex (wm_54 d (kx_ev wx_M d)) φ) d (kx_ev wx_M d) x0 x1 x2 x3 w := by
  show kx_ex (wx_M 54 d (kx_ev wx_M d)) kx_fuel 0 [(0, kx_r 0 x0), (1, kx_r 5 x1), (2, kx_i x2), (3, kx_i x3)] [] w = _
  rw [show wx_M 54 d (kx_ev wx_M d) = wm_54 d (kx_ev wx_M d) from rfl, hφ]
  exact me_54_0
def mb_54_6 (J : Nat → kx_F) (d : Nat) (C : kx_C) (x0 : Option Nat) (x1 : Option Nat) (x2 : Int32) (x3 : Int32) (x4 : Int32) (w : kx_H) : kx_O := if x4 ≤ 0 then (J 35 [] [] w)
  else (x1.bind fun a1 => if hp_R w 1000 a1 = none then (J 35 [] [] w)
    else (x1.bind fun a2 => x0.bind fun a5 => kx_bv (C 35 [kx_r 0 (some a5), kx_r 4 (hp_R w 1000 a2), kx_l (0 : Int64), kx_i x2, kx_i x3] w) fun w3 =>
      J 6 [(0, kx_r 0 x0), (1, kx_r 5 x1), (2, kx_i x2), (3, kx_i x3), (4, kx_i (x4 + (-1)))] [] w3))
theorem me_54_6 {f d : Nat} {C : kx_C} {x0 : Option Nat} {x1 : Option Nat} {x2 : Int32} {x3 : Int32} {x4 : Int32} {w : kx_H} : kx_ex (wm_54 d C) (f + 1) 6 [(0, kx_r 0 x0), (1, kx_r 5 x1), (2, kx_i x2), (3, kx_i x3), (4, kx_i x4)] [] w = mb_54_6 (kx_ex (wm_54 d C) f) d C x0 x1 x2 x3 x4 w := Eq.trans rfl rfl
def mb_54_35 (J : Nat → kx_F) (d : Nat) (C : kx_C)  (w : kx_H) : kx_O := some (.inl none, w)
theorem me_54_35 {f d : Nat} {C : kx_C}  {w : kx_H} : kx_ex (wm_54 d C) (f + 1) 35 [] [] w = mb_54_35 (kx_ex (wm_54 d C) f) d C  w := Eq.trans rfl rfl
/-! TaskDesk.offer(IZJ)I -/
def mb_55_0 (J : Nat → kx_F) (d : Nat) (C : kx_C) (x0 : Option Nat) (x1 : Int32) (x2 : Int32) (x3 : Int64) (w : kx_H) : kx_O := x0.bind fun a3 => kx_br 2 (C 49 [kx_r 0 (some a3), kx_i x1] w) fun y2 w1 =>
  x0.bind fun a6 => kx_br 6 (C 24 [kx_r 0 (some a6)] w1) fun y5 w4 =>
  x0.bind fun a7 => x0.bind fun a8 => if (16 : Int32) ≤ hp_I w4 28 a8 then (J 32 [] [] w4)
  else (if hp_R w4 30 a7 = none then (J 32 [] [] w4)
    else ((hp_R w4 30 a7).bind fun a9 => x0.bind fun a10 => let w11 := hp_sR w4 30 a10 (hp_R w4 816 a9);
      (hp_R w4 30 a7).bind fun a12 => let w13 := hp_sR w11 802 a12 y2;
      (hp_R w4 30 a7).bind fun a14 => kx_sb x2 fun b9 => let w15 := hp_sB w13 804 a14 b9;
      (hp_R w4 30 a7).bind fun a16 => let w17 := hp_sL w15 806 a16 x3;
        x0.bind fun a18 => (hp_R w4 30 a7).bind fun a19 => let w20 := hp_sI w17 808 a19 (hp_I w17 28 a18);
        x0.bind fun a21 => x0.bind fun a22 => (hp_R w20 26 a21).bind fun a23 => if hp_I w20 28 a22 < 0 ∨ hp_N w20 a23 ≤ (hp_I w20 28 a22 : Int32).toNatClampNeg then none else let w24 := hp_sR w20 (2 * a23 + 1) (hp_I w20 28 a22 : Int32).toNatClampNeg (hp_R w4 30 a7);
        x0.bind fun a25 => x0.bind fun a26 => let w27 := hp_sI w24 28 a26 ((hp_I w24 28 a25) + (1 : Int32));
        (hp_R w4 30 a7).bind fun a28 => some (.inl (some (.inl (hp_I w27 808 a28))), w27)))
theorem me_55_0 {f d : Nat} {C : kx_C} {x0 : Option Nat} {x1 : Int32} {x2 : Int32} {x3 : Int64} {w : kx_H} : kx_ex (wm_55 d C) (f + 1) 0 [(0, kx_r 0 x0), (1, kx_i x1), (2, kx_i x2), (3, kx_l x3)] [] w = mb_55_0 (kx_ex (wm_55 d C) f) d C x0 x1 x2 x3 w := Eq.trans rfl rfl
theorem mE_55 {φ d : Nat} (hφ : kx_fuel = φ + 1) {x0 : Option Nat} {x1 : Int32} {x2 : Int32} {x3 : Int64} {w : kx_H} : kx_ev wx_M (d + 1) 55 [kx_r 0 x0, kx_i x1, kx_i x2, kx_l x3] w = mb_55_0 (kx_ex (wm_55 d (kx_ev wx_M d)) φ) d (kx_ev wx_M d) x0 x1 x2 x3 w := by
  show kx_ex (wx_M 55 d (kx_ev wx_M d)) kx_fuel 0 [(0, kx_r 0 x0), (1, kx_i x1), (2, kx_i x2), (3, kx_l x3)] [] w = _
  rw [show wx_M 55 d (kx_ev wx_M d) = wm_55 d (kx_ev wx_M d) from rfl, hφ]
  exact me_55_0
def mb_55_32 (J : Nat → kx_F) (d : Nat) (C : kx_C)  (w : kx_H) : kx_O := kx_thd kx_cc kx_cs d 0 [] [] w
theorem me_55_32 {f d : Nat} {C : kx_C}  {w : kx_H} : kx_ex (wm_55 d C) (f + 1) 32 [] [] w = mb_55_32 (kx_ex (wm_55 d C) f) d C  w := Eq.trans rfl rfl
/-! TaskDesk.choose(IZ)Z -/
def mb_56_0 (J : Nat → kx_F) (d : Nat) (C : kx_C) (x0 : Option Nat) (x1 : Int32) (x2 : Int32) (w : kx_H) : kx_O := if 0 ≤ x1 then (x0.bind fun a3 => kx_br 6 (C 24 [kx_r 0 (some a3)] w) fun y2 w1 =>
    x0.bind fun a6 => kx_br 4 (C 57 [kx_r 0 (some a6), kx_i x1] w1) fun y5 w4 =>
    if y5 = none then (if x2 = 0 then (x0.bind fun a9 => kx_bv (C 61 [kx_r 0 (some a9), kx_r 6 y2] w4) fun w7 =>
        x0.bind fun a12 => kx_bv (C 30 [kx_r 0 (some a12)] w7) fun w10 =>
        if (0 : Int32) = 0 ∨ (0 : Int32) = 1 then some (.inl (some (.inl (0 : Int32))), w10) else none)
      else (x0.bind fun a15 => kx_bv (C 60 [kx_r 0 (some a15)] w4) fun w13 =>
        y2.bind fun a18 => kx_bv (C 12 [kx_r 6 (some a18), kx_l (0 : Int64), kx_i (0 : Int32), kx_i ((-1) : Int32), kx_i (0 : Int32)] w13) fun w16 =>
        if (1 : Int32) = 0 ∨ (1 : Int32) = 1 then some (.inl (some (.inl (1 : Int32))), w16) else none))
    else (x0.bind fun a21 => kx_bv (C 59 [kx_r 0 (some a21), kx_r 6 y2, kx_r 4 y5] w4) fun w19 =>
      if (1 : Int32) = 0 ∨ (1 : Int32) = 1 then some (.inl (some (.inl (1 : Int32))), w19) else none))
  else (kx_thd kx_cc kx_cs d 1 [(0, kx_r 0 x0), (1, kx_i x1), (2, kx_i x2)] [] w)
theorem me_56_0 {f d : Nat} {C : kx_C} {x0 : Option Nat} {x1 : Int32} {x2 : Int32} {w : kx_H} : kx_ex (wm_56 d C) (f + 1) 0 [(0, kx_r 0 x0), (1, kx_i x1), (2, kx_i x2)] [] w = mb_56_0 (kx_ex (wm_56 d C) f) d C x0 x1 x2 w := Eq.trans rfl rfl
theorem mE_56 {φ d : Nat} (hφ : kx_fuel = φ + 1) {x0 : Option Nat} {x1 : Int32} {x2 : Int32} {w : kx_H} : kx_ev wx_M (d + 1) 56 [kx_r 0 x0, kx_i x1, kx_i x2] w = mb_56_0 (kx_ex (wm_56 d (kx_ev wx_M d)) φ) d (kx_ev wx_M d) x0 x1 x2 w := by
  show kx_ex (wx_M 56 d (kx_ev wx_M d)) kx_fuel 0 [(0, kx_r 0 x0), (1, kx_i x1), (2, kx_i x2)] [] w = _
  rw [show wx_M 56 d (kx_ev wx_M d) = wm_56 d (kx_ev wx_M d) from rfl, hφ]
  exact me_56_0
/-! TaskDesk.openCase(I)LTaskDesk$Place; -/
def mb_57_0 (J : Nat → kx_F) (d : Nat) (C : kx_C) (x0 : Option Nat) (x1 : Int32) (w : kx_H) : kx_O := J 4 [(0, kx_r 0 x0), (1, kx_i x1), (2, kx_i (0 : Int32)), (3, kx_i (0 : Int32))] [] w
theorem me_57_0 {f d : Nat} {C : kx_C} {x0 : Option Nat} {x1 : Int32} {w : kx_H} : kx_ex (wm_57 d C) (f + 1) 0 [(0, kx_r 0 x0), (1, kx_i x1)] [] w = mb_57_0 (kx_ex (wm_57 d C) f) d C x0 x1 w := Eq.trans rfl rfl
theorem mE_57 {φ d : Nat} (hφ : kx_fuel = φ + 1) {x0 : Option Nat} {x1 : Int32} {w : kx_H} : kx_ev wx_M (d + 1) 57 [kx_r 0 x0, kx_i x1] w = mb_57_0 (kx_ex (wm_57 d (kx_ev wx_M d)) φ) d (kx_ev wx_M d) x0 x1 w := by
  show kx_ex (wx_M 57 d (kx_ev wx_M d)) kx_fuel 0 [(0, kx_r 0 x0), (1, kx_i x1)] [] w = _
  rw [show wx_M 57 d (kx_ev wx_M d) = wm_57 d (kx_ev wx_M d) from rfl, hφ]
  exact me_57_0
def mb_57_4 (J : Nat → kx_F) (d : Nat) (C : kx_C) (x0 : Option Nat) (x1 : Int32) (x2 : Int32) (x3 : Int32) (w : kx_H) : kx_O := x0.bind fun a1 => if hp_I w 28 a1 ≤ x3 then (if x2 ≤ 0 then (J 50 [(0, kx_r 0 x0)] [kx_i (0 : Int32)] w)
    else (if x2 = 0 then none else J 50 [(0, kx_r 0 x0)] [kx_i (x1 - x1 / x2 * x2)] w))
  else (x0.bind fun a2 => (hp_R w 26 a2).bind fun a3 => if x3 < 0 ∨ hp_N w a3 ≤ x3.toNatClampNeg then none else x0.bind fun a6 => kx_bi (C 58 [kx_r 0 (some a6), kx_r 4 (hp_R w (2 * a3 + 1) x3.toNatClampNeg)] w) fun y5 w4 =>
    if y5 = 0 then (J 31 [(0, kx_r 0 x0), (1, kx_i x1), (3, kx_i x3)] [kx_i (0 : Int32), kx_i x2] w4)
    else (J 31 [(0, kx_r 0 x0), (1, kx_i x1), (3, kx_i x3)] [kx_i (1 : Int32), kx_i x2] w4))
theorem me_57_4 {f d : Nat} {C : kx_C} {x0 : Option Nat} {x1 : Int32} {x2 : Int32} {x3 : Int32} {w : kx_H} : kx_ex (wm_57 d C) (f + 1) 4 [(0, kx_r 0 x0), (1, kx_i x1), (2, kx_i x2), (3, kx_i x3)] [] w = mb_57_4 (kx_ex (wm_57 d C) f) d C x0 x1 x2 x3 w := Eq.trans rfl rfl
def mb_57_31 (J : Nat → kx_F) (d : Nat) (C : kx_C) (x0 : Option Nat) (x1 : Int32) (x3 : Int32) (xs0 : Int32) (xs1 : Int32) (w : kx_H) : kx_O := J 4 [(0, kx_r 0 x0), (1, kx_i x1), (2, kx_i (xs1 + xs0)), (3, kx_i (x3 + 1))] [] w
theorem me_57_31 {f d : Nat} {C : kx_C} {x0 : Option Nat} {x1 : Int32} {x3 : Int32} {xs0 : Int32} {xs1 : Int32} {w : kx_H} : kx_ex (wm_57 d C) (f + 1) 31 [(0, kx_r 0 x0), (1, kx_i x1), (3, kx_i x3)] [kx_i xs0, kx_i xs1] w = mb_57_31 (kx_ex (wm_57 d C) f) d C x0 x1 x3 xs0 xs1 w := Eq.trans rfl rfl
def mb_57_50 (J : Nat → kx_F) (d : Nat) (C : kx_C) (x0 : Option Nat) (xs0 : Int32) (w : kx_H) : kx_O := J 54 [(0, kx_r 0 x0), (3, kx_i xs0), (4, kx_i (0 : Int32))] [] w
theorem me_57_50 {f d : Nat} {C : kx_C} {x0 : Option Nat} {xs0 : Int32} {w : kx_H} : kx_ex (wm_57 d C) (f + 1) 50 [(0, kx_r 0 x0)] [kx_i xs0] w = mb_57_50 (kx_ex (wm_57 d C) f) d C x0 xs0 w := Eq.trans rfl rfl
def mb_57_54 (J : Nat → kx_F) (d : Nat) (C : kx_C) (x0 : Option Nat) (x3 : Int32) (x4 : Int32) (w : kx_H) : kx_O := x0.bind fun a1 => if hp_I w 28 a1 ≤ x4 then (some (.inl (some (.inr (.inr (4, none)))), w))
  else (x0.bind fun a2 => (hp_R w 26 a2).bind fun a3 => if x4 < 0 ∨ hp_N w a3 ≤ x4.toNatClampNeg then none else x0.bind fun a6 => kx_bi (C 58 [kx_r 0 (some a6), kx_r 4 (hp_R w (2 * a3 + 1) x4.toNatClampNeg)] w) fun y5 w4 =>
    if y5 = 0 then (J 92 [(0, kx_r 0 x0), (3, kx_i x3), (4, kx_i x4)] [] w4)
    else (if x3 = 0 then (x0.bind fun a7 => (hp_R w4 26 a7).bind fun a8 => if x4 < 0 ∨ hp_N w4 a8 ≤ x4.toNatClampNeg then none else some (.inl (some (.inr (.inr (4, hp_R w4 (2 * a8 + 1) x4.toNatClampNeg)))), w4))
      else (J 92 [(0, kx_r 0 x0), (3, kx_i (x3 + (-1))), (4, kx_i x4)] [] w4)))
theorem me_57_54 {f d : Nat} {C : kx_C} {x0 : Option Nat} {x3 : Int32} {x4 : Int32} {w : kx_H} : kx_ex (wm_57 d C) (f + 1) 54 [(0, kx_r 0 x0), (3, kx_i x3), (4, kx_i x4)] [] w = mb_57_54 (kx_ex (wm_57 d C) f) d C x0 x3 x4 w := Eq.trans rfl rfl
def mb_57_92 (J : Nat → kx_F) (d : Nat) (C : kx_C) (x0 : Option Nat) (x3 : Int32) (x4 : Int32) (w : kx_H) : kx_O := J 54 [(0, kx_r 0 x0), (3, kx_i x3), (4, kx_i (x4 + 1))] [] w
theorem me_57_92 {f d : Nat} {C : kx_C} {x0 : Option Nat} {x3 : Int32} {x4 : Int32} {w : kx_H} : kx_ex (wm_57 d C) (f + 1) 92 [(0, kx_r 0 x0), (3, kx_i x3), (4, kx_i x4)] [] w = mb_57_92 (kx_ex (wm_57 d C) f) d C x0 x3 x4 w := Eq.trans rfl rfl
/-! TaskDesk.isOpen(LTaskDesk$Place;)Z -/
def mb_58_0 (J : Nat → kx_F) (d : Nat) (C : kx_C) (x0 : Option Nat) (x1 : Option Nat) (w : kx_H) : kx_O := if x1 = none then (if (0 : Int32) = 0 ∨ (0 : Int32) = 1 then some (.inl (some (.inl (0 : Int32))), w) else none)
  else (x1.bind fun a1 => x1.bind fun a2 => if kx_b (hp_B w 804 a2) = 0 then (x0.bind fun a5 => kx_bi (C 51 [kx_r 0 (some a5), kx_r 2 (hp_R w 802 a1)] w) fun y4 w3 =>
      J 46 [] [kx_i y4] w3)
    else ((hp_R w 802 a1).bind fun a6 => if kx_b (hp_B w 408 a6) = 0 then (x0.bind fun a9 => kx_bi (C 33 [kx_r 0 (some a9), kx_r 2 (hp_R w 802 a1)] w) fun y8 w7 =>
        if y8 = 0 then (J 46 [] [kx_i (0 : Int32)] w7)
        else (J 33 [] [] w7))
      else (J 33 [] [] w)))
theorem me_58_0 {f d : Nat} {C : kx_C} {x0 : Option Nat} {x1 : Option Nat} {w : kx_H} : kx_ex (wm_58 d C) (f + 1) 0 [(0, kx_r 0 x0), (1, kx_r 4 x1)] [] w = mb_58_0 (kx_ex (wm_58 d C) f) d C x0 x1 w := Eq.trans rfl rfl
theorem mE_58 {φ d : Nat} (hφ : kx_fuel = φ + 1) {x0 : Option Nat} {x1 : Option Nat} {w : kx_H} : kx_ev wx_M (d + 1) 58 [kx_r 0 x0, kx_r 4 x1] w = mb_58_0 (kx_ex (wm_58 d (kx_ev wx_M d)) φ) d (kx_ev wx_M d) x0 x1 w := by
  show kx_ex (wx_M 58 d (kx_ev wx_M d)) kx_fuel 0 [(0, kx_r 0 x0), (1, kx_r 4 x1)] [] w = _
  rw [show wx_M 58 d (kx_ev wx_M d) = wm_58 d (kx_ev wx_M d) from rfl, hφ]
  exact me_58_0
def mb_58_33 (J : Nat → kx_F) (d : Nat) (C : kx_C)  (w : kx_H) : kx_O := J 46 [] [kx_i (1 : Int32)] w
theorem me_58_33 {f d : Nat} {C : kx_C}  {w : kx_H} : kx_ex (wm_58 d C) (f + 1) 33 [] [] w = mb_58_33 (kx_ex (wm_58 d C) f) d C  w := Eq.trans rfl rfl
def mb_58_46 (J : Nat → kx_F) (d : Nat) (C : kx_C) (xs0 : Int32) (w : kx_H) : kx_O := if xs0 = 0 ∨ xs0 = 1 then some (.inl (some (.inl xs0)), w) else none
theorem me_58_46 {f d : Nat} {C : kx_C} {xs0 : Int32} {w : kx_H} : kx_ex (wm_58 d C) (f + 1) 46 [] [kx_i xs0] w = mb_58_46 (kx_ex (wm_58 d C) f) d C xs0 w := Eq.trans rfl rfl
/-! TaskDesk.doCase(LTaskDesk$Task;LTaskDesk$Place;)V -/
def mb_59_0 (J : Nat → kx_F) (d : Nat) (C : kx_C) (x0 : Option Nat) (x1 : Option Nat) (x2 : Option Nat) (w : kx_H) : kx_O := x2.bind fun a1 => x0.bind fun a4 => kx_bv (C 60 [kx_r 0 (some a4)] w) fun w2 =>
  x2.bind fun a5 => if kx_b (hp_B w2 804 a5) = 0 then (x2.bind fun a15 => x0.bind fun a18 => kx_bv (C 52 [kx_r 0 (some a18), kx_r 6 x1, kx_r 2 (hp_R w 802 a1), kx_i (hp_I w2 808 a15)] w2) fun w16 =>
    J 66 [] [] w16)
  else ((hp_R w 802 a1).bind fun a6 => if kx_b (hp_B w2 408 a6) = 0 then (x2.bind fun a7 => x0.bind fun a10 => kx_bv (C 34 [kx_r 0 (some a10), kx_r 2 (hp_R w 802 a1), kx_l (hp_L w2 806 a7)] w2) fun w8 =>
      x2.bind fun a11 => x1.bind fun a14 => kx_bv (C 12 [kx_r 6 (some a14), kx_l (0 : Int64), kx_i (1 : Int32), kx_i (hp_I w8 808 a11), kx_i (0 : Int32)] w8) fun w12 =>
      J 66 [] [] w12)
    else (kx_thd kx_cc kx_cs d 2 [(3, kx_r 2 (hp_R w 802 a1)), (0, kx_r 0 x0), (1, kx_r 6 x1), (2, kx_r 4 x2)] [] w2))
theorem me_59_0 {f d : Nat} {C : kx_C} {x0 : Option Nat} {x1 : Option Nat} {x2 : Option Nat} {w : kx_H} : kx_ex (wm_59 d C) (f + 1) 0 [(0, kx_r 0 x0), (1, kx_r 6 x1), (2, kx_r 4 x2)] [] w = mb_59_0 (kx_ex (wm_59 d C) f) d C x0 x1 x2 w := Eq.trans rfl rfl
theorem mE_59 {φ d : Nat} (hφ : kx_fuel = φ + 1) {x0 : Option Nat} {x1 : Option Nat} {x2 : Option Nat} {w : kx_H} : kx_ev wx_M (d + 1) 59 [kx_r 0 x0, kx_r 6 x1, kx_r 4 x2] w = mb_59_0 (kx_ex (wm_59 d (kx_ev wx_M d)) φ) d (kx_ev wx_M d) x0 x1 x2 w := by
  show kx_ex (wx_M 59 d (kx_ev wx_M d)) kx_fuel 0 [(0, kx_r 0 x0), (1, kx_r 6 x1), (2, kx_r 4 x2)] [] w = _
  rw [show wx_M 59 d (kx_ev wx_M d) = wm_59 d (kx_ev wx_M d) from rfl, hφ]
  exact me_59_0
def mb_59_66 (J : Nat → kx_F) (d : Nat) (C : kx_C)  (w : kx_H) : kx_O := some (.inl none, w)
theorem me_59_66 {f d : Nat} {C : kx_C}  {w : kx_H} : kx_ex (wm_59 d C) (f + 1) 66 [] [] w = mb_59_66 (kx_ex (wm_59 d C) f) d C  w := Eq.trans rfl rfl
/-! TaskDesk.forgetCases()V -/
def mb_60_0 (J : Nat → kx_F) (d : Nat) (C : kx_C) (x0 : Option Nat) (w : kx_H) : kx_O := J 2 [(0, kx_r 0 x0), (1, kx_i (0 : Int32))] [] w
theorem me_60_0 {f d : Nat} {C : kx_C} {x0 : Option Nat} {w : kx_H} : kx_ex (wm_60 d C) (f + 1) 0 [(0, kx_r 0 x0)] [] w = mb_60_0 (kx_ex (wm_60 d C) f) d C x0 w := Eq.trans rfl rfl
theorem mE_60 {φ d : Nat} (hφ : kx_fuel = φ + 1) {x0 : Option Nat} {w : kx_H} : kx_ev wx_M (d + 1) 60 [kx_r 0 x0] w = mb_60_0 (kx_ex (wm_60 d (kx_ev wx_M d)) φ) d (kx_ev wx_M d) x0 w := by
  show kx_ex (wx_M 60 d (kx_ev wx_M d)) kx_fuel 0 [(0, kx_r 0 x0)] [] w = _
  rw [show wx_M 60 d (kx_ev wx_M d) = wm_60 d (kx_ev wx_M d) from rfl, hφ]
  exact me_60_0
def mb_60_2 (J : Nat → kx_F) (d : Nat) (C : kx_C) (x0 : Option Nat) (x1 : Int32) (w : kx_H) : kx_O := x0.bind fun a1 => if hp_I w 28 a1 ≤ x1 then (x0.bind fun a2 => let w3 := hp_sI w 28 a2 (0 : Int32);
    some (.inl none, w3))
  else (x0.bind fun a4 => (hp_R w 26 a4).bind fun a5 => if x1 < 0 ∨ hp_N w a5 ≤ x1.toNatClampNeg then none else if hp_R w (2 * a5 + 1) x1.toNatClampNeg = none then (J 29 [(0, kx_r 0 x0), (1, kx_i x1)] [] w)
    else (x0.bind fun a6 => (hp_R w 26 a6).bind fun a7 => if x1 < 0 ∨ hp_N w a7 ≤ x1.toNatClampNeg then none else x0.bind fun a10 => kx_bv (C 10 [kx_r 0 (some a10), kx_r 4 (hp_R w (2 * a7 + 1) x1.toNatClampNeg)] w) fun w8 =>
      J 29 [(0, kx_r 0 x0), (1, kx_i x1)] [] w8))
theorem me_60_2 {f d : Nat} {C : kx_C} {x0 : Option Nat} {x1 : Int32} {w : kx_H} : kx_ex (wm_60 d C) (f + 1) 2 [(0, kx_r 0 x0), (1, kx_i x1)] [] w = mb_60_2 (kx_ex (wm_60 d C) f) d C x0 x1 w := Eq.trans rfl rfl
def mb_60_29 (J : Nat → kx_F) (d : Nat) (C : kx_C) (x0 : Option Nat) (x1 : Int32) (w : kx_H) : kx_O := J 2 [(0, kx_r 0 x0), (1, kx_i (x1 + 1))] [] w
theorem me_60_29 {f d : Nat} {C : kx_C} {x0 : Option Nat} {x1 : Int32} {w : kx_H} : kx_ex (wm_60 d C) (f + 1) 29 [(0, kx_r 0 x0), (1, kx_i x1)] [] w = mb_60_29 (kx_ex (wm_60 d C) f) d C x0 x1 w := Eq.trans rfl rfl
/-! TaskDesk.waitInCases(LTaskDesk$Task;)V -/
def mb_61_0 (J : Nat → kx_F) (d : Nat) (C : kx_C) (x0 : Option Nat) (x1 : Option Nat) (w : kx_H) : kx_O := x1.bind fun a1 => let w2 := hp_sI w 1206 a1 (7 : Int32);
  J 8 [(0, kx_r 0 x0), (1, kx_r 6 x1), (2, kx_i (0 : Int32))] [] w2
theorem me_61_0 {f d : Nat} {C : kx_C} {x0 : Option Nat} {x1 : Option Nat} {w : kx_H} : kx_ex (wm_61 d C) (f + 1) 0 [(0, kx_r 0 x0), (1, kx_r 6 x1)] [] w = mb_61_0 (kx_ex (wm_61 d C) f) d C x0 x1 w := Eq.trans rfl rfl
theorem mE_61 {φ d : Nat} (hφ : kx_fuel = φ + 1) {x0 : Option Nat} {x1 : Option Nat} {w : kx_H} : kx_ev wx_M (d + 1) 61 [kx_r 0 x0, kx_r 6 x1] w = mb_61_0 (kx_ex (wm_61 d (kx_ev wx_M d)) φ) d (kx_ev wx_M d) x0 x1 w := by
  show kx_ex (wx_M 61 d (kx_ev wx_M d)) kx_fuel 0 [(0, kx_r 0 x0), (1, kx_r 6 x1)] [] w = _
  rw [show wx_M 61 d (kx_ev wx_M d) = wm_61 d (kx_ev wx_M d) from rfl, hφ]
  exact me_61_0
def mb_61_8 (J : Nat → kx_F) (d : Nat) (C : kx_C) (x0 : Option Nat) (x1 : Option Nat) (x2 : Int32) (w : kx_H) : kx_O := x0.bind fun a1 => if hp_I w 28 a1 ≤ x2 then (x0.bind fun a2 => let w3 := hp_sI w 28 a2 (0 : Int32);
    some (.inl none, w3))
  else (x0.bind fun a4 => (hp_R w 26 a4).bind fun a5 => if x2 < 0 ∨ hp_N w a5 ≤ x2.toNatClampNeg then none else if hp_R w (2 * a5 + 1) x2.toNatClampNeg = none then (J 87 [(0, kx_r 0 x0), (1, kx_r 6 x1), (2, kx_i x2)] [] w)
    else ((hp_R w (2 * a5 + 1) x2.toNatClampNeg).bind fun a6 => if kx_b (hp_B w 804 a6) = 0 then ((hp_R w (2 * a5 + 1) x2.toNatClampNeg).bind fun a7 => (hp_R w 802 a7).bind fun a8 => J 51 [(0, kx_r 0 x0), (1, kx_r 6 x1), (2, kx_i x2), (3, kx_r 4 (hp_R w (2 * a5 + 1) x2.toNatClampNeg))] [kx_r 5 (hp_R w 404 a8)] w)
      else ((hp_R w (2 * a5 + 1) x2.toNatClampNeg).bind fun a9 => (hp_R w 802 a9).bind fun a10 => J 51 [(0, kx_r 0 x0), (1, kx_r 6 x1), (2, kx_i x2), (3, kx_r 4 (hp_R w (2 * a5 + 1) x2.toNatClampNeg))] [kx_r 5 (hp_R w 402 a10)] w)))
theorem me_61_8 {f d : Nat} {C : kx_C} {x0 : Option Nat} {x1 : Option Nat} {x2 : Int32} {w : kx_H} : kx_ex (wm_61 d C) (f + 1) 8 [(0, kx_r 0 x0), (1, kx_r 6 x1), (2, kx_i x2)] [] w = mb_61_8 (kx_ex (wm_61 d C) f) d C x0 x1 x2 w := Eq.trans rfl rfl
def mb_61_51 (J : Nat → kx_F) (d : Nat) (C : kx_C) (x0 : Option Nat) (x1 : Option Nat) (x2 : Int32) (x3 : Option Nat) (xs0 : Option Nat) (w : kx_H) : kx_O := xs0.bind fun a3 => kx_bv (C 28 [kx_r 5 (some a3), kx_r 4 x3] w) fun w1 =>
  x1.bind fun a6 => kx_bv (C 62 [kx_r 6 (some a6), kx_r 4 x3] w1) fun w4 =>
  x3.bind fun a7 => x0.bind fun a8 => if hp_R w4 802 a7 = hp_R w4 18 a8 then (x1.bind fun a9 => J 84 [(0, kx_r 0 x0), (1, kx_r 6 x1), (2, kx_i x2)] [kx_i (hp_I w4 1206 a9), kx_r 6 x1] w4)
  else (J 84 [(0, kx_r 0 x0), (1, kx_r 6 x1), (2, kx_i x2)] [kx_i (4 : Int32), kx_r 6 x1] w4)
theorem me_61_51 {f d : Nat} {C : kx_C} {x0 : Option Nat} {x1 : Option Nat} {x2 : Int32} {x3 : Option Nat} {xs0 : Option Nat} {w : kx_H} : kx_ex (wm_61 d C) (f + 1) 51 [(0, kx_r 0 x0), (1, kx_r 6 x1), (2, kx_i x2), (3, kx_r 4 x3)] [kx_r 5 xs0] w = mb_61_51 (kx_ex (wm_61 d C) f) d C x0 x1 x2 x3 xs0 w := Eq.trans rfl rfl
def mb_61_84 (J : Nat → kx_F) (d : Nat) (C : kx_C) (x0 : Option Nat) (x1 : Option Nat) (x2 : Int32) (xs0 : Int32) (xs1 : Option Nat) (w : kx_H) : kx_O := xs1.bind fun a1 => let w2 := hp_sI w 1206 a1 xs0;
  J 87 [(0, kx_r 0 x0), (1, kx_r 6 x1), (2, kx_i x2)] [] w2
theorem me_61_84 {f d : Nat} {C : kx_C} {x0 : Option Nat} {x1 : Option Nat} {x2 : Int32} {xs0 : Int32} {xs1 : Option Nat} {w : kx_H} : kx_ex (wm_61 d C) (f + 1) 84 [(0, kx_r 0 x0), (1, kx_r 6 x1), (2, kx_i x2)] [kx_i xs0, kx_r 6 xs1] w = mb_61_84 (kx_ex (wm_61 d C) f) d C x0 x1 x2 xs0 xs1 w := Eq.trans rfl rfl
def mb_61_87 (J : Nat → kx_F) (d : Nat) (C : kx_C) (x0 : Option Nat) (x1 : Option Nat) (x2 : Int32) (w : kx_H) : kx_O := J 8 [(0, kx_r 0 x0), (1, kx_r 6 x1), (2, kx_i (x2 + 1))] [] w
theorem me_61_87 {f d : Nat} {C : kx_C} {x0 : Option Nat} {x1 : Option Nat} {x2 : Int32} {w : kx_H} : kx_ex (wm_61 d C) (f + 1) 87 [(0, kx_r 0 x0), (1, kx_r 6 x1), (2, kx_i x2)] [] w = mb_61_87 (kx_ex (wm_61 d C) f) d C x0 x1 x2 w := Eq.trans rfl rfl
/-! TaskDesk$Task.adopt(LTaskDesk$Place;)V -/
def mb_62_0 (J : Nat → kx_F) (d : Nat) (C : kx_C) (x0 : Option Nat) (x1 : Option Nat) (w : kx_H) : kx_O := x1.bind fun a1 => let w2 := hp_sR w 800 a1 x0;
  x0.bind fun a3 => x1.bind fun a4 => let w5 := hp_sR w2 816 a4 (hp_R w2 1210 a3);
  x0.bind fun a6 => let w7 := hp_sR w5 1210 a6 x1;
  some (.inl none, w7)
theorem me_62_0 {f d : Nat} {C : kx_C} {x0 : Option Nat} {x1 : Option Nat} {w : kx_H} : kx_ex (wm_62 d C) (f + 1) 0 [(0, kx_r 6 x0), (1, kx_r 4 x1)] [] w = mb_62_0 (kx_ex (wm_62 d C) f) d C x0 x1 w := Eq.trans rfl rfl
theorem mE_62 {φ d : Nat} (hφ : kx_fuel = φ + 1) {x0 : Option Nat} {x1 : Option Nat} {w : kx_H} : kx_ev wx_M (d + 1) 62 [kx_r 6 x0, kx_r 4 x1] w = mb_62_0 (kx_ex (wm_62 d (kx_ev wx_M d)) φ) d (kx_ev wx_M d) x0 x1 w := by
  show kx_ex (wx_M 62 d (kx_ev wx_M d)) kx_fuel 0 [(0, kx_r 6 x0), (1, kx_r 4 x1)] [] w = _
  rw [show wx_M 62 d (kx_ev wx_M d) = wm_62 d (kx_ev wx_M d) from rfl, hφ]
  exact me_62_0
/-! TaskDesk.gate(II)I -/
def mb_63_0 (J : Nat → kx_F) (d : Nat) (C : kx_C) (x0 : Option Nat) (x1 : Int32) (x2 : Int32) (w : kx_H) : kx_O := if x1 = (3 : Int32) then (x0.bind fun a3 => kx_br 3 (C 64 [kx_r 0 (some a3), kx_i x2] w) fun y2 w1 =>
    J 14 [(0, kx_r 0 x0), (1, kx_i x1)] [kx_r 3 y2] w1)
  else (J 14 [(0, kx_r 0 x0), (1, kx_i x1)] [kx_r 3 none] w)
theorem me_63_0 {f d : Nat} {C : kx_C} {x0 : Option Nat} {x1 : Int32} {x2 : Int32} {w : kx_H} : kx_ex (wm_63 d C) (f + 1) 0 [(0, kx_r 0 x0), (1, kx_i x1), (2, kx_i x2)] [] w = mb_63_0 (kx_ex (wm_63 d C) f) d C x0 x1 x2 w := Eq.trans rfl rfl
theorem mE_63 {φ d : Nat} (hφ : kx_fuel = φ + 1) {x0 : Option Nat} {x1 : Int32} {x2 : Int32} {w : kx_H} : kx_ev wx_M (d + 1) 63 [kx_r 0 x0, kx_i x1, kx_i x2] w = mb_63_0 (kx_ex (wm_63 d (kx_ev wx_M d)) φ) d (kx_ev wx_M d) x0 x1 x2 w := by
  show kx_ex (wx_M 63 d (kx_ev wx_M d)) kx_fuel 0 [(0, kx_r 0 x0), (1, kx_i x1), (2, kx_i x2)] [] w = _
  rw [show wx_M 63 d (kx_ev wx_M d) = wm_63 d (kx_ev wx_M d) from rfl, hφ]
  exact me_63_0
def mb_63_14 (J : Nat → kx_F) (d : Nat) (C : kx_C) (x0 : Option Nat) (x1 : Int32) (xs0 : Option Nat) (w : kx_H) : kx_O := if x1 = (3 : Int32) then (if xs0 = none then (J 31 [(0, kx_r 0 x0), (1, kx_i x1), (3, kx_r 3 xs0)] [] w)
    else (xs0.bind fun a1 => if hp_I w 606 a1 = 0 then (J 35 [(0, kx_r 0 x0), (1, kx_i x1), (3, kx_r 3 xs0)] [] w)
      else (J 31 [(0, kx_r 0 x0), (1, kx_i x1), (3, kx_r 3 xs0)] [] w)))
  else (J 35 [(0, kx_r 0 x0), (1, kx_i x1), (3, kx_r 3 xs0)] [] w)
theorem me_63_14 {f d : Nat} {C : kx_C} {x0 : Option Nat} {x1 : Int32} {xs0 : Option Nat} {w : kx_H} : kx_ex (wm_63 d C) (f + 1) 14 [(0, kx_r 0 x0), (1, kx_i x1)] [kx_r 3 xs0] w = mb_63_14 (kx_ex (wm_63 d C) f) d C x0 x1 xs0 w := Eq.trans rfl rfl
def mb_63_31 (J : Nat → kx_F) (d : Nat) (C : kx_C) (x0 : Option Nat) (x1 : Int32) (x3 : Option Nat) (w : kx_H) : kx_O := J 36 [(0, kx_r 0 x0), (1, kx_i x1), (3, kx_r 3 x3)] [kx_i (1 : Int32)] w
theorem me_63_31 {f d : Nat} {C : kx_C} {x0 : Option Nat} {x1 : Int32} {x3 : Option Nat} {w : kx_H} : kx_ex (wm_63 d C) (f + 1) 31 [(0, kx_r 0 x0), (1, kx_i x1), (3, kx_r 3 x3)] [] w = mb_63_31 (kx_ex (wm_63 d C) f) d C x0 x1 x3 w := Eq.trans rfl rfl
def mb_63_35 (J : Nat → kx_F) (d : Nat) (C : kx_C) (x0 : Option Nat) (x1 : Int32) (x3 : Option Nat) (w : kx_H) : kx_O := J 36 [(0, kx_r 0 x0), (1, kx_i x1), (3, kx_r 3 x3)] [kx_i (0 : Int32)] w
theorem me_63_35 {f d : Nat} {C : kx_C} {x0 : Option Nat} {x1 : Int32} {x3 : Option Nat} {w : kx_H} : kx_ex (wm_63 d C) (f + 1) 35 [(0, kx_r 0 x0), (1, kx_i x1), (3, kx_r 3 x3)] [] w = mb_63_35 (kx_ex (wm_63 d C) f) d C x0 x1 x3 w := Eq.trans rfl rfl
def mb_63_36 (J : Nat → kx_F) (d : Nat) (C : kx_C) (x0 : Option Nat) (x1 : Int32) (x3 : Option Nat) (xs0 : Int32) (w : kx_H) : kx_O := if x1 < 0 then (J 52 [] [] w)
  else (if (4 : Int32) < x1 then (J 52 [] [] w)
    else (if xs0 = 0 then (x0.bind fun a1 => if hp_I w 34 a1 < (256 : Int32) then (x0.bind fun a2 => x0.bind fun a3 => (hp_R w 32 a2).bind fun a4 => if hp_I w 34 a3 < 0 ∨ hp_N w a4 ≤ (hp_I w 34 a3 : Int32).toNatClampNeg then none else (hp_R w (2 * a4 + 1) (hp_I w 34 a3 : Int32).toNatClampNeg).bind fun a5 => let w6 := hp_sI w 606 a5 x1;
          (hp_R w (2 * a4 + 1) (hp_I w 34 a3 : Int32).toNatClampNeg).bind fun a7 => let w8 := hp_sR w6 610 a7 x3;
          x0.bind fun a9 => x0.bind fun a10 => let w11 := hp_sI w8 34 a10 ((hp_I w8 34 a9) + (1 : Int32));
          (hp_R w (2 * a4 + 1) (hp_I w 34 a3 : Int32).toNatClampNeg).bind fun a12 => some (.inl (some (.inl (hp_I w11 600 a12))), w11))
        else (kx_thd kx_cc kx_cs d 0 [(4, kx_i xs0), (0, kx_r 0 x0), (1, kx_i x1), (3, kx_r 3 x3)] [] w))
      else (J 52 [] [] w)))
theorem me_63_36 {f d : Nat} {C : kx_C} {x0 : Option Nat} {x1 : Int32} {x3 : Option Nat} {xs0 : Int32} {w : kx_H} : kx_ex (wm_63 d C) (f + 1) 36 [(0, kx_r 0 x0), (1, kx_i x1), (3, kx_r 3 x3)] [kx_i xs0] w = mb_63_36 (kx_ex (wm_63 d C) f) d C x0 x1 x3 xs0 w := Eq.trans rfl rfl
def mb_63_52 (J : Nat → kx_F) (d : Nat) (C : kx_C)  (w : kx_H) : kx_O := kx_thd kx_cc kx_cs d 1 [] [] w
theorem me_63_52 {f d : Nat} {C : kx_C}  {w : kx_H} : kx_ex (wm_63 d C) (f + 1) 52 [] [] w = mb_63_52 (kx_ex (wm_63 d C) f) d C  w := Eq.trans rfl rfl
/-! TaskDesk.gateAt(I)LTaskDesk$Gate; -/
def mb_64_0 (J : Nat → kx_F) (d : Nat) (C : kx_C) (x0 : Option Nat) (x1 : Int32) (w : kx_H) : kx_O := if x1 < 0 then (J 12 [] [] w)
  else (x0.bind fun a1 => if x1 < hp_I w 34 a1 then (x0.bind fun a2 => (hp_R w 32 a2).bind fun a3 => if x1 < 0 ∨ hp_N w a3 ≤ x1.toNatClampNeg then none else J 22 [] [kx_r 3 (hp_R w (2 * a3 + 1) x1.toNatClampNeg)] w)
    else (J 12 [] [] w))
theorem me_64_0 {f d : Nat} {C : kx_C} {x0 : Option Nat} {x1 : Int32} {w : kx_H} : kx_ex (wm_64 d C) (f + 1) 0 [(0, kx_r 0 x0), (1, kx_i x1)] [] w = mb_64_0 (kx_ex (wm_64 d C) f) d C x0 x1 w := Eq.trans rfl rfl
theorem mE_64 {φ d : Nat} (hφ : kx_fuel = φ + 1) {x0 : Option Nat} {x1 : Int32} {w : kx_H} : kx_ev wx_M (d + 1) 64 [kx_r 0 x0, kx_i x1] w = mb_64_0 (kx_ex (wm_64 d (kx_ev wx_M d)) φ) d (kx_ev wx_M d) x0 x1 w := by
  show kx_ex (wx_M 64 d (kx_ev wx_M d)) kx_fuel 0 [(0, kx_r 0 x0), (1, kx_i x1)] [] w = _
  rw [show wx_M 64 d (kx_ev wx_M d) = wm_64 d (kx_ev wx_M d) from rfl, hφ]
  exact me_64_0
def mb_64_12 (J : Nat → kx_F) (d : Nat) (C : kx_C)  (w : kx_H) : kx_O := J 22 [] [kx_r 3 none] w
theorem me_64_12 {f d : Nat} {C : kx_C}  {w : kx_H} : kx_ex (wm_64 d C) (f + 1) 12 [] [] w = mb_64_12 (kx_ex (wm_64 d C) f) d C  w := Eq.trans rfl rfl
def mb_64_22 (J : Nat → kx_F) (d : Nat) (C : kx_C) (xs0 : Option Nat) (w : kx_H) : kx_O := some (.inl (some (.inr (.inr (3, xs0)))), w)
theorem me_64_22 {f d : Nat} {C : kx_C} {xs0 : Option Nat} {w : kx_H} : kx_ex (wm_64 d C) (f + 1) 22 [] [kx_r 3 xs0] w = mb_64_22 (kx_ex (wm_64 d C) f) d C xs0 w := Eq.trans rfl rfl
/-! TaskDesk.enter(I)Z -/
def mb_65_0 (J : Nat → kx_F) (d : Nat) (C : kx_C) (x0 : Option Nat) (x1 : Int32) (w : kx_H) : kx_O := x0.bind fun a3 => kx_br 3 (C 66 [kx_r 0 (some a3), kx_i x1] w) fun y2 w1 =>
  x0.bind fun a6 => kx_br 6 (C 24 [kx_r 0 (some a6)] w1) fun y5 w4 =>
  y2.bind fun a7 => if hp_I w4 606 a7 = (3 : Int32) then (x0.bind fun a10 => kx_bv (C 67 [kx_r 0 (some a10), kx_r 3 y2] w4) fun w8 =>
    J 24 [(0, kx_r 0 x0), (2, kx_r 3 y2), (3, kx_r 6 y5)] [] w8)
  else (J 24 [(0, kx_r 0 x0), (2, kx_r 3 y2), (3, kx_r 6 y5)] [] w4)
theorem me_65_0 {f d : Nat} {C : kx_C} {x0 : Option Nat} {x1 : Int32} {w : kx_H} : kx_ex (wm_65 d C) (f + 1) 0 [(0, kx_r 0 x0), (1, kx_i x1)] [] w = mb_65_0 (kx_ex (wm_65 d C) f) d C x0 x1 w := Eq.trans rfl rfl
theorem mE_65 {φ d : Nat} (hφ : kx_fuel = φ + 1) {x0 : Option Nat} {x1 : Int32} {w : kx_H} : kx_ev wx_M (d + 1) 65 [kx_r 0 x0, kx_i x1] w = mb_65_0 (kx_ex (wm_65 d (kx_ev wx_M d)) φ) d (kx_ev wx_M d) x0 x1 w := by
  show kx_ex (wx_M 65 d (kx_ev wx_M d)) kx_fuel 0 [(0, kx_r 0 x0), (1, kx_i x1)] [] w = _
  rw [show wx_M 65 d (kx_ev wx_M d) = wm_65 d (kx_ev wx_M d) from rfl, hφ]
  exact me_65_0
def mb_65_24 (J : Nat → kx_F) (d : Nat) (C : kx_C) (x0 : Option Nat) (x2 : Option Nat) (x3 : Option Nat) (w : kx_H) : kx_O := x2.bind fun a3 => kx_bi (C 69 [kx_r 3 (some a3)] w) fun y2 w1 =>
  if y2 = 0 then (x2.bind fun a4 => x2.bind fun a5 => x3.bind fun a8 => kx_bv (C 27 [kx_r 6 (some a8), kx_r 5 (hp_R w1 602 a4), kx_i (6 : Int32), kx_i (hp_I w1 600 a5)] w1) fun w6 =>
    x0.bind fun a11 => kx_bv (C 30 [kx_r 0 (some a11)] w6) fun w9 =>
    if (0 : Int32) = 0 ∨ (0 : Int32) = 1 then some (.inl (some (.inl (0 : Int32))), w9) else none)
  else (x2.bind fun a12 => if hp_I w1 606 a12 = (4 : Int32) then (x2.bind fun a13 => if hp_I w1 608 a13 = 0 then (J 46 [(2, kx_r 3 x2), (3, kx_r 6 x3)] [] w1)
      else (J 51 [(2, kx_r 3 x2), (3, kx_r 6 x3)] [kx_i (0 : Int32)] w1))
    else (J 46 [(2, kx_r 3 x2), (3, kx_r 6 x3)] [] w1))
theorem me_65_24 {f d : Nat} {C : kx_C} {x0 : Option Nat} {x2 : Option Nat} {x3 : Option Nat} {w : kx_H} : kx_ex (wm_65 d C) (f + 1) 24 [(0, kx_r 0 x0), (2, kx_r 3 x2), (3, kx_r 6 x3)] [] w = mb_65_24 (kx_ex (wm_65 d C) f) d C x0 x2 x3 w := Eq.trans rfl rfl
def mb_65_46 (J : Nat → kx_F) (d : Nat) (C : kx_C) (x2 : Option Nat) (x3 : Option Nat) (w : kx_H) : kx_O := J 51 [(2, kx_r 3 x2), (3, kx_r 6 x3)] [kx_i (1 : Int32)] w
theorem me_65_46 {f d : Nat} {C : kx_C} {x2 : Option Nat} {x3 : Option Nat} {w : kx_H} : kx_ex (wm_65 d C) (f + 1) 46 [(2, kx_r 3 x2), (3, kx_r 6 x3)] [] w = mb_65_46 (kx_ex (wm_65 d C) f) d C x2 x3 w := Eq.trans rfl rfl
def mb_65_51 (J : Nat → kx_F) (d : Nat) (C : kx_C) (x2 : Option Nat) (x3 : Option Nat) (xs0 : Int32) (w : kx_H) : kx_O := x2.bind fun a3 => kx_bv (C 70 [kx_r 3 (some a3)] w) fun w1 =>
  x3.bind fun a6 => kx_bv (C 12 [kx_r 6 (some a6), kx_l (0 : Int64), kx_i xs0, kx_i ((-1) : Int32), kx_i (0 : Int32)] w1) fun w4 =>
  if (1 : Int32) = 0 ∨ (1 : Int32) = 1 then some (.inl (some (.inl (1 : Int32))), w4) else none
theorem me_65_51 {f d : Nat} {C : kx_C} {x2 : Option Nat} {x3 : Option Nat} {xs0 : Int32} {w : kx_H} : kx_ex (wm_65 d C) (f + 1) 51 [(2, kx_r 3 x2), (3, kx_r 6 x3)] [kx_i xs0] w = mb_65_51 (kx_ex (wm_65 d C) f) d C x2 x3 xs0 w := Eq.trans rfl rfl
/-! TaskDesk.mustBeGate(I)LTaskDesk$Gate; -/
def mb_66_0 (J : Nat → kx_F) (d : Nat) (C : kx_C) (x0 : Option Nat) (x1 : Int32) (w : kx_H) : kx_O := x0.bind fun a3 => kx_br 3 (C 64 [kx_r 0 (some a3), kx_i x1] w) fun y2 w1 =>
  if y2 = none then (kx_thd kx_cc kx_cs d 1 [(2, kx_r 3 y2), (0, kx_r 0 x0), (1, kx_i x1)] [] w1)
  else (some (.inl (some (.inr (.inr (3, y2)))), w1))
theorem me_66_0 {f d : Nat} {C : kx_C} {x0 : Option Nat} {x1 : Int32} {w : kx_H} : kx_ex (wm_66 d C) (f + 1) 0 [(0, kx_r 0 x0), (1, kx_i x1)] [] w = mb_66_0 (kx_ex (wm_66 d C) f) d C x0 x1 w := Eq.trans rfl rfl
theorem mE_66 {φ d : Nat} (hφ : kx_fuel = φ + 1) {x0 : Option Nat} {x1 : Int32} {w : kx_H} : kx_ev wx_M (d + 1) 66 [kx_r 0 x0, kx_i x1] w = mb_66_0 (kx_ex (wm_66 d (kx_ev wx_M d)) φ) d (kx_ev wx_M d) x0 x1 w := by
  show kx_ex (wx_M 66 d (kx_ev wx_M d)) kx_fuel 0 [(0, kx_r 0 x0), (1, kx_i x1)] [] w = _
  rw [show wx_M 66 d (kx_ev wx_M d) = wm_66 d (kx_ev wx_M d) from rfl, hφ]
  exact me_66_0
/-! TaskDesk.giveUpLockOf(LTaskDesk$Gate;)V -/
def mb_67_0 (J : Nat → kx_F) (d : Nat) (C : kx_C) (x0 : Option Nat) (x1 : Option Nat) (w : kx_H) : kx_O := x1.bind fun a1 => if hp_R w 610 a1 = none then (J 17 [] [] w)
  else (x1.bind fun a2 => (hp_R w 610 a2).bind fun a3 => if hp_I w 608 a3 = 0 then (J 17 [] [] w)
    else (x1.bind fun a4 => x0.bind fun a7 => kx_bv (C 68 [kx_r 0 (some a7), kx_r 3 (hp_R w 610 a4)] w) fun w5 =>
      some (.inl none, w5)))
theorem me_67_0 {f d : Nat} {C : kx_C} {x0 : Option Nat} {x1 : Option Nat} {w : kx_H} : kx_ex (wm_67 d C) (f + 1) 0 [(0, kx_r 0 x0), (1, kx_r 3 x1)] [] w = mb_67_0 (kx_ex (wm_67 d C) f) d C x0 x1 w := Eq.trans rfl rfl
theorem mE_67 {φ d : Nat} (hφ : kx_fuel = φ + 1) {x0 : Option Nat} {x1 : Option Nat} {w : kx_H} : kx_ev wx_M (d + 1) 67 [kx_r 0 x0, kx_r 3 x1] w = mb_67_0 (kx_ex (wm_67 d (kx_ev wx_M d)) φ) d (kx_ev wx_M d) x0 x1 w := by
  show kx_ex (wx_M 67 d (kx_ev wx_M d)) kx_fuel 0 [(0, kx_r 0 x0), (1, kx_r 3 x1)] [] w = _
  rw [show wx_M 67 d (kx_ev wx_M d) = wm_67 d (kx_ev wx_M d) from rfl, hφ]
  exact me_67_0
def mb_67_17 (J : Nat → kx_F) (d : Nat) (C : kx_C)  (w : kx_H) : kx_O := kx_thd kx_cc kx_cs d 2 [] [] w
theorem me_67_17 {f d : Nat} {C : kx_C}  {w : kx_H} : kx_ex (wm_67 d C) (f + 1) 17 [] [] w = mb_67_17 (kx_ex (wm_67 d C) f) d C  w := Eq.trans rfl rfl
/-! TaskDesk.giveLockBack(LTaskDesk$Gate;)V -/
def mb_68_0 (J : Nat → kx_F) (d : Nat) (C : kx_C) (x0 : Option Nat) (x1 : Option Nat) (w : kx_H) : kx_O := x1.bind fun a1 => (hp_R w 602 a1).bind fun a2 => if hp_R w 1000 a2 = none then (x1.bind fun a6 => let w7 := hp_sI w 608 a6 (0 : Int32);
    J 28 [] [] w7)
  else (x0.bind fun a5 => kx_bv (C 35 [kx_r 0 (some a5), kx_r 4 (hp_R w 1000 a2), kx_l (0 : Int64), kx_i (1 : Int32), kx_i (0 : Int32)] w) fun w3 =>
    J 28 [] [] w3)
theorem me_68_0 {f d : Nat} {C : kx_C} {x0 : Option Nat} {x1 : Option Nat} {w : kx_H} : kx_ex (wm_68 d C) (f + 1) 0 [(0, kx_r 0 x0), (1, kx_r 3 x1)] [] w = mb_68_0 (kx_ex (wm_68 d C) f) d C x0 x1 w := Eq.trans rfl rfl
theorem mE_68 {φ d : Nat} (hφ : kx_fuel = φ + 1) {x0 : Option Nat} {x1 : Option Nat} {w : kx_H} : kx_ev wx_M (d + 1) 68 [kx_r 0 x0, kx_r 3 x1] w = mb_68_0 (kx_ex (wm_68 d (kx_ev wx_M d)) φ) d (kx_ev wx_M d) x0 x1 w := by
  show kx_ex (wx_M 68 d (kx_ev wx_M d)) kx_fuel 0 [(0, kx_r 0 x0), (1, kx_r 3 x1)] [] w = _
  rw [show wx_M 68 d (kx_ev wx_M d) = wm_68 d (kx_ev wx_M d) from rfl, hφ]
  exact me_68_0
def mb_68_28 (J : Nat → kx_F) (d : Nat) (C : kx_C)  (w : kx_H) : kx_O := some (.inl none, w)
theorem me_68_28 {f d : Nat} {C : kx_C}  {w : kx_H} : kx_ex (wm_68 d C) (f + 1) 28 [] [] w = mb_68_28 (kx_ex (wm_68 d C) f) d C  w := Eq.trans rfl rfl
/-! TaskDesk$Gate.letsInAtOnce()Z -/
def mb_69_0 (J : Nat → kx_F) (d : Nat) (C : kx_C) (x0 : Option Nat) (w : kx_H) : kx_O := x0.bind fun a1 => if hp_I w 606 a1 = 3 then (if (0 : Int32) = 0 ∨ (0 : Int32) = 1 then some (.inl (some (.inl (0 : Int32))), w) else none)
  else if hp_I w 606 a1 = 4 then (x0.bind fun a2 => if hp_I w 608 a2 = (1 : Int32) then (J 47 [] [kx_i (0 : Int32)] w)
    else (J 47 [] [kx_i (1 : Int32)] w))
  else (x0.bind fun a3 => if hp_I w 608 a3 = 0 then (J 60 [] [kx_i (1 : Int32)] w)
    else (J 60 [] [kx_i (0 : Int32)] w))
theorem me_69_0 {f d : Nat} {C : kx_C} {x0 : Option Nat} {w : kx_H} : kx_ex (wm_69 d C) (f + 1) 0 [(0, kx_r 3 x0)] [] w = mb_69_0 (kx_ex (wm_69 d C) f) d C x0 w := Eq.trans rfl rfl
theorem mE_69 {φ d : Nat} (hφ : kx_fuel = φ + 1) {x0 : Option Nat} {w : kx_H} : kx_ev wx_M (d + 1) 69 [kx_r 3 x0] w = mb_69_0 (kx_ex (wm_69 d (kx_ev wx_M d)) φ) d (kx_ev wx_M d) x0 w := by
  show kx_ex (wx_M 69 d (kx_ev wx_M d)) kx_fuel 0 [(0, kx_r 3 x0)] [] w = _
  rw [show wx_M 69 d (kx_ev wx_M d) = wm_69 d (kx_ev wx_M d) from rfl, hφ]
  exact me_69_0
def mb_69_47 (J : Nat → kx_F) (d : Nat) (C : kx_C) (xs0 : Int32) (w : kx_H) : kx_O := if xs0 = 0 ∨ xs0 = 1 then some (.inl (some (.inl xs0)), w) else none
theorem me_69_47 {f d : Nat} {C : kx_C} {xs0 : Int32} {w : kx_H} : kx_ex (wm_69 d C) (f + 1) 47 [] [kx_i xs0] w = mb_69_47 (kx_ex (wm_69 d C) f) d C xs0 w := Eq.trans rfl rfl
def mb_69_60 (J : Nat → kx_F) (d : Nat) (C : kx_C) (xs0 : Int32) (w : kx_H) : kx_O := if xs0 = 0 ∨ xs0 = 1 then some (.inl (some (.inl xs0)), w) else none
theorem me_69_60 {f d : Nat} {C : kx_C} {xs0 : Int32} {w : kx_H} : kx_ex (wm_69 d C) (f + 1) 60 [] [kx_i xs0] w = mb_69_60 (kx_ex (wm_69 d C) f) d C xs0 w := Eq.trans rfl rfl
/-! TaskDesk$Gate.take()V -/
def mb_70_0 (J : Nat → kx_F) (d : Nat) (C : kx_C) (x0 : Option Nat) (w : kx_H) : kx_O := x0.bind fun a1 => if hp_I w 606 a1 = 0 then (x0.bind fun a9 => let w10 := hp_sI w 608 a9 (1 : Int32);
    J 51 [] [] w10)
  else (x0.bind fun a2 => if hp_I w 606 a2 = (1 : Int32) then (x0.bind fun a7 => let w8 := hp_sI w 608 a7 ((-1) : Int32);
      J 51 [] [] w8)
    else (x0.bind fun a3 => if hp_I w 606 a3 = (4 : Int32) then (x0.bind fun a4 => if hp_I w 608 a4 = 0 then (x0.bind fun a5 => let w6 := hp_sI w 608 a5 (1 : Int32);
          J 51 [] [] w6)
        else (J 51 [] [] w))
      else (J 51 [] [] w)))
theorem me_70_0 {f d : Nat} {C : kx_C} {x0 : Option Nat} {w : kx_H} : kx_ex (wm_70 d C) (f + 1) 0 [(0, kx_r 3 x0)] [] w = mb_70_0 (kx_ex (wm_70 d C) f) d C x0 w := Eq.trans rfl rfl
theorem mE_70 {φ d : Nat} (hφ : kx_fuel = φ + 1) {x0 : Option Nat} {w : kx_H} : kx_ev wx_M (d + 1) 70 [kx_r 3 x0] w = mb_70_0 (kx_ex (wm_70 d (kx_ev wx_M d)) φ) d (kx_ev wx_M d) x0 w := by
  show kx_ex (wx_M 70 d (kx_ev wx_M d)) kx_fuel 0 [(0, kx_r 3 x0)] [] w = _
  rw [show wx_M 70 d (kx_ev wx_M d) = wm_70 d (kx_ev wx_M d) from rfl, hφ]
  exact me_70_0
def mb_70_51 (J : Nat → kx_F) (d : Nat) (C : kx_C)  (w : kx_H) : kx_O := some (.inl none, w)
theorem me_70_51 {f d : Nat} {C : kx_C}  {w : kx_H} : kx_ex (wm_70 d C) (f + 1) 51 [] [] w = mb_70_51 (kx_ex (wm_70 d C) f) d C  w := Eq.trans rfl rfl
/-! TaskDesk.read(I)Z -/
def mb_71_0 (J : Nat → kx_F) (d : Nat) (C : kx_C) (x0 : Option Nat) (x1 : Int32) (w : kx_H) : kx_O := x0.bind fun a3 => kx_br 3 (C 66 [kx_r 0 (some a3), kx_i x1] w) fun y2 w1 =>
  y2.bind fun a4 => if hp_I w1 606 a4 = (1 : Int32) then (x0.bind fun a7 => kx_br 6 (C 24 [kx_r 0 (some a7)] w1) fun y6 w5 =>
    y2.bind fun a8 => if hp_I w5 608 a8 = ((-1) : Int32) then (J 68 [(0, kx_r 0 x0), (2, kx_r 3 y2), (3, kx_r 6 y6)] [] w5)
    else (y2.bind fun a9 => (hp_R w5 602 a9).bind fun a10 => if hp_R w5 1000 a10 = none then (y2.bind fun a11 => y2.bind fun a12 => let w13 := hp_sI w5 608 a12 ((hp_I w5 608 a11) + (1 : Int32));
        y6.bind fun a16 => kx_bv (C 12 [kx_r 6 (some a16), kx_l (0 : Int64), kx_i (1 : Int32), kx_i ((-1) : Int32), kx_i (0 : Int32)] w13) fun w14 =>
        if (1 : Int32) = 0 ∨ (1 : Int32) = 1 then some (.inl (some (.inl (1 : Int32))), w14) else none)
      else (J 68 [(0, kx_r 0 x0), (2, kx_r 3 y2), (3, kx_r 6 y6)] [] w5)))
  else (kx_thd kx_cc kx_cs d 1 [(2, kx_r 3 y2), (0, kx_r 0 x0), (1, kx_i x1)] [] w1)
theorem me_71_0 {f d : Nat} {C : kx_C} {x0 : Option Nat} {x1 : Int32} {w : kx_H} : kx_ex (wm_71 d C) (f + 1) 0 [(0, kx_r 0 x0), (1, kx_i x1)] [] w = mb_71_0 (kx_ex (wm_71 d C) f) d C x0 x1 w := Eq.trans rfl rfl
theorem mE_71 {φ d : Nat} (hφ : kx_fuel = φ + 1) {x0 : Option Nat} {x1 : Int32} {w : kx_H} : kx_ev wx_M (d + 1) 71 [kx_r 0 x0, kx_i x1] w = mb_71_0 (kx_ex (wm_71 d (kx_ev wx_M d)) φ) d (kx_ev wx_M d) x0 x1 w := by
  show kx_ex (wx_M 71 d (kx_ev wx_M d)) kx_fuel 0 [(0, kx_r 0 x0), (1, kx_i x1)] [] w = _
  rw [show wx_M 71 d (kx_ev wx_M d) = wm_71 d (kx_ev wx_M d) from rfl, hφ]
  exact me_71_0
def mb_71_68 (J : Nat → kx_F) (d : Nat) (C : kx_C) (x0 : Option Nat) (x2 : Option Nat) (x3 : Option Nat) (w : kx_H) : kx_O := x2.bind fun a1 => x2.bind fun a2 => x3.bind fun a5 => kx_bv (C 27 [kx_r 6 (some a5), kx_r 5 (hp_R w 604 a1), kx_i (6 : Int32), kx_i (hp_I w 600 a2)] w) fun w3 =>
  x0.bind fun a8 => kx_bv (C 30 [kx_r 0 (some a8)] w3) fun w6 =>
  if (0 : Int32) = 0 ∨ (0 : Int32) = 1 then some (.inl (some (.inl (0 : Int32))), w6) else none
theorem me_71_68 {f d : Nat} {C : kx_C} {x0 : Option Nat} {x2 : Option Nat} {x3 : Option Nat} {w : kx_H} : kx_ex (wm_71 d C) (f + 1) 68 [(0, kx_r 0 x0), (2, kx_r 3 x2), (3, kx_r 6 x3)] [] w = mb_71_68 (kx_ex (wm_71 d C) f) d C x0 x2 x3 w := Eq.trans rfl rfl
/-! TaskDesk.leave(I)V -/
def mb_72_0 (J : Nat → kx_F) (d : Nat) (C : kx_C) (x0 : Option Nat) (x1 : Int32) (w : kx_H) : kx_O := x0.bind fun a3 => kx_br 3 (C 66 [kx_r 0 (some a3), kx_i x1] w) fun y2 w1 =>
  x0.bind fun a6 => kx_br 6 (C 24 [kx_r 0 (some a6)] w1) fun y5 w4 =>
  y2.bind fun a9 => kx_bi (C 73 [kx_r 3 (some a9)] w4) fun y8 w7 =>
  if y8 = 0 then (kx_thd kx_cc kx_cs d 2 [(2, kx_r 3 y2), (0, kx_r 0 x0), (1, kx_i x1)] [] w7)
  else (y2.bind fun a10 => if hp_I w7 606 a10 = 0 then (x0.bind fun a13 => kx_bv (C 68 [kx_r 0 (some a13), kx_r 3 y2] w7) fun w11 =>
      J 117 [] [] w11)
    else if hp_I w7 606 a10 = 1 then (x0.bind fun a16 => kx_bv (C 74 [kx_r 0 (some a16), kx_r 3 y2] w7) fun w14 =>
      J 117 [] [] w14)
    else if hp_I w7 606 a10 = 2 then (y2.bind fun a17 => x0.bind fun a20 => kx_bv (C 76 [kx_r 0 (some a20), kx_r 3 y2, kx_i ((hp_I w7 608 a17) - (1 : Int32))] w7) fun w18 =>
      J 117 [] [] w18)
    else if hp_I w7 606 a10 = 3 then (x0.bind fun a23 => kx_bv (C 77 [kx_r 0 (some a23), kx_r 3 y2] w7) fun w21 =>
      J 117 [] [] w21)
    else (y2.bind fun a24 => let w25 := hp_sI w7 608 a24 (2 : Int32);
      y2.bind fun a26 => x0.bind fun a29 => kx_bv (C 54 [kx_r 0 (some a29), kx_r 5 (hp_R w25 602 a26), kx_i (0 : Int32), kx_i (0 : Int32)] w25) fun w27 =>
      J 117 [] [] w27))
theorem me_72_0 {f d : Nat} {C : kx_C} {x0 : Option Nat} {x1 : Int32} {w : kx_H} : kx_ex (wm_72 d C) (f + 1) 0 [(0, kx_r 0 x0), (1, kx_i x1)] [] w = mb_72_0 (kx_ex (wm_72 d C) f) d C x0 x1 w := Eq.trans rfl rfl
theorem mE_72 {φ d : Nat} (hφ : kx_fuel = φ + 1) {x0 : Option Nat} {x1 : Int32} {w : kx_H} : kx_ev wx_M (d + 1) 72 [kx_r 0 x0, kx_i x1] w = mb_72_0 (kx_ex (wm_72 d (kx_ev wx_M d)) φ) d (kx_ev wx_M d) x0 x1 w := by
  show kx_ex (wx_M 72 d (kx_ev wx_M d)) kx_fuel 0 [(0, kx_r 0 x0), (1, kx_i x1)] [] w = _
  rw [show wx_M 72 d (kx_ev wx_M d) = wm_72 d (kx_ev wx_M d) from rfl, hφ]
  exact me_72_0
def mb_72_117 (J : Nat → kx_F) (d : Nat) (C : kx_C)  (w : kx_H) : kx_O := some (.inl none, w)
theorem me_72_117 {f d : Nat} {C : kx_C}  {w : kx_H} : kx_ex (wm_72 d C) (f + 1) 117 [] [] w = mb_72_117 (kx_ex (wm_72 d C) f) d C  w := Eq.trans rfl rfl
/-! TaskDesk$Gate.canBeLeft()Z -/
def mb_73_0 (J : Nat → kx_F) (d : Nat) (C : kx_C) (x0 : Option Nat) (w : kx_H) : kx_O := x0.bind fun a1 => if hp_I w 606 a1 = 0 then (x0.bind fun a2 => if hp_I w 608 a2 = (1 : Int32) then (J 49 [] [kx_i (1 : Int32)] w)
    else (J 49 [] [kx_i (0 : Int32)] w))
  else if hp_I w 606 a1 = 1 then (x0.bind fun a3 => if hp_I w 608 a3 = ((-1) : Int32) then (J 63 [] [kx_i (1 : Int32)] w)
    else (J 63 [] [kx_i (0 : Int32)] w))
  else if hp_I w 606 a1 = 2 then (x0.bind fun a4 => if hp_I w 608 a4 ≤ 0 then (J 76 [] [kx_i (0 : Int32)] w)
    else (J 76 [] [kx_i (1 : Int32)] w))
  else if hp_I w 606 a1 = 3 then (if (1 : Int32) = 0 ∨ (1 : Int32) = 1 then some (.inl (some (.inl (1 : Int32))), w) else none)
  else (x0.bind fun a5 => if hp_I w 608 a5 = (1 : Int32) then (J 92 [] [kx_i (1 : Int32)] w)
    else (J 92 [] [kx_i (0 : Int32)] w))
theorem me_73_0 {f d : Nat} {C : kx_C} {x0 : Option Nat} {w : kx_H} : kx_ex (wm_73 d C) (f + 1) 0 [(0, kx_r 3 x0)] [] w = mb_73_0 (kx_ex (wm_73 d C) f) d C x0 w := Eq.trans rfl rfl
theorem mE_73 {φ d : Nat} (hφ : kx_fuel = φ + 1) {x0 : Option Nat} {w : kx_H} : kx_ev wx_M (d + 1) 73 [kx_r 3 x0] w = mb_73_0 (kx_ex (wm_73 d (kx_ev wx_M d)) φ) d (kx_ev wx_M d) x0 w := by
  show kx_ex (wx_M 73 d (kx_ev wx_M d)) kx_fuel 0 [(0, kx_r 3 x0)] [] w = _
  rw [show wx_M 73 d (kx_ev wx_M d) = wm_73 d (kx_ev wx_M d) from rfl, hφ]
  exact me_73_0
def mb_73_49 (J : Nat → kx_F) (d : Nat) (C : kx_C) (xs0 : Int32) (w : kx_H) : kx_O := if xs0 = 0 ∨ xs0 = 1 then some (.inl (some (.inl xs0)), w) else none
theorem me_73_49 {f d : Nat} {C : kx_C} {xs0 : Int32} {w : kx_H} : kx_ex (wm_73 d C) (f + 1) 49 [] [kx_i xs0] w = mb_73_49 (kx_ex (wm_73 d C) f) d C xs0 w := Eq.trans rfl rfl
def mb_73_63 (J : Nat → kx_F) (d : Nat) (C : kx_C) (xs0 : Int32) (w : kx_H) : kx_O := if xs0 = 0 ∨ xs0 = 1 then some (.inl (some (.inl xs0)), w) else none
theorem me_73_63 {f d : Nat} {C : kx_C} {xs0 : Int32} {w : kx_H} : kx_ex (wm_73 d C) (f + 1) 63 [] [kx_i xs0] w = mb_73_63 (kx_ex (wm_73 d C) f) d C xs0 w := Eq.trans rfl rfl
def mb_73_76 (J : Nat → kx_F) (d : Nat) (C : kx_C) (xs0 : Int32) (w : kx_H) : kx_O := if xs0 = 0 ∨ xs0 = 1 then some (.inl (some (.inl xs0)), w) else none
theorem me_73_76 {f d : Nat} {C : kx_C} {xs0 : Int32} {w : kx_H} : kx_ex (wm_73 d C) (f + 1) 76 [] [kx_i xs0] w = mb_73_76 (kx_ex (wm_73 d C) f) d C xs0 w := Eq.trans rfl rfl
def mb_73_92 (J : Nat → kx_F) (d : Nat) (C : kx_C) (xs0 : Int32) (w : kx_H) : kx_O := if xs0 = 0 ∨ xs0 = 1 then some (.inl (some (.inl xs0)), w) else none
theorem me_73_92 {f d : Nat} {C : kx_C} {xs0 : Int32} {w : kx_H} : kx_ex (wm_73 d C) (f + 1) 92 [] [kx_i xs0] w = mb_73_92 (kx_ex (wm_73 d C) f) d C xs0 w := Eq.trans rfl rfl
/-! TaskDesk.endWriting(LTaskDesk$Gate;)V -/
def mb_74_0 (J : Nat → kx_F) (d : Nat) (C : kx_C) (x0 : Option Nat) (x1 : Option Nat) (w : kx_H) : kx_O := x1.bind fun a1 => (hp_R w 604 a1).bind fun a2 => if hp_I w 1004 a2 ≤ 0 then (x0.bind fun a5 => kx_bv (C 75 [kx_r 0 (some a5), kx_r 3 x1] w) fun w3 =>
    J 39 [] [] w3)
  else (x1.bind fun a6 => (hp_R w 604 a6).bind fun a7 => x1.bind fun a8 => let w9 := hp_sI w 608 a8 (hp_I w 1004 a7);
    x1.bind fun a10 => x0.bind fun a13 => kx_bv (C 54 [kx_r 0 (some a13), kx_r 5 (hp_R w9 604 a10), kx_i (1 : Int32), kx_i (0 : Int32)] w9) fun w11 =>
    J 39 [] [] w11)
theorem me_74_0 {f d : Nat} {C : kx_C} {x0 : Option Nat} {x1 : Option Nat} {w : kx_H} : kx_ex (wm_74 d C) (f + 1) 0 [(0, kx_r 0 x0), (1, kx_r 3 x1)] [] w = mb_74_0 (kx_ex (wm_74 d C) f) d C x0 x1 w := Eq.trans rfl rfl
theorem mE_74 {φ d : Nat} (hφ : kx_fuel = φ + 1) {x0 : Option Nat} {x1 : Option Nat} {w : kx_H} : kx_ev wx_M (d + 1) 74 [kx_r 0 x0, kx_r 3 x1] w = mb_74_0 (kx_ex (wm_74 d (kx_ev wx_M d)) φ) d (kx_ev wx_M d) x0 x1 w := by
  show kx_ex (wx_M 74 d (kx_ev wx_M d)) kx_fuel 0 [(0, kx_r 0 x0), (1, kx_r 3 x1)] [] w = _
  rw [show wx_M 74 d (kx_ev wx_M d) = wm_74 d (kx_ev wx_M d) from rfl, hφ]
  exact me_74_0
def mb_74_39 (J : Nat → kx_F) (d : Nat) (C : kx_C)  (w : kx_H) : kx_O := some (.inl none, w)
theorem me_74_39 {f d : Nat} {C : kx_C}  {w : kx_H} : kx_ex (wm_74 d C) (f + 1) 39 [] [] w = mb_74_39 (kx_ex (wm_74 d C) f) d C  w := Eq.trans rfl rfl
/-! TaskDesk.letWriterIn(LTaskDesk$Gate;)V -/
def mb_75_0 (J : Nat → kx_F) (d : Nat) (C : kx_C) (x0 : Option Nat) (x1 : Option Nat) (w : kx_H) : kx_O := x1.bind fun a1 => (hp_R w 602 a1).bind fun a2 => if hp_R w 1000 a2 = none then (x1.bind fun a8 => let w9 := hp_sI w 608 a8 (0 : Int32);
    J 33 [] [] w9)
  else (x1.bind fun a3 => let w4 := hp_sI w 608 a3 ((-1) : Int32);
    x0.bind fun a7 => kx_bv (C 35 [kx_r 0 (some a7), kx_r 4 (hp_R w 1000 a2), kx_l (0 : Int64), kx_i (1 : Int32), kx_i (0 : Int32)] w4) fun w5 =>
    J 33 [] [] w5)
theorem me_75_0 {f d : Nat} {C : kx_C} {x0 : Option Nat} {x1 : Option Nat} {w : kx_H} : kx_ex (wm_75 d C) (f + 1) 0 [(0, kx_r 0 x0), (1, kx_r 3 x1)] [] w = mb_75_0 (kx_ex (wm_75 d C) f) d C x0 x1 w := Eq.trans rfl rfl
theorem mE_75 {φ d : Nat} (hφ : kx_fuel = φ + 1) {x0 : Option Nat} {x1 : Option Nat} {w : kx_H} : kx_ev wx_M (d + 1) 75 [kx_r 0 x0, kx_r 3 x1] w = mb_75_0 (kx_ex (wm_75 d (kx_ev wx_M d)) φ) d (kx_ev wx_M d) x0 x1 w := by
  show kx_ex (wx_M 75 d (kx_ev wx_M d)) kx_fuel 0 [(0, kx_r 0 x0), (1, kx_r 3 x1)] [] w = _
  rw [show wx_M 75 d (kx_ev wx_M d) = wm_75 d (kx_ev wx_M d) from rfl, hφ]
  exact me_75_0
def mb_75_33 (J : Nat → kx_F) (d : Nat) (C : kx_C)  (w : kx_H) : kx_O := some (.inl none, w)
theorem me_75_33 {f d : Nat} {C : kx_C}  {w : kx_H} : kx_ex (wm_75 d C) (f + 1) 33 [] [] w = mb_75_33 (kx_ex (wm_75 d C) f) d C  w := Eq.trans rfl rfl
/-! TaskDesk.setGroup(LTaskDesk$Gate;I)V -/
def mb_76_0 (J : Nat → kx_F) (d : Nat) (C : kx_C) (x0 : Option Nat) (x1 : Option Nat) (x2 : Int32) (w : kx_H) : kx_O := x1.bind fun a1 => let w2 := hp_sI w 608 a1 x2;
  if x2 = 0 then (x1.bind fun a3 => x0.bind fun a6 => kx_bv (C 54 [kx_r 0 (some a6), kx_r 5 (hp_R w2 602 a3), kx_i (1 : Int32), kx_i (0 : Int32)] w2) fun w4 =>
    J 19 [] [] w4)
  else (J 19 [] [] w2)
theorem me_76_0 {f d : Nat} {C : kx_C} {x0 : Option Nat} {x1 : Option Nat} {x2 : Int32} {w : kx_H} : kx_ex (wm_76 d C) (f + 1) 0 [(0, kx_r 0 x0), (1, kx_r 3 x1), (2, kx_i x2)] [] w = mb_76_0 (kx_ex (wm_76 d C) f) d C x0 x1 x2 w := Eq.trans rfl rfl
theorem mE_76 {φ d : Nat} (hφ : kx_fuel = φ + 1) {x0 : Option Nat} {x1 : Option Nat} {x2 : Int32} {w : kx_H} : kx_ev wx_M (d + 1) 76 [kx_r 0 x0, kx_r 3 x1, kx_i x2] w = mb_76_0 (kx_ex (wm_76 d (kx_ev wx_M d)) φ) d (kx_ev wx_M d) x0 x1 x2 w := by
  show kx_ex (wx_M 76 d (kx_ev wx_M d)) kx_fuel 0 [(0, kx_r 0 x0), (1, kx_r 3 x1), (2, kx_i x2)] [] w = _
  rw [show wx_M 76 d (kx_ev wx_M d) = wm_76 d (kx_ev wx_M d) from rfl, hφ]
  exact me_76_0
def mb_76_19 (J : Nat → kx_F) (d : Nat) (C : kx_C)  (w : kx_H) : kx_O := some (.inl none, w)
theorem me_76_19 {f d : Nat} {C : kx_C}  {w : kx_H} : kx_ex (wm_76 d C) (f + 1) 19 [] [] w = mb_76_19 (kx_ex (wm_76 d C) f) d C  w := Eq.trans rfl rfl
/-! TaskDesk.wakeFirstOfSignal(LTaskDesk$Gate;)V -/
def mb_77_0 (J : Nat → kx_F) (d : Nat) (C : kx_C) (x0 : Option Nat) (x1 : Option Nat) (w : kx_H) : kx_O := x1.bind fun a1 => (hp_R w 602 a1).bind fun a2 => x1.bind fun a3 => if hp_R w 1000 a2 = none then (J 21 [] [] w)
  else (if hp_R w 610 a3 = none then (J 21 [] [] w)
    else ((hp_R w 610 a3).bind fun a4 => if hp_I w 608 a4 = 0 then ((hp_R w 610 a3).bind fun a15 => let w16 := hp_sI w 608 a15 (1 : Int32);
        x0.bind fun a19 => kx_bv (C 35 [kx_r 0 (some a19), kx_r 4 (hp_R w 1000 a2), kx_l (0 : Int64), kx_i (1 : Int32), kx_i (0 : Int32)] w16) fun w17 =>
        J 73 [] [] w17)
      else ((hp_R w 1000 a2).bind fun a5 => if hp_R w 800 a5 = none then (J 73 [] [] w)
        else ((hp_R w 1000 a2).bind fun a8 => kx_bv (C 37 [kx_r 4 (some a8)] w) fun w6 =>
          (hp_R w 1000 a2).bind fun a9 => (hp_R w 610 a3).bind fun a10 => (hp_R w 610 a3).bind fun a11 => (hp_R w6 800 a9).bind fun a14 => kx_bv (C 27 [kx_r 6 (some a14), kx_r 5 (hp_R w6 602 a10), kx_i (6 : Int32), kx_i (hp_I w6 600 a11)] w6) fun w12 =>
          J 73 [] [] w12))))
theorem me_77_0 {f d : Nat} {C : kx_C} {x0 : Option Nat} {x1 : Option Nat} {w : kx_H} : kx_ex (wm_77 d C) (f + 1) 0 [(0, kx_r 0 x0), (1, kx_r 3 x1)] [] w = mb_77_0 (kx_ex (wm_77 d C) f) d C x0 x1 w := Eq.trans rfl rfl
theorem mE_77 {φ d : Nat} (hφ : kx_fuel = φ + 1) {x0 : Option Nat} {x1 : Option Nat} {w : kx_H} : kx_ev wx_M (d + 1) 77 [kx_r 0 x0, kx_r 3 x1] w = mb_77_0 (kx_ex (wm_77 d (kx_ev wx_M d)) φ) d (kx_ev wx_M d) x0 x1 w := by
  show kx_ex (wx_M 77 d (kx_ev wx_M d)) kx_fuel 0 [(0, kx_r 0 x0), (1, kx_r 3 x1)] [] w = _
  rw [show wx_M 77 d (kx_ev wx_M d) = wm_77 d (kx_ev wx_M d) from rfl, hφ]
  exact me_77_0
def mb_77_21 (J : Nat → kx_F) (d : Nat) (C : kx_C)  (w : kx_H) : kx_O := some (.inl none, w)
theorem me_77_21 {f d : Nat} {C : kx_C}  {w : kx_H} : kx_ex (wm_77 d C) (f + 1) 21 [] [] w = mb_77_21 (kx_ex (wm_77 d C) f) d C  w := Eq.trans rfl rfl
def mb_77_73 (J : Nat → kx_F) (d : Nat) (C : kx_C)  (w : kx_H) : kx_O := some (.inl none, w)
theorem me_77_73 {f d : Nat} {C : kx_C}  {w : kx_H} : kx_ex (wm_77 d C) (f + 1) 73 [] [] w = mb_77_73 (kx_ex (wm_77 d C) f) d C  w := Eq.trans rfl rfl
/-! TaskDesk.change(II)V -/
def mb_78_0 (J : Nat → kx_F) (d : Nat) (C : kx_C) (x0 : Option Nat) (x1 : Int32) (x2 : Int32) (w : kx_H) : kx_O := x0.bind fun a3 => kx_br 3 (C 66 [kx_r 0 (some a3), kx_i x1] w) fun y2 w1 =>
  y2.bind fun a4 => if hp_I w1 606 a4 = 0 then (J 21 [] [] w1)
  else (y2.bind fun a5 => if hp_I w1 606 a5 = (4 : Int32) then (J 21 [] [] w1)
    else (x0.bind fun a8 => kx_br 6 (C 24 [kx_r 0 (some a8)] w1) fun y7 w6 =>
      y2.bind fun a11 => kx_bi (C 79 [kx_r 3 (some a11), kx_i x2] w6) fun y10 w9 =>
      if y10 = 0 then (kx_thd kx_cc kx_cs d 2 [(3, kx_r 3 y2), (0, kx_r 0 x0), (1, kx_i x1), (2, kx_i x2)] [] w9)
      else (y2.bind fun a12 => if hp_I w9 606 a12 = (1 : Int32) then (x0.bind fun a23 => kx_bv (C 80 [kx_r 0 (some a23), kx_r 3 y2] w9) fun w21 =>
          J 99 [] [] w21)
        else (y2.bind fun a13 => if hp_I w9 606 a13 = (2 : Int32) then (y2.bind fun a17 => x0.bind fun a20 => kx_bv (C 76 [kx_r 0 (some a20), kx_r 3 y2, kx_i ((hp_I w9 608 a17) + x2)] w9) fun w18 =>
            J 99 [] [] w18)
          else (x0.bind fun a16 => kx_bv (C 81 [kx_r 0 (some a16), kx_r 3 y2] w9) fun w14 =>
            J 99 [] [] w14)))))
theorem me_78_0 {f d : Nat} {C : kx_C} {x0 : Option Nat} {x1 : Int32} {x2 : Int32} {w : kx_H} : kx_ex (wm_78 d C) (f + 1) 0 [(0, kx_r 0 x0), (1, kx_i x1), (2, kx_i x2)] [] w = mb_78_0 (kx_ex (wm_78 d C) f) d C x0 x1 x2 w := Eq.trans rfl rfl
theorem mE_78 {φ d : Nat} (hφ : kx_fuel = φ + 1) {x0 : Option Nat} {x1 : Int32} {x2 : Int32} {w : kx_H} : kx_ev wx_M (d + 1) 78 [kx_r 0 x0, kx_i x1, kx_i x2] w = mb_78_0 (kx_ex (wm_78 d (kx_ev wx_M d)) φ) d (kx_ev wx_M d) x0 x1 x2 w := by
  show kx_ex (wx_M 78 d (kx_ev wx_M d)) kx_fuel 0 [(0, kx_r 0 x0), (1, kx_i x1), (2, kx_i x2)] [] w = _
  rw [show wx_M 78 d (kx_ev wx_M d) = wm_78 d (kx_ev wx_M d) from rfl, hφ]
  exact me_78_0
def mb_78_21 (J : Nat → kx_F) (d : Nat) (C : kx_C)  (w : kx_H) : kx_O := kx_thd kx_cc kx_cs d 1 [] [] w
theorem me_78_21 {f d : Nat} {C : kx_C}  {w : kx_H} : kx_ex (wm_78 d C) (f + 1) 21 [] [] w = mb_78_21 (kx_ex (wm_78 d C) f) d C  w := Eq.trans rfl rfl
def mb_78_99 (J : Nat → kx_F) (d : Nat) (C : kx_C)  (w : kx_H) : kx_O := some (.inl none, w)
theorem me_78_99 {f d : Nat} {C : kx_C}  {w : kx_H} : kx_ex (wm_78 d C) (f + 1) 99 [] [] w = mb_78_99 (kx_ex (wm_78 d C) f) d C  w := Eq.trans rfl rfl
/-! TaskDesk$Gate.canChangeBy(I)Z -/
def mb_79_0 (J : Nat → kx_F) (d : Nat) (C : kx_C) (x0 : Option Nat) (x1 : Int32) (w : kx_H) : kx_O := x0.bind fun a1 => if hp_I w 606 a1 = 1 then (x0.bind fun a2 => if hp_I w 608 a2 ≤ 0 then (J 44 [] [kx_i (0 : Int32)] w)
    else (J 44 [] [kx_i (1 : Int32)] w))
  else if hp_I w 606 a1 = 2 then (x0.bind fun a3 => if lg_cmp ((Int32.toInt64 (hp_I w 608 a3)) + (Int32.toInt64 x1)) (0 : Int64) < 0 then (J 72 [] [] w)
    else (if 0 < lg_cmp ((Int32.toInt64 (hp_I w 608 a3)) + (Int32.toInt64 x1)) (1000000000 : Int64) then (J 72 [] [] w)
      else (J 73 [] [kx_i (1 : Int32)] w)))
  else (x0.bind fun a4 => if hp_I w 606 a4 = (3 : Int32) then (J 87 [] [kx_i (1 : Int32)] w)
    else (J 87 [] [kx_i (0 : Int32)] w))
set_option maxRecDepth 100000 in
set_option maxHeartbeats 4000000 in
theorem me_79_0 {f d : Nat} {C : kx_C} {x0 : Option Nat} {x1 : Int32} {w : kx_H} : kx_ex (wm_79 d C) (f + 1) 0 [(0, kx_r 3 x0), (1, kx_i x1)] [] w = mb_79_0 (kx_ex (wm_79 d C) f) d C x0 x1 w := Eq.trans rfl rfl
theorem mE_79 {φ d : Nat} (hφ : kx_fuel = φ + 1) {x0 : Option Nat} {x1 : Int32} {w : kx_H} : kx_ev wx_M (d + 1) 79 [kx_r 3 x0, kx_i x1] w = mb_79_0 (kx_ex (wm_79 d (kx_ev wx_M d)) φ) d (kx_ev wx_M d) x0 x1 w := by
  show kx_ex (wx_M 79 d (kx_ev wx_M d)) kx_fuel 0 [(0, kx_r 3 x0), (1, kx_i x1)] [] w = _
  rw [show wx_M 79 d (kx_ev wx_M d) = wm_79 d (kx_ev wx_M d) from rfl, hφ]
  exact me_79_0
def mb_79_44 (J : Nat → kx_F) (d : Nat) (C : kx_C) (xs0 : Int32) (w : kx_H) : kx_O := if xs0 = 0 ∨ xs0 = 1 then some (.inl (some (.inl xs0)), w) else none
theorem me_79_44 {f d : Nat} {C : kx_C} {xs0 : Int32} {w : kx_H} : kx_ex (wm_79 d C) (f + 1) 44 [] [kx_i xs0] w = mb_79_44 (kx_ex (wm_79 d C) f) d C xs0 w := Eq.trans rfl rfl
def mb_79_72 (J : Nat → kx_F) (d : Nat) (C : kx_C)  (w : kx_H) : kx_O := J 73 [] [kx_i (0 : Int32)] w
theorem me_79_72 {f d : Nat} {C : kx_C}  {w : kx_H} : kx_ex (wm_79 d C) (f + 1) 72 [] [] w = mb_79_72 (kx_ex (wm_79 d C) f) d C  w := Eq.trans rfl rfl
def mb_79_73 (J : Nat → kx_F) (d : Nat) (C : kx_C) (xs0 : Int32) (w : kx_H) : kx_O := if xs0 = 0 ∨ xs0 = 1 then some (.inl (some (.inl xs0)), w) else none
theorem me_79_73 {f d : Nat} {C : kx_C} {xs0 : Int32} {w : kx_H} : kx_ex (wm_79 d C) (f + 1) 73 [] [kx_i xs0] w = mb_79_73 (kx_ex (wm_79 d C) f) d C xs0 w := Eq.trans rfl rfl
def mb_79_87 (J : Nat → kx_F) (d : Nat) (C : kx_C) (xs0 : Int32) (w : kx_H) : kx_O := if xs0 = 0 ∨ xs0 = 1 then some (.inl (some (.inl xs0)), w) else none
theorem me_79_87 {f d : Nat} {C : kx_C} {xs0 : Int32} {w : kx_H} : kx_ex (wm_79 d C) (f + 1) 87 [] [kx_i xs0] w = mb_79_87 (kx_ex (wm_79 d C) f) d C xs0 w := Eq.trans rfl rfl
/-! TaskDesk.endReading(LTaskDesk$Gate;)V -/
def mb_80_0 (J : Nat → kx_F) (d : Nat) (C : kx_C) (x0 : Option Nat) (x1 : Option Nat) (w : kx_H) : kx_O := x1.bind fun a1 => x1.bind fun a2 => let w3 := hp_sI w 608 a2 ((hp_I w 608 a1) - (1 : Int32));
  x1.bind fun a4 => if hp_I w3 608 a4 = 0 then (x0.bind fun a7 => kx_bv (C 75 [kx_r 0 (some a7), kx_r 3 x1] w3) fun w5 =>
    J 22 [] [] w5)
  else (J 22 [] [] w3)
theorem me_80_0 {f d : Nat} {C : kx_C} {x0 : Option Nat} {x1 : Option Nat} {w : kx_H} : kx_ex (wm_80 d C) (f + 1) 0 [(0, kx_r 0 x0), (1, kx_r 3 x1)] [] w = mb_80_0 (kx_ex (wm_80 d C) f) d C x0 x1 w := Eq.trans rfl rfl
theorem mE_80 {φ d : Nat} (hφ : kx_fuel = φ + 1) {x0 : Option Nat} {x1 : Option Nat} {w : kx_H} : kx_ev wx_M (d + 1) 80 [kx_r 0 x0, kx_r 3 x1] w = mb_80_0 (kx_ex (wm_80 d (kx_ev wx_M d)) φ) d (kx_ev wx_M d) x0 x1 w := by
  show kx_ex (wx_M 80 d (kx_ev wx_M d)) kx_fuel 0 [(0, kx_r 0 x0), (1, kx_r 3 x1)] [] w = _
  rw [show wx_M 80 d (kx_ev wx_M d) = wm_80 d (kx_ev wx_M d) from rfl, hφ]
  exact me_80_0
def mb_80_22 (J : Nat → kx_F) (d : Nat) (C : kx_C)  (w : kx_H) : kx_O := some (.inl none, w)
theorem me_80_22 {f d : Nat} {C : kx_C}  {w : kx_H} : kx_ex (wm_80 d C) (f + 1) 22 [] [] w = mb_80_22 (kx_ex (wm_80 d C) f) d C  w := Eq.trans rfl rfl
/-! TaskDesk.wakeAllOfSignal(LTaskDesk$Gate;)V -/
def mb_81_0 (J : Nat → kx_F) (d : Nat) (C : kx_C) (x0 : Option Nat) (x1 : Option Nat) (w : kx_H) : kx_O := x1.bind fun a1 => (hp_R w 602 a1).bind fun a2 => J 8 [(0, kx_r 0 x0), (1, kx_r 3 x1), (2, kx_i (hp_I w 1004 a2))] [] w
theorem me_81_0 {f d : Nat} {C : kx_C} {x0 : Option Nat} {x1 : Option Nat} {w : kx_H} : kx_ex (wm_81 d C) (f + 1) 0 [(0, kx_r 0 x0), (1, kx_r 3 x1)] [] w = mb_81_0 (kx_ex (wm_81 d C) f) d C x0 x1 w := Eq.trans rfl rfl
theorem mE_81 {φ d : Nat} (hφ : kx_fuel = φ + 1) {x0 : Option Nat} {x1 : Option Nat} {w : kx_H} : kx_ev wx_M (d + 1) 81 [kx_r 0 x0, kx_r 3 x1] w = mb_81_0 (kx_ex (wm_81 d (kx_ev wx_M d)) φ) d (kx_ev wx_M d) x0 x1 w := by
  show kx_ex (wx_M 81 d (kx_ev wx_M d)) kx_fuel 0 [(0, kx_r 0 x0), (1, kx_r 3 x1)] [] w = _
  rw [show wx_M 81 d (kx_ev wx_M d) = wm_81 d (kx_ev wx_M d) from rfl, hφ]
  exact me_81_0
def mb_81_8 (J : Nat → kx_F) (d : Nat) (C : kx_C) (x0 : Option Nat) (x1 : Option Nat) (x2 : Int32) (w : kx_H) : kx_O := if x2 ≤ 0 then (some (.inl none, w))
  else (x0.bind fun a3 => kx_bv (C 77 [kx_r 0 (some a3), kx_r 3 x1] w) fun w1 =>
    J 8 [(0, kx_r 0 x0), (1, kx_r 3 x1), (2, kx_i (x2 + (-1)))] [] w1)
theorem me_81_8 {f d : Nat} {C : kx_C} {x0 : Option Nat} {x1 : Option Nat} {x2 : Int32} {w : kx_H} : kx_ex (wm_81 d C) (f + 1) 8 [(0, kx_r 0 x0), (1, kx_r 3 x1), (2, kx_i x2)] [] w = mb_81_8 (kx_ex (wm_81 d C) f) d C x0 x1 x2 w := Eq.trans rfl rfl
/-! TaskDesk.task(II)I -/
def mb_82_0 (J : Nat → kx_F) (d : Nat) (C : kx_C) (x0 : Option Nat) (x1 : Int32) (x2 : Int32) (w : kx_H) : kx_O := x0.bind fun a3 => kx_br 6 (C 83 [kx_r 0 (some a3), kx_i x1] w) fun y2 w1 =>
  if x2 = 0 then (y2.bind fun a4 => some (.inl (some (.inl (hp_I w1 1206 a4))), w1))
  else if x2 = 1 then (y2.bind fun a5 => some (.inl (some (.inl (hp_I w1 1208 a5))), w1))
  else if x2 = 2 then (y2.bind fun a6 => some (.inl (some (.inl (hp_I w1 1216 a6))), w1))
  else if x2 = 3 then (y2.bind fun a7 => if kx_b (hp_B w1 1214 a7) = 0 then (J 71 [] [kx_i (0 : Int32)] w1)
    else (J 71 [] [kx_i (1 : Int32)] w1))
  else if x2 = 4 then (y2.bind fun a8 => if kx_b (hp_B w1 1218 a8) = 0 then (J 84 [] [kx_i (0 : Int32)] w1)
    else (J 84 [] [kx_i (1 : Int32)] w1))
  else if x2 = 5 then (y2.bind fun a9 => if hp_I w1 1206 a9 = (1 : Int32) then (y2.bind fun a10 => x0.bind fun a13 => kx_bi (C 84 [kx_r 0 (some a13), kx_r 4 (hp_R w1 1202 a10)] w1) fun y12 w11 =>
      J 105 [] [kx_i y12] w11)
    else (J 105 [] [kx_i ((-1) : Int32)] w1))
  else (kx_thd kx_cc kx_cs d 3 [(3, kx_r 6 y2), (0, kx_r 0 x0), (1, kx_i x1), (2, kx_i x2)] [] w1)
theorem me_82_0 {f d : Nat} {C : kx_C} {x0 : Option Nat} {x1 : Int32} {x2 : Int32} {w : kx_H} : kx_ex (wm_82 d C) (f + 1) 0 [(0, kx_r 0 x0), (1, kx_i x1), (2, kx_i x2)] [] w = mb_82_0 (kx_ex (wm_82 d C) f) d C x0 x1 x2 w := Eq.trans rfl rfl
theorem mE_82 {φ d : Nat} (hφ : kx_fuel = φ + 1) {x0 : Option Nat} {x1 : Int32} {x2 : Int32} {w : kx_H} : kx_ev wx_M (d + 1) 82 [kx_r 0 x0, kx_i x1, kx_i x2] w = mb_82_0 (kx_ex (wm_82 d (kx_ev wx_M d)) φ) d (kx_ev wx_M d) x0 x1 x2 w := by
  show kx_ex (wx_M 82 d (kx_ev wx_M d)) kx_fuel 0 [(0, kx_r 0 x0), (1, kx_i x1), (2, kx_i x2)] [] w = _
  rw [show wx_M 82 d (kx_ev wx_M d) = wm_82 d (kx_ev wx_M d) from rfl, hφ]
  exact me_82_0
def mb_82_71 (J : Nat → kx_F) (d : Nat) (C : kx_C) (xs0 : Int32) (w : kx_H) : kx_O := some (.inl (some (.inl xs0)), w)
theorem me_82_71 {f d : Nat} {C : kx_C} {xs0 : Int32} {w : kx_H} : kx_ex (wm_82 d C) (f + 1) 71 [] [kx_i xs0] w = mb_82_71 (kx_ex (wm_82 d C) f) d C xs0 w := Eq.trans rfl rfl
def mb_82_84 (J : Nat → kx_F) (d : Nat) (C : kx_C) (xs0 : Int32) (w : kx_H) : kx_O := some (.inl (some (.inl xs0)), w)
theorem me_82_84 {f d : Nat} {C : kx_C} {xs0 : Int32} {w : kx_H} : kx_ex (wm_82 d C) (f + 1) 84 [] [kx_i xs0] w = mb_82_84 (kx_ex (wm_82 d C) f) d C xs0 w := Eq.trans rfl rfl
def mb_82_105 (J : Nat → kx_F) (d : Nat) (C : kx_C) (xs0 : Int32) (w : kx_H) : kx_O := some (.inl (some (.inl xs0)), w)
theorem me_82_105 {f d : Nat} {C : kx_C} {xs0 : Int32} {w : kx_H} : kx_ex (wm_82 d C) (f + 1) 105 [] [kx_i xs0] w = mb_82_105 (kx_ex (wm_82 d C) f) d C xs0 w := Eq.trans rfl rfl
/-! TaskDesk.mustBeTask(I)LTaskDesk$Task; -/
def mb_83_0 (J : Nat → kx_F) (d : Nat) (C : kx_C) (x0 : Option Nat) (x1 : Int32) (w : kx_H) : kx_O := if x1 < 0 then (J 23 [] [] w)
  else (if (256 : Int32) ≤ x1 then (J 23 [] [] w)
    else (x0.bind fun a1 => (hp_R w 0 a1).bind fun a2 => if x1 < 0 ∨ hp_N w a2 ≤ x1.toNatClampNeg then none else (hp_R w (2 * a2 + 1) x1.toNatClampNeg).bind fun a3 => if kx_b (hp_B w 1204 a3) = 0 then (J 23 [] [] w)
      else (x0.bind fun a4 => (hp_R w 0 a4).bind fun a5 => if x1 < 0 ∨ hp_N w a5 ≤ x1.toNatClampNeg then none else some (.inl (some (.inr (.inr (6, hp_R w (2 * a5 + 1) x1.toNatClampNeg)))), w))))
theorem me_83_0 {f d : Nat} {C : kx_C} {x0 : Option Nat} {x1 : Int32} {w : kx_H} : kx_ex (wm_83 d C) (f + 1) 0 [(0, kx_r 0 x0), (1, kx_i x1)] [] w = mb_83_0 (kx_ex (wm_83 d C) f) d C x0 x1 w := Eq.trans rfl rfl
theorem mE_83 {φ d : Nat} (hφ : kx_fuel = φ + 1) {x0 : Option Nat} {x1 : Int32} {w : kx_H} : kx_ev wx_M (d + 1) 83 [kx_r 0 x0, kx_i x1] w = mb_83_0 (kx_ex (wm_83 d (kx_ev wx_M d)) φ) d (kx_ev wx_M d) x0 x1 w := by
  show kx_ex (wx_M 83 d (kx_ev wx_M d)) kx_fuel 0 [(0, kx_r 0 x0), (1, kx_i x1)] [] w = _
  rw [show wx_M 83 d (kx_ev wx_M d) = wm_83 d (kx_ev wx_M d) from rfl, hφ]
  exact me_83_0
def mb_83_23 (J : Nat → kx_F) (d : Nat) (C : kx_C)  (w : kx_H) : kx_O := kx_thd kx_cc kx_cs d 3 [] [] w
theorem me_83_23 {f d : Nat} {C : kx_C}  {w : kx_H} : kx_ex (wm_83 d C) (f + 1) 23 [] [] w = mb_83_23 (kx_ex (wm_83 d C) f) d C  w := Eq.trans rfl rfl
/-! TaskDesk.countBefore(LTaskDesk$Place;)I -/
def mb_84_0 (J : Nat → kx_F) (d : Nat) (C : kx_C) (x0 : Option Nat) (x1 : Option Nat) (w : kx_H) : kx_O := x1.bind fun a1 => J 7 [(2, kx_i (0 : Int32)), (3, kx_r 4 (hp_R w 812 a1))] [] w
theorem me_84_0 {f d : Nat} {C : kx_C} {x0 : Option Nat} {x1 : Option Nat} {w : kx_H} : kx_ex (wm_84 d C) (f + 1) 0 [(0, kx_r 0 x0), (1, kx_r 4 x1)] [] w = mb_84_0 (kx_ex (wm_84 d C) f) d C x0 x1 w := Eq.trans rfl rfl
theorem mE_84 {φ d : Nat} (hφ : kx_fuel = φ + 1) {x0 : Option Nat} {x1 : Option Nat} {w : kx_H} : kx_ev wx_M (d + 1) 84 [kx_r 0 x0, kx_r 4 x1] w = mb_84_0 (kx_ex (wm_84 d (kx_ev wx_M d)) φ) d (kx_ev wx_M d) x0 x1 w := by
  show kx_ex (wx_M 84 d (kx_ev wx_M d)) kx_fuel 0 [(0, kx_r 0 x0), (1, kx_r 4 x1)] [] w = _
  rw [show wx_M 84 d (kx_ev wx_M d) = wm_84 d (kx_ev wx_M d) from rfl, hφ]
  exact me_84_0
def mb_84_7 (J : Nat → kx_F) (d : Nat) (C : kx_C) (x2 : Int32) (x3 : Option Nat) (w : kx_H) : kx_O := if x3 = none then (some (.inl (some (.inl x2)), w))
  else (x3.bind fun a1 => J 7 [(2, kx_i (x2 + 1)), (3, kx_r 4 (hp_R w 812 a1))] [] w)
theorem me_84_7 {f d : Nat} {C : kx_C} {x2 : Int32} {x3 : Option Nat} {w : kx_H} : kx_ex (wm_84 d C) (f + 1) 7 [(2, kx_i x2), (3, kx_r 4 x3)] [] w = mb_84_7 (kx_ex (wm_84 d C) f) d C x2 x3 w := Eq.trans rfl rfl
/-! TaskDesk.outcome(I)J -/
def mb_85_0 (J : Nat → kx_F) (d : Nat) (C : kx_C) (x0 : Option Nat) (x1 : Int32) (w : kx_H) : kx_O := x0.bind fun a3 => kx_br 6 (C 83 [kx_r 0 (some a3), kx_i x1] w) fun y2 w1 =>
  y2.bind fun a4 => some (.inl (some (.inr (.inl (hp_L w1 1212 a4)))), w1)
theorem me_85_0 {f d : Nat} {C : kx_C} {x0 : Option Nat} {x1 : Int32} {w : kx_H} : kx_ex (wm_85 d C) (f + 1) 0 [(0, kx_r 0 x0), (1, kx_i x1)] [] w = mb_85_0 (kx_ex (wm_85 d C) f) d C x0 x1 w := Eq.trans rfl rfl
theorem mE_85 {φ d : Nat} (hφ : kx_fuel = φ + 1) {x0 : Option Nat} {x1 : Int32} {w : kx_H} : kx_ev wx_M (d + 1) 85 [kx_r 0 x0, kx_i x1] w = mb_85_0 (kx_ex (wm_85 d (kx_ev wx_M d)) φ) d (kx_ev wx_M d) x0 x1 w := by
  show kx_ex (wx_M 85 d (kx_ev wx_M d)) kx_fuel 0 [(0, kx_r 0 x0), (1, kx_i x1)] [] w = _
  rw [show wx_M 85 d (kx_ev wx_M d) = wm_85 d (kx_ev wx_M d) from rfl, hφ]
  exact me_85_0
/-! TaskDesk.look(II)I -/
def mb_86_0 (J : Nat → kx_F) (d : Nat) (C : kx_C) (x0 : Option Nat) (x1 : Int32) (x2 : Int32) (w : kx_H) : kx_O := x0.bind fun a3 => kx_br 2 (C 14 [kx_r 0 (some a3), kx_i x1] w) fun y2 w1 =>
  if y2 = none then (kx_thd kx_cc kx_cs d 3 [(3, kx_r 2 y2), (0, kx_r 0 x0), (1, kx_i x1), (2, kx_i x2)] [] w1)
  else (if x2 = 0 then (y2.bind fun a4 => some (.inl (some (.inl (hp_I w1 412 a4))), w1))
    else if x2 = 1 then (y2.bind fun a5 => some (.inl (some (.inl (hp_I w1 410 a5))), w1))
    else if x2 = 2 then (y2.bind fun a6 => (hp_R w1 402 a6).bind fun a7 => some (.inl (some (.inl (hp_I w1 1004 a7))), w1))
    else if x2 = 3 then (y2.bind fun a8 => (hp_R w1 404 a8).bind fun a9 => some (.inl (some (.inl (hp_I w1 1004 a9))), w1))
    else if x2 = 4 then (y2.bind fun a10 => if kx_b (hp_B w1 408 a10) = 0 then (J 94 [] [kx_i (0 : Int32)] w1)
      else (J 94 [] [kx_i (1 : Int32)] w1))
    else (kx_thd kx_cc kx_cs d 3 [(3, kx_r 2 y2), (0, kx_r 0 x0), (1, kx_i x1), (2, kx_i x2)] [] w1))
theorem me_86_0 {f d : Nat} {C : kx_C} {x0 : Option Nat} {x1 : Int32} {x2 : Int32} {w : kx_H} : kx_ex (wm_86 d C) (f + 1) 0 [(0, kx_r 0 x0), (1, kx_i x1), (2, kx_i x2)] [] w = mb_86_0 (kx_ex (wm_86 d C) f) d C x0 x1 x2 w := Eq.trans rfl rfl
theorem mE_86 {φ d : Nat} (hφ : kx_fuel = φ + 1) {x0 : Option Nat} {x1 : Int32} {x2 : Int32} {w : kx_H} : kx_ev wx_M (d + 1) 86 [kx_r 0 x0, kx_i x1, kx_i x2] w = mb_86_0 (kx_ex (wm_86 d (kx_ev wx_M d)) φ) d (kx_ev wx_M d) x0 x1 x2 w := by
  show kx_ex (wx_M 86 d (kx_ev wx_M d)) kx_fuel 0 [(0, kx_r 0 x0), (1, kx_i x1), (2, kx_i x2)] [] w = _
  rw [show wx_M 86 d (kx_ev wx_M d) = wm_86 d (kx_ev wx_M d) from rfl, hφ]
  exact me_86_0
def mb_86_94 (J : Nat → kx_F) (d : Nat) (C : kx_C) (xs0 : Int32) (w : kx_H) : kx_O := some (.inl (some (.inl xs0)), w)
theorem me_86_94 {f d : Nat} {C : kx_C} {xs0 : Int32} {w : kx_H} : kx_ex (wm_86 d C) (f + 1) 94 [] [kx_i xs0] w = mb_86_94 (kx_ex (wm_86 d C) f) d C xs0 w := Eq.trans rfl rfl
/-! TaskDesk.watch(II)I -/
def mb_87_0 (J : Nat → kx_F) (d : Nat) (C : kx_C) (x0 : Option Nat) (x1 : Int32) (x2 : Int32) (w : kx_H) : kx_O := x0.bind fun a3 => kx_br 3 (C 64 [kx_r 0 (some a3), kx_i x1] w) fun y2 w1 =>
  if y2 = none then (kx_thd kx_cc kx_cs d 3 [(3, kx_r 3 y2), (0, kx_r 0 x0), (1, kx_i x1), (2, kx_i x2)] [] w1)
  else (if x2 = 0 then (y2.bind fun a4 => some (.inl (some (.inl (hp_I w1 606 a4))), w1))
    else if x2 = 1 then (y2.bind fun a5 => some (.inl (some (.inl (hp_I w1 608 a5))), w1))
    else if x2 = 2 then (y2.bind fun a6 => (hp_R w1 602 a6).bind fun a7 => y2.bind fun a8 => (hp_R w1 604 a8).bind fun a9 => some (.inl (some (.inl ((hp_I w1 1004 a7) + (hp_I w1 1004 a9)))), w1))
    else (kx_thd kx_cc kx_cs d 3 [(3, kx_r 3 y2), (0, kx_r 0 x0), (1, kx_i x1), (2, kx_i x2)] [] w1))
theorem me_87_0 {f d : Nat} {C : kx_C} {x0 : Option Nat} {x1 : Int32} {x2 : Int32} {w : kx_H} : kx_ex (wm_87 d C) (f + 1) 0 [(0, kx_r 0 x0), (1, kx_i x1), (2, kx_i x2)] [] w = mb_87_0 (kx_ex (wm_87 d C) f) d C x0 x1 x2 w := Eq.trans rfl rfl
theorem mE_87 {φ d : Nat} (hφ : kx_fuel = φ + 1) {x0 : Option Nat} {x1 : Int32} {x2 : Int32} {w : kx_H} : kx_ev wx_M (d + 1) 87 [kx_r 0 x0, kx_i x1, kx_i x2] w = mb_87_0 (kx_ex (wm_87 d (kx_ev wx_M d)) φ) d (kx_ev wx_M d) x0 x1 x2 w := by
  show kx_ex (wx_M 87 d (kx_ev wx_M d)) kx_fuel 0 [(0, kx_r 0 x0), (1, kx_i x1), (2, kx_i x2)] [] w = _
  rw [show wx_M 87 d (kx_ev wx_M d) = wm_87 d (kx_ev wx_M d) from rfl, hφ]
  exact me_87_0
/-! TaskDeskModel.thrown()I -/
def mb_89_0 (J : Nat → kx_F) (d : Nat) (C : kx_C) (x0 : Option Nat) (w : kx_H) : kx_O := x0.bind fun a1 => some (.inl (some (.inl (hp_I w 1800 a1))), w)
theorem me_89_0 {f d : Nat} {C : kx_C} {x0 : Option Nat} {w : kx_H} : kx_ex (wm_89 d C) (f + 1) 0 [(0, kx_r 9 x0)] [] w = mb_89_0 (kx_ex (wm_89 d C) f) d C x0 w := Eq.trans rfl rfl
theorem mE_89 {φ d : Nat} (hφ : kx_fuel = φ + 1) {x0 : Option Nat} {w : kx_H} : kx_ev wx_M (d + 1) 89 [kx_r 9 x0] w = mb_89_0 (kx_ex (wm_89 d (kx_ev wx_M d)) φ) d (kx_ev wx_M d) x0 w := by
  show kx_ex (wx_M 89 d (kx_ev wx_M d)) kx_fuel 0 [(0, kx_r 9 x0)] [] w = _
  rw [show wx_M 89 d (kx_ev wx_M d) = wm_89 d (kx_ev wx_M d) from rfl, hφ]
  exact me_89_0
/-! TaskDeskModel.channel(I)I -/
def mb_90_0 (J : Nat → kx_F) (d : Nat) (C : kx_C) (x0 : Option Nat) (x1 : Int32) (w : kx_H) : kx_O := x0.bind fun a1 => let w2 := hp_sI w 1800 a1 (0 : Int32);
  if x1 < 0 then (J 16 [(0, kx_r 9 x0)] [] w2)
  else (if x1 ≤ (8192 : Int32) then (J 24 [(0, kx_r 9 x0), (1, kx_i x1), (2, kx_i (0 : Int32))] [] w2)
    else (J 16 [(0, kx_r 9 x0)] [] w2))
theorem me_90_0 {f d : Nat} {C : kx_C} {x0 : Option Nat} {x1 : Int32} {w : kx_H} : kx_ex (wm_90 d C) (f + 1) 0 [(0, kx_r 9 x0), (1, kx_i x1)] [] w = mb_90_0 (kx_ex (wm_90 d C) f) d C x0 x1 w := Eq.trans rfl rfl
theorem mE_90 {φ d : Nat} (hφ : kx_fuel = φ + 1) {x0 : Option Nat} {x1 : Int32} {w : kx_H} : kx_ev wx_M (d + 1) 90 [kx_r 9 x0, kx_i x1] w = mb_90_0 (kx_ex (wm_90 d (kx_ev wx_M d)) φ) d (kx_ev wx_M d) x0 x1 w := by
  show kx_ex (wx_M 90 d (kx_ev wx_M d)) kx_fuel 0 [(0, kx_r 9 x0), (1, kx_i x1)] [] w = _
  rw [show wx_M 90 d (kx_ev wx_M d) = wm_90 d (kx_ev wx_M d) from rfl, hφ]
  exact me_90_0
def mb_90_16 (J : Nat → kx_F) (d : Nat) (C : kx_C) (x0 : Option Nat) (w : kx_H) : kx_O := x0.bind fun a3 => kx_bi (C 91 [kx_r 9 (some a3), kx_i (1 : Int32)] w) fun y2 w1 =>
  some (.inl (some (.inl y2)), w1)
theorem me_90_16 {f d : Nat} {C : kx_C} {x0 : Option Nat} {w : kx_H} : kx_ex (wm_90 d C) (f + 1) 16 [(0, kx_r 9 x0)] [] w = mb_90_16 (kx_ex (wm_90 d C) f) d C x0 w := Eq.trans rfl rfl
def mb_90_24 (J : Nat → kx_F) (d : Nat) (C : kx_C) (x0 : Option Nat) (x1 : Int32) (x2 : Int32) (w : kx_H) : kx_O := if (512 : Int32) ≤ x2 then (J 46 [(0, kx_r 9 x0), (1, kx_i x1), (2, kx_i x2)] [] w)
  else (x0.bind fun a1 => (hp_R w 1826 a1).bind fun a2 => if x2 < 0 ∨ hp_N w a2 ≤ x2.toNatClampNeg then none else if kx_b (hp_B w (2 * a2 + 1) x2.toNatClampNeg) = 0 then (J 46 [(0, kx_r 9 x0), (1, kx_i x1), (2, kx_i x2)] [] w)
    else (J 24 [(0, kx_r 9 x0), (1, kx_i x1), (2, kx_i (x2 + 1))] [] w))
theorem me_90_24 {f d : Nat} {C : kx_C} {x0 : Option Nat} {x1 : Int32} {x2 : Int32} {w : kx_H} : kx_ex (wm_90 d C) (f + 1) 24 [(0, kx_r 9 x0), (1, kx_i x1), (2, kx_i x2)] [] w = mb_90_24 (kx_ex (wm_90 d C) f) d C x0 x1 x2 w := Eq.trans rfl rfl
def mb_90_46 (J : Nat → kx_F) (d : Nat) (C : kx_C) (x0 : Option Nat) (x1 : Int32) (x2 : Int32) (w : kx_H) : kx_O := if x2 = (512 : Int32) then (J 65 [(0, kx_r 9 x0)] [] w)
  else (x0.bind fun a1 => if (hp_I w 1832 a1) + x1 ≤ (8192 : Int32) then (x0.bind fun a2 => (hp_R w 1826 a2).bind fun a3 => if x2 < 0 ∨ hp_N w a3 ≤ x2.toNatClampNeg then none else kx_sb (1 : Int32) fun b9 => let w4 := hp_sB w (2 * a3 + 1) x2.toNatClampNeg b9;
      x0.bind fun a5 => (hp_R w4 1828 a5).bind fun a6 => if x2 < 0 ∨ hp_N w4 a6 ≤ x2.toNatClampNeg then none else kx_sb (0 : Int32) fun b9 => let w7 := hp_sB w4 (2 * a6 + 1) x2.toNatClampNeg b9;
      x0.bind fun a8 => (hp_R w7 1830 a8).bind fun a9 => if x2 < 0 ∨ hp_N w7 a9 ≤ x2.toNatClampNeg then none else let w10 := hp_sI w7 (2 * a9 + 1) x2.toNatClampNeg x1;
      x0.bind fun a11 => x0.bind fun a12 => let w13 := hp_sI w10 1832 a12 ((hp_I w10 1832 a11) + x1);
      some (.inl (some (.inl x2)), w13))
    else (J 65 [(0, kx_r 9 x0)] [] w))
theorem me_90_46 {f d : Nat} {C : kx_C} {x0 : Option Nat} {x1 : Int32} {x2 : Int32} {w : kx_H} : kx_ex (wm_90 d C) (f + 1) 46 [(0, kx_r 9 x0), (1, kx_i x1), (2, kx_i x2)] [] w = mb_90_46 (kx_ex (wm_90 d C) f) d C x0 x1 x2 w := Eq.trans rfl rfl
def mb_90_65 (J : Nat → kx_F) (d : Nat) (C : kx_C) (x0 : Option Nat) (w : kx_H) : kx_O := x0.bind fun a3 => kx_bi (C 91 [kx_r 9 (some a3), kx_i (2 : Int32)] w) fun y2 w1 =>
  some (.inl (some (.inl y2)), w1)
theorem me_90_65 {f d : Nat} {C : kx_C} {x0 : Option Nat} {w : kx_H} : kx_ex (wm_90 d C) (f + 1) 65 [(0, kx_r 9 x0)] [] w = mb_90_65 (kx_ex (wm_90 d C) f) d C x0 w := Eq.trans rfl rfl
/-! TaskDeskModel.fail(I)I -/
def mb_91_0 (J : Nat → kx_F) (d : Nat) (C : kx_C) (x0 : Option Nat) (x1 : Int32) (w : kx_H) : kx_O := x0.bind fun a1 => let w2 := hp_sI w 1800 a1 x1;
  some (.inl (some (.inl (0 : Int32))), w2)
theorem me_91_0 {f d : Nat} {C : kx_C} {x0 : Option Nat} {x1 : Int32} {w : kx_H} : kx_ex (wm_91 d C) (f + 1) 0 [(0, kx_r 9 x0), (1, kx_i x1)] [] w = mb_91_0 (kx_ex (wm_91 d C) f) d C x0 x1 w := Eq.trans rfl rfl
theorem mE_91 {φ d : Nat} (hφ : kx_fuel = φ + 1) {x0 : Option Nat} {x1 : Int32} {w : kx_H} : kx_ev wx_M (d + 1) 91 [kx_r 9 x0, kx_i x1] w = mb_91_0 (kx_ex (wm_91 d (kx_ev wx_M d)) φ) d (kx_ev wx_M d) x0 x1 w := by
  show kx_ex (wx_M 91 d (kx_ev wx_M d)) kx_fuel 0 [(0, kx_r 9 x0), (1, kx_i x1)] [] w = _
  rw [show wx_M 91 d (kx_ev wx_M d) = wm_91 d (kx_ev wx_M d) from rfl, hφ]
  exact me_91_0
/-! TaskDeskModel.release(I)Z -/
def mb_92_0 (J : Nat → kx_F) (d : Nat) (C : kx_C) (x0 : Option Nat) (x1 : Int32) (w : kx_H) : kx_O := x0.bind fun a1 => let w2 := hp_sI w 1800 a1 (0 : Int32);
  x0.bind fun a5 => kx_bi (C 93 [kx_r 9 (some a5), kx_i x1] w2) fun y4 w3 =>
  if y4 = 0 then (J 31 [] [] w3)
  else (x0.bind fun a8 => kx_bi (C 94 [kx_r 9 (some a8), kx_i x1, kx_i (1 : Int32)] w3) fun y7 w6 =>
    if 0 ≤ y7 then (J 31 [] [] w6)
    else (x0.bind fun a11 => kx_bi (C 94 [kx_r 9 (some a11), kx_i x1, kx_i (0 : Int32)] w6) fun y10 w9 =>
      if y10 < 0 then (J 35 [(0, kx_r 9 x0), (1, kx_i x1), (2, kx_i (0 : Int32))] [] w9)
      else (J 31 [] [] w9)))
theorem me_92_0 {f d : Nat} {C : kx_C} {x0 : Option Nat} {x1 : Int32} {w : kx_H} : kx_ex (wm_92 d C) (f + 1) 0 [(0, kx_r 9 x0), (1, kx_i x1)] [] w = mb_92_0 (kx_ex (wm_92 d C) f) d C x0 x1 w := Eq.trans rfl rfl
theorem mE_92 {φ d : Nat} (hφ : kx_fuel = φ + 1) {x0 : Option Nat} {x1 : Int32} {w : kx_H} : kx_ev wx_M (d + 1) 92 [kx_r 9 x0, kx_i x1] w = mb_92_0 (kx_ex (wm_92 d (kx_ev wx_M d)) φ) d (kx_ev wx_M d) x0 x1 w := by
  show kx_ex (wx_M 92 d (kx_ev wx_M d)) kx_fuel 0 [(0, kx_r 9 x0), (1, kx_i x1)] [] w = _
  rw [show wx_M 92 d (kx_ev wx_M d) = wm_92 d (kx_ev wx_M d) from rfl, hφ]
  exact me_92_0
def mb_92_31 (J : Nat → kx_F) (d : Nat) (C : kx_C)  (w : kx_H) : kx_O := if (0 : Int32) = 0 ∨ (0 : Int32) = 1 then some (.inl (some (.inl (0 : Int32))), w) else none
theorem me_92_31 {f d : Nat} {C : kx_C}  {w : kx_H} : kx_ex (wm_92 d C) (f + 1) 31 [] [] w = mb_92_31 (kx_ex (wm_92 d C) f) d C  w := Eq.trans rfl rfl
def mb_92_35 (J : Nat → kx_F) (d : Nat) (C : kx_C) (x0 : Option Nat) (x1 : Int32) (x2 : Int32) (w : kx_H) : kx_O := x0.bind fun a1 => if hp_I w 1876 a1 ≤ x2 then (J 65 [(0, kx_r 9 x0), (1, kx_i x1), (2, kx_i (0 : Int32))] [] w)
  else (x0.bind fun a2 => (hp_R w 1878 a2).bind fun a3 => if x2 < 0 ∨ hp_N w a3 ≤ x2.toNatClampNeg then none else if hp_I w (2 * a3 + 1) x2.toNatClampNeg = ((-1) : Int32) - x1 then (if (0 : Int32) = 0 ∨ (0 : Int32) = 1 then some (.inl (some (.inl (0 : Int32))), w) else none)
    else (J 35 [(0, kx_r 9 x0), (1, kx_i x1), (2, kx_i (x2 + 1))] [] w))
theorem me_92_35 {f d : Nat} {C : kx_C} {x0 : Option Nat} {x1 : Int32} {x2 : Int32} {w : kx_H} : kx_ex (wm_92 d C) (f + 1) 35 [(0, kx_r 9 x0), (1, kx_i x1), (2, kx_i x2)] [] w = mb_92_35 (kx_ex (wm_92 d C) f) d C x0 x1 x2 w := Eq.trans rfl rfl
def mb_92_65 (J : Nat → kx_F) (d : Nat) (C : kx_C) (x0 : Option Nat) (x1 : Int32) (x2 : Int32) (w : kx_H) : kx_O := x0.bind fun a1 => if hp_I w 1852 a1 ≤ x2 then (J 91 [(0, kx_r 9 x0), (1, kx_i x1)] [] w)
  else (x0.bind fun a2 => (hp_R w 1854 a2).bind fun a3 => if x2 < 0 ∨ hp_N w a3 ≤ x2.toNatClampNeg then none else if hp_I w (2 * a3 + 1) x2.toNatClampNeg = x1 then (if (0 : Int32) = 0 ∨ (0 : Int32) = 1 then some (.inl (some (.inl (0 : Int32))), w) else none)
    else (J 65 [(0, kx_r 9 x0), (1, kx_i x1), (2, kx_i (x2 + 1))] [] w))
theorem me_92_65 {f d : Nat} {C : kx_C} {x0 : Option Nat} {x1 : Int32} {x2 : Int32} {w : kx_H} : kx_ex (wm_92 d C) (f + 1) 65 [(0, kx_r 9 x0), (1, kx_i x1), (2, kx_i x2)] [] w = mb_92_65 (kx_ex (wm_92 d C) f) d C x0 x1 x2 w := Eq.trans rfl rfl
def mb_92_91 (J : Nat → kx_F) (d : Nat) (C : kx_C) (x0 : Option Nat) (x1 : Int32) (w : kx_H) : kx_O := x0.bind fun a3 => kx_bi (C 95 [kx_r 9 (some a3), kx_i x1] w) fun y2 w1 =>
  if y2 ≤ 0 then (x0.bind fun a4 => (hp_R w1 1826 a4).bind fun a5 => if x1 < 0 ∨ hp_N w1 a5 ≤ x1.toNatClampNeg then none else kx_sb (0 : Int32) fun b9 => let w6 := hp_sB w1 (2 * a5 + 1) x1.toNatClampNeg b9;
    x0.bind fun a7 => x0.bind fun a8 => (hp_R w6 1830 a8).bind fun a9 => if x1 < 0 ∨ hp_N w6 a9 ≤ x1.toNatClampNeg then none else x0.bind fun a10 => let w11 := hp_sI w6 1832 a10 ((hp_I w6 1832 a7) - (hp_I w6 (2 * a9 + 1) x1.toNatClampNeg));
    if (1 : Int32) = 0 ∨ (1 : Int32) = 1 then some (.inl (some (.inl (1 : Int32))), w11) else none)
  else (x0.bind fun a14 => kx_bl (C 96 [kx_r 9 (some a14), kx_i x1] w1) fun y13 w12 =>
    x0.bind fun a15 => x0.bind fun a16 => (hp_R w12 1838 a15).bind fun a17 => if hp_I w12 1834 a16 < 0 ∨ hp_N w12 a17 ≤ (hp_I w12 1834 a16 : Int32).toNatClampNeg then none else let w18 := hp_sL w12 (2 * a17 + 1) (hp_I w12 1834 a16 : Int32).toNatClampNeg y13;
    J 91 [(0, kx_r 9 x0), (1, kx_i x1)] [] w18)
theorem me_92_91 {f d : Nat} {C : kx_C} {x0 : Option Nat} {x1 : Int32} {w : kx_H} : kx_ex (wm_92 d C) (f + 1) 91 [(0, kx_r 9 x0), (1, kx_i x1)] [] w = mb_92_91 (kx_ex (wm_92 d C) f) d C x0 x1 w := Eq.trans rfl rfl
/-! TaskDeskModel.isChannel(I)Z -/
def mb_93_0 (J : Nat → kx_F) (d : Nat) (C : kx_C) (x0 : Option Nat) (x1 : Int32) (w : kx_H) : kx_O := if x1 < 0 then (J 24 [] [] w)
  else (if (512 : Int32) ≤ x1 then (J 24 [] [] w)
    else (x0.bind fun a1 => (hp_R w 1826 a1).bind fun a2 => if x1 < 0 ∨ hp_N w a2 ≤ x1.toNatClampNeg then none else if kx_b (hp_B w (2 * a2 + 1) x1.toNatClampNeg) = 0 then (J 24 [] [] w)
      else (J 25 [] [kx_i (1 : Int32)] w)))
theorem me_93_0 {f d : Nat} {C : kx_C} {x0 : Option Nat} {x1 : Int32} {w : kx_H} : kx_ex (wm_93 d C) (f + 1) 0 [(0, kx_r 9 x0), (1, kx_i x1)] [] w = mb_93_0 (kx_ex (wm_93 d C) f) d C x0 x1 w := Eq.trans rfl rfl
theorem mE_93 {φ d : Nat} (hφ : kx_fuel = φ + 1) {x0 : Option Nat} {x1 : Int32} {w : kx_H} : kx_ev wx_M (d + 1) 93 [kx_r 9 x0, kx_i x1] w = mb_93_0 (kx_ex (wm_93 d (kx_ev wx_M d)) φ) d (kx_ev wx_M d) x0 x1 w := by
  show kx_ex (wx_M 93 d (kx_ev wx_M d)) kx_fuel 0 [(0, kx_r 9 x0), (1, kx_i x1)] [] w = _
  rw [show wx_M 93 d (kx_ev wx_M d) = wm_93 d (kx_ev wx_M d) from rfl, hφ]
  exact me_93_0
def mb_93_24 (J : Nat → kx_F) (d : Nat) (C : kx_C)  (w : kx_H) : kx_O := J 25 [] [kx_i (0 : Int32)] w
theorem me_93_24 {f d : Nat} {C : kx_C}  {w : kx_H} : kx_ex (wm_93 d C) (f + 1) 24 [] [] w = mb_93_24 (kx_ex (wm_93 d C) f) d C  w := Eq.trans rfl rfl
def mb_93_25 (J : Nat → kx_F) (d : Nat) (C : kx_C) (xs0 : Int32) (w : kx_H) : kx_O := if xs0 = 0 ∨ xs0 = 1 then some (.inl (some (.inl xs0)), w) else none
theorem me_93_25 {f d : Nat} {C : kx_C} {xs0 : Int32} {w : kx_H} : kx_ex (wm_93 d C) (f + 1) 25 [] [kx_i xs0] w = mb_93_25 (kx_ex (wm_93 d C) f) d C xs0 w := Eq.trans rfl rfl
/-! TaskDeskModel.first(IZ)I -/
def mb_94_0 (J : Nat → kx_F) (d : Nat) (C : kx_C) (x0 : Option Nat) (x1 : Int32) (x2 : Int32) (w : kx_H) : kx_O := J 2 [(0, kx_r 9 x0), (1, kx_i x1), (2, kx_i x2), (3, kx_i (0 : Int32))] [] w
theorem me_94_0 {f d : Nat} {C : kx_C} {x0 : Option Nat} {x1 : Int32} {x2 : Int32} {w : kx_H} : kx_ex (wm_94 d C) (f + 1) 0 [(0, kx_r 9 x0), (1, kx_i x1), (2, kx_i x2)] [] w = mb_94_0 (kx_ex (wm_94 d C) f) d C x0 x1 x2 w := Eq.trans rfl rfl
theorem mE_94 {φ d : Nat} (hφ : kx_fuel = φ + 1) {x0 : Option Nat} {x1 : Int32} {x2 : Int32} {w : kx_H} : kx_ev wx_M (d + 1) 94 [kx_r 9 x0, kx_i x1, kx_i x2] w = mb_94_0 (kx_ex (wm_94 d (kx_ev wx_M d)) φ) d (kx_ev wx_M d) x0 x1 x2 w := by
  show kx_ex (wx_M 94 d (kx_ev wx_M d)) kx_fuel 0 [(0, kx_r 9 x0), (1, kx_i x1), (2, kx_i x2)] [] w = _
  rw [show wx_M 94 d (kx_ev wx_M d) = wm_94 d (kx_ev wx_M d) from rfl, hφ]
  exact me_94_0
def mb_94_2 (J : Nat → kx_F) (d : Nat) (C : kx_C) (x0 : Option Nat) (x1 : Int32) (x2 : Int32) (x3 : Int32) (w : kx_H) : kx_O := x0.bind fun a1 => if hp_I w 1840 a1 ≤ x3 then (some (.inl (some (.inl ((-1) : Int32))), w))
  else (x0.bind fun a2 => (hp_R w 1844 a2).bind fun a3 => if x3 < 0 ∨ hp_N w a3 ≤ x3.toNatClampNeg then none else if hp_I w (2 * a3 + 1) x3.toNatClampNeg = x1 then (x0.bind fun a4 => (hp_R w 1846 a4).bind fun a5 => if x3 < 0 ∨ hp_N w a5 ≤ x3.toNatClampNeg then none else if kx_b (hp_B w (2 * a5 + 1) x3.toNatClampNeg) = x2 then (some (.inl (some (.inl x3)), w))
      else (J 32 [(0, kx_r 9 x0), (1, kx_i x1), (2, kx_i x2), (3, kx_i x3)] [] w))
    else (J 32 [(0, kx_r 9 x0), (1, kx_i x1), (2, kx_i x2), (3, kx_i x3)] [] w))
theorem me_94_2 {f d : Nat} {C : kx_C} {x0 : Option Nat} {x1 : Int32} {x2 : Int32} {x3 : Int32} {w : kx_H} : kx_ex (wm_94 d C) (f + 1) 2 [(0, kx_r 9 x0), (1, kx_i x1), (2, kx_i x2), (3, kx_i x3)] [] w = mb_94_2 (kx_ex (wm_94 d C) f) d C x0 x1 x2 x3 w := Eq.trans rfl rfl
def mb_94_32 (J : Nat → kx_F) (d : Nat) (C : kx_C) (x0 : Option Nat) (x1 : Int32) (x2 : Int32) (x3 : Int32) (w : kx_H) : kx_O := J 2 [(0, kx_r 9 x0), (1, kx_i x1), (2, kx_i x2), (3, kx_i (x3 + 1))] [] w
theorem me_94_32 {f d : Nat} {C : kx_C} {x0 : Option Nat} {x1 : Int32} {x2 : Int32} {x3 : Int32} {w : kx_H} : kx_ex (wm_94 d C) (f + 1) 32 [(0, kx_r 9 x0), (1, kx_i x1), (2, kx_i x2), (3, kx_i x3)] [] w = mb_94_32 (kx_ex (wm_94 d C) f) d C x0 x1 x2 x3 w := Eq.trans rfl rfl
/-! TaskDeskModel.held(I)I -/
def mb_95_0 (J : Nat → kx_F) (d : Nat) (C : kx_C) (x0 : Option Nat) (x1 : Int32) (w : kx_H) : kx_O := J 4 [(0, kx_r 9 x0), (1, kx_i x1), (2, kx_i (0 : Int32)), (3, kx_i (0 : Int32))] [] w
theorem me_95_0 {f d : Nat} {C : kx_C} {x0 : Option Nat} {x1 : Int32} {w : kx_H} : kx_ex (wm_95 d C) (f + 1) 0 [(0, kx_r 9 x0), (1, kx_i x1)] [] w = mb_95_0 (kx_ex (wm_95 d C) f) d C x0 x1 w := Eq.trans rfl rfl
theorem mE_95 {φ d : Nat} (hφ : kx_fuel = φ + 1) {x0 : Option Nat} {x1 : Int32} {w : kx_H} : kx_ev wx_M (d + 1) 95 [kx_r 9 x0, kx_i x1] w = mb_95_0 (kx_ex (wm_95 d (kx_ev wx_M d)) φ) d (kx_ev wx_M d) x0 x1 w := by
  show kx_ex (wx_M 95 d (kx_ev wx_M d)) kx_fuel 0 [(0, kx_r 9 x0), (1, kx_i x1)] [] w = _
  rw [show wx_M 95 d (kx_ev wx_M d) = wm_95 d (kx_ev wx_M d) from rfl, hφ]
  exact me_95_0
def mb_95_4 (J : Nat → kx_F) (d : Nat) (C : kx_C) (x0 : Option Nat) (x1 : Int32) (x2 : Int32) (x3 : Int32) (w : kx_H) : kx_O := x0.bind fun a1 => if hp_I w 1834 a1 ≤ x3 then (some (.inl (some (.inl x2)), w))
  else (x0.bind fun a2 => (hp_R w 1836 a2).bind fun a3 => if x3 < 0 ∨ hp_N w a3 ≤ x3.toNatClampNeg then none else if hp_I w (2 * a3 + 1) x3.toNatClampNeg = x1 then (J 28 [(0, kx_r 9 x0), (1, kx_i x1), (3, kx_i x3)] [kx_i (1 : Int32), kx_i x2] w)
    else (J 28 [(0, kx_r 9 x0), (1, kx_i x1), (3, kx_i x3)] [kx_i (0 : Int32), kx_i x2] w))
theorem me_95_4 {f d : Nat} {C : kx_C} {x0 : Option Nat} {x1 : Int32} {x2 : Int32} {x3 : Int32} {w : kx_H} : kx_ex (wm_95 d C) (f + 1) 4 [(0, kx_r 9 x0), (1, kx_i x1), (2, kx_i x2), (3, kx_i x3)] [] w = mb_95_4 (kx_ex (wm_95 d C) f) d C x0 x1 x2 x3 w := Eq.trans rfl rfl
def mb_95_28 (J : Nat → kx_F) (d : Nat) (C : kx_C) (x0 : Option Nat) (x1 : Int32) (x3 : Int32) (xs0 : Int32) (xs1 : Int32) (w : kx_H) : kx_O := J 4 [(0, kx_r 9 x0), (1, kx_i x1), (2, kx_i (xs1 + xs0)), (3, kx_i (x3 + 1))] [] w
theorem me_95_28 {f d : Nat} {C : kx_C} {x0 : Option Nat} {x1 : Int32} {x3 : Int32} {xs0 : Int32} {xs1 : Int32} {w : kx_H} : kx_ex (wm_95 d C) (f + 1) 28 [(0, kx_r 9 x0), (1, kx_i x1), (3, kx_i x3)] [kx_i xs0, kx_i xs1] w = mb_95_28 (kx_ex (wm_95 d C) f) d C x0 x1 x3 xs0 xs1 w := Eq.trans rfl rfl
/-! TaskDeskModel.takeFirst(I)J -/
def mb_96_0 (J : Nat → kx_F) (d : Nat) (C : kx_C) (x0 : Option Nat) (x1 : Int32) (w : kx_H) : kx_O := J 2 [(0, kx_r 9 x0), (1, kx_i x1), (2, kx_i (0 : Int32))] [] w
theorem me_96_0 {f d : Nat} {C : kx_C} {x0 : Option Nat} {x1 : Int32} {w : kx_H} : kx_ex (wm_96 d C) (f + 1) 0 [(0, kx_r 9 x0), (1, kx_i x1)] [] w = mb_96_0 (kx_ex (wm_96 d C) f) d C x0 x1 w := Eq.trans rfl rfl
theorem mE_96 {φ d : Nat} (hφ : kx_fuel = φ + 1) {x0 : Option Nat} {x1 : Int32} {w : kx_H} : kx_ev wx_M (d + 1) 96 [kx_r 9 x0, kx_i x1] w = mb_96_0 (kx_ex (wm_96 d (kx_ev wx_M d)) φ) d (kx_ev wx_M d) x0 x1 w := by
  show kx_ex (wx_M 96 d (kx_ev wx_M d)) kx_fuel 0 [(0, kx_r 9 x0), (1, kx_i x1)] [] w = _
  rw [show wx_M 96 d (kx_ev wx_M d) = wm_96 d (kx_ev wx_M d) from rfl, hφ]
  exact me_96_0
def mb_96_2 (J : Nat → kx_F) (d : Nat) (C : kx_C) (x0 : Option Nat) (x1 : Int32) (x2 : Int32) (w : kx_H) : kx_O := x0.bind fun a1 => (hp_R w 1836 a1).bind fun a2 => if x2 < 0 ∨ hp_N w a2 ≤ x2.toNatClampNeg then none else if hp_I w (2 * a2 + 1) x2.toNatClampNeg = x1 then (x0.bind fun a3 => (hp_R w 1838 a3).bind fun a4 => if x2 < 0 ∨ hp_N w a4 ≤ x2.toNatClampNeg then none else x0.bind fun a5 => x0.bind fun a6 => let w7 := hp_sI w 1834 a6 ((hp_I w 1834 a5) - (1 : Int32));
    J 35 [(0, kx_r 9 x0), (2, kx_i x2), (3, kx_l (hp_L w (2 * a4 + 1) x2.toNatClampNeg))] [] w7)
  else (J 2 [(0, kx_r 9 x0), (1, kx_i x1), (2, kx_i (x2 + 1))] [] w)
theorem me_96_2 {f d : Nat} {C : kx_C} {x0 : Option Nat} {x1 : Int32} {x2 : Int32} {w : kx_H} : kx_ex (wm_96 d C) (f + 1) 2 [(0, kx_r 9 x0), (1, kx_i x1), (2, kx_i x2)] [] w = mb_96_2 (kx_ex (wm_96 d C) f) d C x0 x1 x2 w := Eq.trans rfl rfl
def mb_96_35 (J : Nat → kx_F) (d : Nat) (C : kx_C) (x0 : Option Nat) (x2 : Int32) (x3 : Int64) (w : kx_H) : kx_O := x0.bind fun a1 => if hp_I w 1834 a1 ≤ x2 then (some (.inl (some (.inr (.inl x3))), w))
  else (x0.bind fun a2 => x0.bind fun a3 => (hp_R w 1836 a3).bind fun a4 => if x2 + (1 : Int32) < 0 ∨ hp_N w a4 ≤ (x2 + (1 : Int32) : Int32).toNatClampNeg then none else (hp_R w 1836 a2).bind fun a5 => if x2 < 0 ∨ hp_N w a5 ≤ x2.toNatClampNeg then none else let w6 := hp_sI w (2 * a5 + 1) x2.toNatClampNeg (hp_I w (2 * a4 + 1) (x2 + (1 : Int32) : Int32).toNatClampNeg);
    x0.bind fun a7 => x0.bind fun a8 => (hp_R w6 1838 a8).bind fun a9 => if x2 + (1 : Int32) < 0 ∨ hp_N w6 a9 ≤ (x2 + (1 : Int32) : Int32).toNatClampNeg then none else (hp_R w6 1838 a7).bind fun a10 => if x2 < 0 ∨ hp_N w6 a10 ≤ x2.toNatClampNeg then none else let w11 := hp_sL w6 (2 * a10 + 1) x2.toNatClampNeg (hp_L w6 (2 * a9 + 1) (x2 + (1 : Int32) : Int32).toNatClampNeg);
    J 35 [(0, kx_r 9 x0), (2, kx_i (x2 + 1)), (3, kx_l x3)] [] w11)
theorem me_96_35 {f d : Nat} {C : kx_C} {x0 : Option Nat} {x2 : Int32} {x3 : Int64} {w : kx_H} : kx_ex (wm_96 d C) (f + 1) 35 [(0, kx_r 9 x0), (2, kx_i x2), (3, kx_l x3)] [] w = mb_96_35 (kx_ex (wm_96 d C) f) d C x0 x2 x3 w := Eq.trans rfl rfl
/-! TaskDeskModel.alarm(IJ)V -/
def mb_97_0 (J : Nat → kx_F) (d : Nat) (C : kx_C) (x0 : Option Nat) (x1 : Int32) (x2 : Int64) (w : kx_H) : kx_O := x0.bind fun a1 => let w2 := hp_sI w 1800 a1 (0 : Int32);
  x0.bind fun a5 => kx_bi (C 93 [kx_r 9 (some a5), kx_i x1] w2) fun y4 w3 =>
  if y4 = 0 then (J 27 [(0, kx_r 9 x0), (1, kx_i x1), (2, kx_l x2)] [] w3)
  else (if lg_cmp x2 (0 : Int64) < 0 then (J 27 [(0, kx_r 9 x0), (1, kx_i x1), (2, kx_l x2)] [] w3)
    else (if lg_cmp x2 (1000000000 : Int64) ≤ 0 then (x0.bind fun a6 => if hp_I w3 1802 a6 < 0 then (J 52 [(0, kx_r 9 x0), (1, kx_i x1), (2, kx_l x2)] [] w3)
        else (x0.bind fun a7 => if hp_I w3 1882 a7 = (256 : Int32) then (J 52 [(0, kx_r 9 x0), (1, kx_i x1), (2, kx_l x2)] [] w3)
          else (J 57 [(0, kx_r 9 x0), (1, kx_i x1), (2, kx_l x2)] [] w3)))
      else (J 27 [(0, kx_r 9 x0), (1, kx_i x1), (2, kx_l x2)] [] w3)))
theorem me_97_0 {f d : Nat} {C : kx_C} {x0 : Option Nat} {x1 : Int32} {x2 : Int64} {w : kx_H} : kx_ex (wm_97 d C) (f + 1) 0 [(0, kx_r 9 x0), (1, kx_i x1), (2, kx_l x2)] [] w = mb_97_0 (kx_ex (wm_97 d C) f) d C x0 x1 x2 w := Eq.trans rfl rfl
theorem mE_97 {φ d : Nat} (hφ : kx_fuel = φ + 1) {x0 : Option Nat} {x1 : Int32} {x2 : Int64} {w : kx_H} : kx_ev wx_M (d + 1) 97 [kx_r 9 x0, kx_i x1, kx_l x2] w = mb_97_0 (kx_ex (wm_97 d (kx_ev wx_M d)) φ) d (kx_ev wx_M d) x0 x1 x2 w := by
  show kx_ex (wx_M 97 d (kx_ev wx_M d)) kx_fuel 0 [(0, kx_r 9 x0), (1, kx_i x1), (2, kx_l x2)] [] w = _
  rw [show wx_M 97 d (kx_ev wx_M d) = wm_97 d (kx_ev wx_M d) from rfl, hφ]
  exact me_97_0
def mb_97_27 (J : Nat → kx_F) (d : Nat) (C : kx_C) (x0 : Option Nat) (x1 : Int32) (x2 : Int64) (w : kx_H) : kx_O := x0.bind fun a1 => let w2 := hp_sI w 1800 a1 (1 : Int32);
  J 57 [(0, kx_r 9 x0), (1, kx_i x1), (2, kx_l x2)] [] w2
theorem me_97_27 {f d : Nat} {C : kx_C} {x0 : Option Nat} {x1 : Int32} {x2 : Int64} {w : kx_H} : kx_ex (wm_97 d C) (f + 1) 27 [(0, kx_r 9 x0), (1, kx_i x1), (2, kx_l x2)] [] w = mb_97_27 (kx_ex (wm_97 d C) f) d C x0 x1 x2 w := Eq.trans rfl rfl
def mb_97_52 (J : Nat → kx_F) (d : Nat) (C : kx_C) (x0 : Option Nat) (x1 : Int32) (x2 : Int64) (w : kx_H) : kx_O := x0.bind fun a1 => let w2 := hp_sI w 1800 a1 (2 : Int32);
  J 57 [(0, kx_r 9 x0), (1, kx_i x1), (2, kx_l x2)] [] w2
theorem me_97_52 {f d : Nat} {C : kx_C} {x0 : Option Nat} {x1 : Int32} {x2 : Int64} {w : kx_H} : kx_ex (wm_97 d C) (f + 1) 52 [(0, kx_r 9 x0), (1, kx_i x1), (2, kx_l x2)] [] w = mb_97_52 (kx_ex (wm_97 d C) f) d C x0 x1 x2 w := Eq.trans rfl rfl
def mb_97_57 (J : Nat → kx_F) (d : Nat) (C : kx_C) (x0 : Option Nat) (x1 : Int32) (x2 : Int64) (w : kx_H) : kx_O := x0.bind fun a1 => if hp_I w 1800 a1 ≤ 0 then (x0.bind fun a2 => x0.bind fun a3 => (hp_R w 1878 a2).bind fun a4 => if hp_I w 1876 a3 < 0 ∨ hp_N w a4 ≤ (hp_I w 1876 a3 : Int32).toNatClampNeg then none else let w5 := hp_sI w (2 * a4 + 1) (hp_I w 1876 a3 : Int32).toNatClampNeg (((-1) : Int32) - x1);
    x0.bind fun a6 => x0.bind fun a7 => x0.bind fun a8 => (hp_R w5 1880 a6).bind fun a9 => if hp_I w5 1876 a7 < 0 ∨ hp_N w5 a9 ≤ (hp_I w5 1876 a7 : Int32).toNatClampNeg then none else let w10 := hp_sL w5 (2 * a9 + 1) (hp_I w5 1876 a7 : Int32).toNatClampNeg ((hp_L w5 1806 a8) + x2);
    x0.bind fun a11 => x0.bind fun a12 => let w13 := hp_sI w10 1876 a12 ((hp_I w10 1876 a11) + (1 : Int32));
    x0.bind fun a14 => x0.bind fun a15 => let w16 := hp_sI w13 1882 a15 ((hp_I w13 1882 a14) + (1 : Int32));
    some (.inl none, w16))
  else (some (.inl none, w))
theorem me_97_57 {f d : Nat} {C : kx_C} {x0 : Option Nat} {x1 : Int32} {x2 : Int64} {w : kx_H} : kx_ex (wm_97 d C) (f + 1) 57 [(0, kx_r 9 x0), (1, kx_i x1), (2, kx_l x2)] [] w = mb_97_57 (kx_ex (wm_97 d C) f) d C x0 x1 x2 w := Eq.trans rfl rfl
/-! TaskDeskModel.send(IJ)Z -/
def mb_98_0 (J : Nat → kx_F) (d : Nat) (C : kx_C) (x0 : Option Nat) (x1 : Int32) (x2 : Int64) (w : kx_H) : kx_O := x0.bind fun a1 => let w2 := hp_sI w 1800 a1 (0 : Int32);
  if x1 = ((-1) : Int32) then (J 24 [(0, kx_r 9 x0), (1, kx_i x1), (2, kx_l x2)] [] w2)
  else (x0.bind fun a5 => kx_bi (C 93 [kx_r 9 (some a5), kx_i x1] w2) fun y4 w3 =>
    if y4 = 0 then (x0.bind fun a8 => kx_bi (C 99 [kx_r 9 (some a8), kx_i (1 : Int32)] w3) fun y7 w6 =>
      if y7 = 0 ∨ y7 = 1 then some (.inl (some (.inl y7)), w6) else none)
    else (J 24 [(0, kx_r 9 x0), (1, kx_i x1), (2, kx_l x2)] [] w3))
theorem me_98_0 {f d : Nat} {C : kx_C} {x0 : Option Nat} {x1 : Int32} {x2 : Int64} {w : kx_H} : kx_ex (wm_98 d C) (f + 1) 0 [(0, kx_r 9 x0), (1, kx_i x1), (2, kx_l x2)] [] w = mb_98_0 (kx_ex (wm_98 d C) f) d C x0 x1 x2 w := Eq.trans rfl rfl
theorem mE_98 {φ d : Nat} (hφ : kx_fuel = φ + 1) {x0 : Option Nat} {x1 : Int32} {x2 : Int64} {w : kx_H} : kx_ev wx_M (d + 1) 98 [kx_r 9 x0, kx_i x1, kx_l x2] w = mb_98_0 (kx_ex (wm_98 d (kx_ev wx_M d)) φ) d (kx_ev wx_M d) x0 x1 x2 w := by
  show kx_ex (wx_M 98 d (kx_ev wx_M d)) kx_fuel 0 [(0, kx_r 9 x0), (1, kx_i x1), (2, kx_l x2)] [] w = _
  rw [show wx_M 98 d (kx_ev wx_M d) = wm_98 d (kx_ev wx_M d) from rfl, hφ]
  exact me_98_0
def mb_98_24 (J : Nat → kx_F) (d : Nat) (C : kx_C) (x0 : Option Nat) (x1 : Int32) (x2 : Int64) (w : kx_H) : kx_O := x0.bind fun a1 => if 0 ≤ hp_I w 1802 a1 then (if x1 < 0 then (J 56 [(0, kx_r 9 x0), (1, kx_i x1), (2, kx_l x2)] [] w)
    else (x0.bind fun a2 => (hp_R w 1828 a2).bind fun a3 => if x1 < 0 ∨ hp_N w a3 ≤ x1.toNatClampNeg then none else if kx_b (hp_B w (2 * a3 + 1) x1.toNatClampNeg) = 0 then (J 56 [(0, kx_r 9 x0), (1, kx_i x1), (2, kx_l x2)] [] w)
      else (x0.bind fun a6 => kx_bi (C 99 [kx_r 9 (some a6), kx_i (3 : Int32)] w) fun y5 w4 =>
        if y5 = 0 ∨ y5 = 1 then some (.inl (some (.inl y5)), w4) else none)))
  else (x0.bind fun a9 => kx_bi (C 99 [kx_r 9 (some a9), kx_i (2 : Int32)] w) fun y8 w7 =>
    if y8 = 0 ∨ y8 = 1 then some (.inl (some (.inl y8)), w7) else none)
theorem me_98_24 {f d : Nat} {C : kx_C} {x0 : Option Nat} {x1 : Int32} {x2 : Int64} {w : kx_H} : kx_ex (wm_98 d C) (f + 1) 24 [(0, kx_r 9 x0), (1, kx_i x1), (2, kx_l x2)] [] w = mb_98_24 (kx_ex (wm_98 d C) f) d C x0 x1 x2 w := Eq.trans rfl rfl
def mb_98_56 (J : Nat → kx_F) (d : Nat) (C : kx_C) (x0 : Option Nat) (x1 : Int32) (x2 : Int64) (w : kx_H) : kx_O := x0.bind fun a3 => kx_bi (C 100 [kx_r 9 (some a3), kx_i x1] w) fun y2 w1 =>
  if y2 = 0 then (if x1 < 0 then (J 100 [(0, kx_r 9 x0), (1, kx_i x1)] [] w1)
    else (x0.bind fun a4 => x0.bind fun a7 => kx_bv (C 107 [kx_r 9 (some a7), kx_i (hp_I w1 1802 a4), kx_i x1, kx_i (1 : Int32), kx_l x2, kx_i ((-1) : Int32)] w1) fun w5 =>
      J 100 [(0, kx_r 9 x0), (1, kx_i x1)] [] w5))
  else (x0.bind fun a10 => kx_bv (C 101 [kx_r 9 (some a10), kx_i x1, kx_l x2] w1) fun w8 =>
    x0.bind fun a11 => x0.bind fun a14 => kx_bv (C 103 [kx_r 9 (some a14), kx_i (hp_I w8 1802 a11), kx_l (0 : Int64), kx_i (1 : Int32), kx_i ((-1) : Int32), kx_i (0 : Int32)] w8) fun w12 =>
    if (1 : Int32) = 0 ∨ (1 : Int32) = 1 then some (.inl (some (.inl (1 : Int32))), w12) else none)
theorem me_98_56 {f d : Nat} {C : kx_C} {x0 : Option Nat} {x1 : Int32} {x2 : Int64} {w : kx_H} : kx_ex (wm_98 d C) (f + 1) 56 [(0, kx_r 9 x0), (1, kx_i x1), (2, kx_l x2)] [] w = mb_98_56 (kx_ex (wm_98 d C) f) d C x0 x1 x2 w := Eq.trans rfl rfl
def mb_98_100 (J : Nat → kx_F) (d : Nat) (C : kx_C) (x0 : Option Nat) (x1 : Int32) (w : kx_H) : kx_O := if 0 ≤ x1 then (J 111 [(1, kx_i x1)] [kx_i (2 : Int32), kx_r 9 x0] w)
  else (J 111 [(1, kx_i x1)] [kx_i (7 : Int32), kx_r 9 x0] w)
theorem me_98_100 {f d : Nat} {C : kx_C} {x0 : Option Nat} {x1 : Int32} {w : kx_H} : kx_ex (wm_98 d C) (f + 1) 100 [(0, kx_r 9 x0), (1, kx_i x1)] [] w = mb_98_100 (kx_ex (wm_98 d C) f) d C x0 x1 w := Eq.trans rfl rfl
def mb_98_111 (J : Nat → kx_F) (d : Nat) (C : kx_C) (x1 : Int32) (xs0 : Int32) (xs1 : Option Nat) (w : kx_H) : kx_O := xs1.bind fun a3 => kx_bv (C 108 [kx_r 9 (some a3), kx_i xs0, kx_i x1] w) fun w1 =>
  if (0 : Int32) = 0 ∨ (0 : Int32) = 1 then some (.inl (some (.inl (0 : Int32))), w1) else none
theorem me_98_111 {f d : Nat} {C : kx_C} {x1 : Int32} {xs0 : Int32} {xs1 : Option Nat} {w : kx_H} : kx_ex (wm_98 d C) (f + 1) 111 [(1, kx_i x1)] [kx_i xs0, kx_r 9 xs1] w = mb_98_111 (kx_ex (wm_98 d C) f) d C x1 xs0 xs1 w := Eq.trans rfl rfl
/-! TaskDeskModel.no(I)Z -/
def mb_99_0 (J : Nat → kx_F) (d : Nat) (C : kx_C) (x0 : Option Nat) (x1 : Int32) (w : kx_H) : kx_O := x0.bind fun a1 => let w2 := hp_sI w 1800 a1 x1;
  if (0 : Int32) = 0 ∨ (0 : Int32) = 1 then some (.inl (some (.inl (0 : Int32))), w2) else none
theorem me_99_0 {f d : Nat} {C : kx_C} {x0 : Option Nat} {x1 : Int32} {w : kx_H} : kx_ex (wm_99 d C) (f + 1) 0 [(0, kx_r 9 x0), (1, kx_i x1)] [] w = mb_99_0 (kx_ex (wm_99 d C) f) d C x0 x1 w := Eq.trans rfl rfl
theorem mE_99 {φ d : Nat} (hφ : kx_fuel = φ + 1) {x0 : Option Nat} {x1 : Int32} {w : kx_H} : kx_ev wx_M (d + 1) 99 [kx_r 9 x0, kx_i x1] w = mb_99_0 (kx_ex (wm_99 d (kx_ev wx_M d)) φ) d (kx_ev wx_M d) x0 x1 w := by
  show kx_ex (wx_M 99 d (kx_ev wx_M d)) kx_fuel 0 [(0, kx_r 9 x0), (1, kx_i x1)] [] w = _
  rw [show wx_M 99 d (kx_ev wx_M d) = wm_99 d (kx_ev wx_M d) from rfl, hφ]
  exact me_99_0
/-! TaskDeskModel.maySend(I)Z -/
def mb_100_0 (J : Nat → kx_F) (d : Nat) (C : kx_C) (x0 : Option Nat) (x1 : Int32) (w : kx_H) : kx_O := if x1 < 0 then (J 40 [] [] w)
  else (x0.bind fun a1 => (hp_R w 1828 a1).bind fun a2 => if x1 < 0 ∨ hp_N w a2 ≤ x1.toNatClampNeg then none else if kx_b (hp_B w (2 * a2 + 1) x1.toNatClampNeg) = 0 then (x0.bind fun a5 => kx_bi (C 94 [kx_r 9 (some a5), kx_i x1, kx_i (0 : Int32)] w) fun y4 w3 =>
      if 0 ≤ y4 then (J 36 [] [] w3)
      else (x0.bind fun a8 => kx_bi (C 95 [kx_r 9 (some a8), kx_i x1] w3) fun y7 w6 =>
        x0.bind fun a9 => (hp_R w6 1830 a9).bind fun a10 => if x1 < 0 ∨ hp_N w6 a10 ≤ x1.toNatClampNeg then none else if hp_I w6 (2 * a10 + 1) x1.toNatClampNeg ≤ y7 then (J 40 [] [] w6)
        else (J 36 [] [] w6)))
    else (J 36 [] [] w))
theorem me_100_0 {f d : Nat} {C : kx_C} {x0 : Option Nat} {x1 : Int32} {w : kx_H} : kx_ex (wm_100 d C) (f + 1) 0 [(0, kx_r 9 x0), (1, kx_i x1)] [] w = mb_100_0 (kx_ex (wm_100 d C) f) d C x0 x1 w := Eq.trans rfl rfl
theorem mE_100 {φ d : Nat} (hφ : kx_fuel = φ + 1) {x0 : Option Nat} {x1 : Int32} {w : kx_H} : kx_ev wx_M (d + 1) 100 [kx_r 9 x0, kx_i x1] w = mb_100_0 (kx_ex (wm_100 d (kx_ev wx_M d)) φ) d (kx_ev wx_M d) x0 x1 w := by
  show kx_ex (wx_M 100 d (kx_ev wx_M d)) kx_fuel 0 [(0, kx_r 9 x0), (1, kx_i x1)] [] w = _
  rw [show wx_M 100 d (kx_ev wx_M d) = wm_100 d (kx_ev wx_M d) from rfl, hφ]
  exact me_100_0
def mb_100_36 (J : Nat → kx_F) (d : Nat) (C : kx_C)  (w : kx_H) : kx_O := J 41 [] [kx_i (1 : Int32)] w
theorem me_100_36 {f d : Nat} {C : kx_C}  {w : kx_H} : kx_ex (wm_100 d C) (f + 1) 36 [] [] w = mb_100_36 (kx_ex (wm_100 d C) f) d C  w := Eq.trans rfl rfl
def mb_100_40 (J : Nat → kx_F) (d : Nat) (C : kx_C)  (w : kx_H) : kx_O := J 41 [] [kx_i (0 : Int32)] w
theorem me_100_40 {f d : Nat} {C : kx_C}  {w : kx_H} : kx_ex (wm_100 d C) (f + 1) 40 [] [] w = mb_100_40 (kx_ex (wm_100 d C) f) d C  w := Eq.trans rfl rfl
def mb_100_41 (J : Nat → kx_F) (d : Nat) (C : kx_C) (xs0 : Int32) (w : kx_H) : kx_O := if xs0 = 0 ∨ xs0 = 1 then some (.inl (some (.inl xs0)), w) else none
theorem me_100_41 {f d : Nat} {C : kx_C} {xs0 : Int32} {w : kx_H} : kx_ex (wm_100 d C) (f + 1) 41 [] [kx_i xs0] w = mb_100_41 (kx_ex (wm_100 d C) f) d C xs0 w := Eq.trans rfl rfl
/-! TaskDeskModel.deliver(IJ)V -/
def mb_101_0 (J : Nat → kx_F) (d : Nat) (C : kx_C) (x0 : Option Nat) (x1 : Int32) (x2 : Int64) (w : kx_H) : kx_O := x0.bind fun a3 => kx_bi (C 94 [kx_r 9 (some a3), kx_i x1, kx_i (0 : Int32)] w) fun y2 w1 =>
  if y2 < 0 then (x0.bind fun a6 => kx_bv (C 106 [kx_r 9 (some a6), kx_i x1, kx_l x2] w1) fun w4 =>
    J 31 [] [] w4)
  else (x0.bind fun a9 => kx_bv (C 102 [kx_r 9 (some a9), kx_i y2, kx_l x2, kx_i (1 : Int32), kx_i (0 : Int32)] w1) fun w7 =>
    J 31 [] [] w7)
theorem me_101_0 {f d : Nat} {C : kx_C} {x0 : Option Nat} {x1 : Int32} {x2 : Int64} {w : kx_H} : kx_ex (wm_101 d C) (f + 1) 0 [(0, kx_r 9 x0), (1, kx_i x1), (2, kx_l x2)] [] w = mb_101_0 (kx_ex (wm_101 d C) f) d C x0 x1 x2 w := Eq.trans rfl rfl
theorem mE_101 {φ d : Nat} (hφ : kx_fuel = φ + 1) {x0 : Option Nat} {x1 : Int32} {x2 : Int64} {w : kx_H} : kx_ev wx_M (d + 1) 101 [kx_r 9 x0, kx_i x1, kx_l x2] w = mb_101_0 (kx_ex (wm_101 d (kx_ev wx_M d)) φ) d (kx_ev wx_M d) x0 x1 x2 w := by
  show kx_ex (wx_M 101 d (kx_ev wx_M d)) kx_fuel 0 [(0, kx_r 9 x0), (1, kx_i x1), (2, kx_l x2)] [] w = _
  rw [show wx_M 101 d (kx_ev wx_M d) = wm_101 d (kx_ev wx_M d) from rfl, hφ]
  exact me_101_0
def mb_101_31 (J : Nat → kx_F) (d : Nat) (C : kx_C)  (w : kx_H) : kx_O := some (.inl none, w)
theorem me_101_31 {f d : Nat} {C : kx_C}  {w : kx_H} : kx_ex (wm_101 d C) (f + 1) 31 [] [] w = mb_101_31 (kx_ex (wm_101 d C) f) d C  w := Eq.trans rfl rfl
/-! TaskDeskModel.met(IJZZ)V -/
def mb_102_0 (J : Nat → kx_F) (d : Nat) (C : kx_C) (x0 : Option Nat) (x1 : Int32) (x2 : Int64) (x4 : Int32) (x5 : Int32) (w : kx_H) : kx_O := x0.bind fun a1 => (hp_R w 1842 a1).bind fun a2 => if x1 < 0 ∨ hp_N w a2 ≤ x1.toNatClampNeg then none else x0.bind fun a3 => (hp_R w 1850 a3).bind fun a4 => if x1 < 0 ∨ hp_N w a4 ≤ x1.toNatClampNeg then none else x0.bind fun a7 => kx_bv (C 103 [kx_r 9 (some a7), kx_i (hp_I w (2 * a2 + 1) x1.toNatClampNeg), kx_l x2, kx_i x4, kx_i (hp_I w (2 * a4 + 1) x1.toNatClampNeg), kx_i x5] w) fun w5 =>
  x0.bind fun a10 => kx_bv (C 104 [kx_r 9 (some a10), kx_i (hp_I w (2 * a2 + 1) x1.toNatClampNeg)] w5) fun w8 =>
  x0.bind fun a13 => kx_bv (C 105 [kx_r 9 (some a13), kx_i (hp_I w (2 * a2 + 1) x1.toNatClampNeg)] w8) fun w11 =>
  some (.inl none, w11)
theorem me_102_0 {f d : Nat} {C : kx_C} {x0 : Option Nat} {x1 : Int32} {x2 : Int64} {x4 : Int32} {x5 : Int32} {w : kx_H} : kx_ex (wm_102 d C) (f + 1) 0 [(0, kx_r 9 x0), (1, kx_i x1), (2, kx_l x2), (4, kx_i x4), (5, kx_i x5)] [] w = mb_102_0 (kx_ex (wm_102 d C) f) d C x0 x1 x2 x4 x5 w := Eq.trans rfl rfl
theorem mE_102 {φ d : Nat} (hφ : kx_fuel = φ + 1) {x0 : Option Nat} {x1 : Int32} {x2 : Int64} {x4 : Int32} {x5 : Int32} {w : kx_H} : kx_ev wx_M (d + 1) 102 [kx_r 9 x0, kx_i x1, kx_l x2, kx_i x4, kx_i x5] w = mb_102_0 (kx_ex (wm_102 d (kx_ev wx_M d)) φ) d (kx_ev wx_M d) x0 x1 x2 x4 x5 w := by
  show kx_ex (wx_M 102 d (kx_ev wx_M d)) kx_fuel 0 [(0, kx_r 9 x0), (1, kx_i x1), (2, kx_l x2), (4, kx_i x4), (5, kx_i x5)] [] w = _
  rw [show wx_M 102 d (kx_ev wx_M d) = wm_102 d (kx_ev wx_M d) from rfl, hφ]
  exact me_102_0
/-! TaskDeskModel.has(IJZIZ)V -/
def mb_103_0 (J : Nat → kx_F) (d : Nat) (C : kx_C) (x0 : Option Nat) (x1 : Int32) (x2 : Int64) (x4 : Int32) (x5 : Int32) (x6 : Int32) (w : kx_H) : kx_O := x0.bind fun a1 => (hp_R w 1814 a1).bind fun a2 => if x1 < 0 ∨ hp_N w a2 ≤ x1.toNatClampNeg then none else let w3 := hp_sL w (2 * a2 + 1) x1.toNatClampNeg x2;
  x0.bind fun a4 => (hp_R w3 1816 a4).bind fun a5 => if x1 < 0 ∨ hp_N w3 a5 ≤ x1.toNatClampNeg then none else kx_sb x4 fun b9 => let w6 := hp_sB w3 (2 * a5 + 1) x1.toNatClampNeg b9;
  x0.bind fun a7 => (hp_R w6 1818 a7).bind fun a8 => if x1 < 0 ∨ hp_N w6 a8 ≤ x1.toNatClampNeg then none else let w9 := hp_sI w6 (2 * a8 + 1) x1.toNatClampNeg x5;
  x0.bind fun a10 => (hp_R w9 1820 a10).bind fun a11 => if x1 < 0 ∨ hp_N w9 a11 ≤ x1.toNatClampNeg then none else kx_sb x6 fun b9 => let w12 := hp_sB w9 (2 * a11 + 1) x1.toNatClampNeg b9;
  some (.inl none, w12)
theorem me_103_0 {f d : Nat} {C : kx_C} {x0 : Option Nat} {x1 : Int32} {x2 : Int64} {x4 : Int32} {x5 : Int32} {x6 : Int32} {w : kx_H} : kx_ex (wm_103 d C) (f + 1) 0 [(0, kx_r 9 x0), (1, kx_i x1), (2, kx_l x2), (4, kx_i x4), (5, kx_i x5), (6, kx_i x6)] [] w = mb_103_0 (kx_ex (wm_103 d C) f) d C x0 x1 x2 x4 x5 x6 w := Eq.trans rfl rfl
theorem mE_103 {φ d : Nat} (hφ : kx_fuel = φ + 1) {x0 : Option Nat} {x1 : Int32} {x2 : Int64} {x4 : Int32} {x5 : Int32} {x6 : Int32} {w : kx_H} : kx_ev wx_M (d + 1) 103 [kx_r 9 x0, kx_i x1, kx_l x2, kx_i x4, kx_i x5, kx_i x6] w = mb_103_0 (kx_ex (wm_103 d (kx_ev wx_M d)) φ) d (kx_ev wx_M d) x0 x1 x2 x4 x5 x6 w := by
  show kx_ex (wx_M 103 d (kx_ev wx_M d)) kx_fuel 0 [(0, kx_r 9 x0), (1, kx_i x1), (2, kx_l x2), (4, kx_i x4), (5, kx_i x5), (6, kx_i x6)] [] w = _
  rw [show wx_M 103 d (kx_ev wx_M d) = wm_103 d (kx_ev wx_M d) from rfl, hφ]
  exact me_103_0
/-! TaskDeskModel.withdraw(I)V -/
def mb_104_0 (J : Nat → kx_F) (d : Nat) (C : kx_C) (x0 : Option Nat) (x1 : Int32) (w : kx_H) : kx_O := J 4 [(0, kx_r 9 x0), (1, kx_i x1), (2, kx_i (0 : Int32)), (3, kx_i (0 : Int32))] [] w
theorem me_104_0 {f d : Nat} {C : kx_C} {x0 : Option Nat} {x1 : Int32} {w : kx_H} : kx_ex (wm_104 d C) (f + 1) 0 [(0, kx_r 9 x0), (1, kx_i x1)] [] w = mb_104_0 (kx_ex (wm_104 d C) f) d C x0 x1 w := Eq.trans rfl rfl
theorem mE_104 {φ d : Nat} (hφ : kx_fuel = φ + 1) {x0 : Option Nat} {x1 : Int32} {w : kx_H} : kx_ev wx_M (d + 1) 104 [kx_r 9 x0, kx_i x1] w = mb_104_0 (kx_ex (wm_104 d (kx_ev wx_M d)) φ) d (kx_ev wx_M d) x0 x1 w := by
  show kx_ex (wx_M 104 d (kx_ev wx_M d)) kx_fuel 0 [(0, kx_r 9 x0), (1, kx_i x1)] [] w = _
  rw [show wx_M 104 d (kx_ev wx_M d) = wm_104 d (kx_ev wx_M d) from rfl, hφ]
  exact me_104_0
def mb_104_4 (J : Nat → kx_F) (d : Nat) (C : kx_C) (x0 : Option Nat) (x1 : Int32) (x2 : Int32) (x3 : Int32) (w : kx_H) : kx_O := x0.bind fun a1 => if hp_I w 1840 a1 ≤ x3 then (x0.bind fun a2 => let w3 := hp_sI w 1840 a2 x2;
    some (.inl none, w3))
  else (x0.bind fun a4 => (hp_R w 1842 a4).bind fun a5 => if x3 < 0 ∨ hp_N w a5 ≤ x3.toNatClampNeg then none else if hp_I w (2 * a5 + 1) x3.toNatClampNeg = x1 then (J 88 [(0, kx_r 9 x0), (1, kx_i x1), (2, kx_i x2), (3, kx_i x3)] [] w)
    else (x0.bind fun a6 => x0.bind fun a7 => (hp_R w 1842 a7).bind fun a8 => if x3 < 0 ∨ hp_N w a8 ≤ x3.toNatClampNeg then none else (hp_R w 1842 a6).bind fun a9 => if x2 < 0 ∨ hp_N w a9 ≤ x2.toNatClampNeg then none else let w10 := hp_sI w (2 * a9 + 1) x2.toNatClampNeg (hp_I w (2 * a8 + 1) x3.toNatClampNeg);
      x0.bind fun a11 => x0.bind fun a12 => (hp_R w10 1844 a12).bind fun a13 => if x3 < 0 ∨ hp_N w10 a13 ≤ x3.toNatClampNeg then none else (hp_R w10 1844 a11).bind fun a14 => if x2 < 0 ∨ hp_N w10 a14 ≤ x2.toNatClampNeg then none else let w15 := hp_sI w10 (2 * a14 + 1) x2.toNatClampNeg (hp_I w10 (2 * a13 + 1) x3.toNatClampNeg);
      x0.bind fun a16 => x0.bind fun a17 => (hp_R w15 1846 a17).bind fun a18 => if x3 < 0 ∨ hp_N w15 a18 ≤ x3.toNatClampNeg then none else (hp_R w15 1846 a16).bind fun a19 => if x2 < 0 ∨ hp_N w15 a19 ≤ x2.toNatClampNeg then none else kx_sb (kx_b (hp_B w15 (2 * a18 + 1) x3.toNatClampNeg)) fun b9 => let w20 := hp_sB w15 (2 * a19 + 1) x2.toNatClampNeg b9;
      x0.bind fun a21 => x0.bind fun a22 => (hp_R w20 1848 a22).bind fun a23 => if x3 < 0 ∨ hp_N w20 a23 ≤ x3.toNatClampNeg then none else (hp_R w20 1848 a21).bind fun a24 => if x2 < 0 ∨ hp_N w20 a24 ≤ x2.toNatClampNeg then none else let w25 := hp_sL w20 (2 * a24 + 1) x2.toNatClampNeg (hp_L w20 (2 * a23 + 1) x3.toNatClampNeg);
      x0.bind fun a26 => x0.bind fun a27 => (hp_R w25 1850 a27).bind fun a28 => if x3 < 0 ∨ hp_N w25 a28 ≤ x3.toNatClampNeg then none else (hp_R w25 1850 a26).bind fun a29 => if x2 < 0 ∨ hp_N w25 a29 ≤ x2.toNatClampNeg then none else let w30 := hp_sI w25 (2 * a29 + 1) x2.toNatClampNeg (hp_I w25 (2 * a28 + 1) x3.toNatClampNeg);
      J 88 [(0, kx_r 9 x0), (1, kx_i x1), (2, kx_i (x2 + 1)), (3, kx_i x3)] [] w30))
theorem me_104_4 {f d : Nat} {C : kx_C} {x0 : Option Nat} {x1 : Int32} {x2 : Int32} {x3 : Int32} {w : kx_H} : kx_ex (wm_104 d C) (f + 1) 4 [(0, kx_r 9 x0), (1, kx_i x1), (2, kx_i x2), (3, kx_i x3)] [] w = mb_104_4 (kx_ex (wm_104 d C) f) d C x0 x1 x2 x3 w := Eq.trans rfl rfl
def mb_104_88 (J : Nat → kx_F) (d : Nat) (C : kx_C) (x0 : Option Nat) (x1 : Int32) (x2 : Int32) (x3 : Int32) (w : kx_H) : kx_O := J 4 [(0, kx_r 9 x0), (1, kx_i x1), (2, kx_i x2), (3, kx_i (x3 + 1))] [] w
theorem me_104_88 {f d : Nat} {C : kx_C} {x0 : Option Nat} {x1 : Int32} {x2 : Int32} {x3 : Int32} {w : kx_H} : kx_ex (wm_104 d C) (f + 1) 88 [(0, kx_r 9 x0), (1, kx_i x1), (2, kx_i x2), (3, kx_i x3)] [] w = mb_104_88 (kx_ex (wm_104 d C) f) d C x0 x1 x2 x3 w := Eq.trans rfl rfl
/-! TaskDeskModel.wake(I)V -/
def mb_105_0 (J : Nat → kx_F) (d : Nat) (C : kx_C) (x0 : Option Nat) (x1 : Int32) (w : kx_H) : kx_O := x0.bind fun a1 => (hp_R w 1810 a1).bind fun a2 => if x1 < 0 ∨ hp_N w a2 ≤ x1.toNatClampNeg then none else let w3 := hp_sI w (2 * a2 + 1) x1.toNatClampNeg (1 : Int32);
  x0.bind fun a4 => (hp_R w3 1812 a4).bind fun a5 => if x1 < 0 ∨ hp_N w3 a5 ≤ x1.toNatClampNeg then none else let w6 := hp_sI w3 (2 * a5 + 1) x1.toNatClampNeg ((-1) : Int32);
  x0.bind fun a7 => x0.bind fun a8 => (hp_R w6 1824 a7).bind fun a9 => if hp_I w6 1822 a8 < 0 ∨ hp_N w6 a9 ≤ (hp_I w6 1822 a8 : Int32).toNatClampNeg then none else let w10 := hp_sI w6 (2 * a9 + 1) (hp_I w6 1822 a8 : Int32).toNatClampNeg x1;
  x0.bind fun a11 => x0.bind fun a12 => let w13 := hp_sI w10 1822 a12 ((hp_I w10 1822 a11) + (1 : Int32));
  some (.inl none, w13)
theorem me_105_0 {f d : Nat} {C : kx_C} {x0 : Option Nat} {x1 : Int32} {w : kx_H} : kx_ex (wm_105 d C) (f + 1) 0 [(0, kx_r 9 x0), (1, kx_i x1)] [] w = mb_105_0 (kx_ex (wm_105 d C) f) d C x0 x1 w := Eq.trans rfl rfl
theorem mE_105 {φ d : Nat} (hφ : kx_fuel = φ + 1) {x0 : Option Nat} {x1 : Int32} {w : kx_H} : kx_ev wx_M (d + 1) 105 [kx_r 9 x0, kx_i x1] w = mb_105_0 (kx_ex (wm_105 d (kx_ev wx_M d)) φ) d (kx_ev wx_M d) x0 x1 w := by
  show kx_ex (wx_M 105 d (kx_ev wx_M d)) kx_fuel 0 [(0, kx_r 9 x0), (1, kx_i x1)] [] w = _
  rw [show wx_M 105 d (kx_ev wx_M d) = wm_105 d (kx_ev wx_M d) from rfl, hφ]
  exact me_105_0
/-! TaskDeskModel.store(IJ)V -/
def mb_106_0 (J : Nat → kx_F) (d : Nat) (C : kx_C) (x0 : Option Nat) (x1 : Int32) (x2 : Int64) (w : kx_H) : kx_O := x0.bind fun a1 => x0.bind fun a2 => (hp_R w 1836 a1).bind fun a3 => if hp_I w 1834 a2 < 0 ∨ hp_N w a3 ≤ (hp_I w 1834 a2 : Int32).toNatClampNeg then none else let w4 := hp_sI w (2 * a3 + 1) (hp_I w 1834 a2 : Int32).toNatClampNeg x1;
  x0.bind fun a5 => x0.bind fun a6 => (hp_R w4 1838 a5).bind fun a7 => if hp_I w4 1834 a6 < 0 ∨ hp_N w4 a7 ≤ (hp_I w4 1834 a6 : Int32).toNatClampNeg then none else let w8 := hp_sL w4 (2 * a7 + 1) (hp_I w4 1834 a6 : Int32).toNatClampNeg x2;
  x0.bind fun a9 => x0.bind fun a10 => let w11 := hp_sI w8 1834 a10 ((hp_I w8 1834 a9) + (1 : Int32));
  some (.inl none, w11)
theorem me_106_0 {f d : Nat} {C : kx_C} {x0 : Option Nat} {x1 : Int32} {x2 : Int64} {w : kx_H} : kx_ex (wm_106 d C) (f + 1) 0 [(0, kx_r 9 x0), (1, kx_i x1), (2, kx_l x2)] [] w = mb_106_0 (kx_ex (wm_106 d C) f) d C x0 x1 x2 w := Eq.trans rfl rfl
theorem mE_106 {φ d : Nat} (hφ : kx_fuel = φ + 1) {x0 : Option Nat} {x1 : Int32} {x2 : Int64} {w : kx_H} : kx_ev wx_M (d + 1) 106 [kx_r 9 x0, kx_i x1, kx_l x2] w = mb_106_0 (kx_ex (wm_106 d (kx_ev wx_M d)) φ) d (kx_ev wx_M d) x0 x1 x2 w := by
  show kx_ex (wx_M 106 d (kx_ev wx_M d)) kx_fuel 0 [(0, kx_r 9 x0), (1, kx_i x1), (2, kx_l x2)] [] w = _
  rw [show wx_M 106 d (kx_ev wx_M d) = wm_106 d (kx_ev wx_M d) from rfl, hφ]
  exact me_106_0
/-! TaskDeskModel.offer(IIZJI)V -/
def mb_107_0 (J : Nat → kx_F) (d : Nat) (C : kx_C) (x0 : Option Nat) (x1 : Int32) (x2 : Int32) (x3 : Int32) (x4 : Int64) (x6 : Int32) (w : kx_H) : kx_O := x0.bind fun a1 => x0.bind fun a2 => (hp_R w 1842 a1).bind fun a3 => if hp_I w 1840 a2 < 0 ∨ hp_N w a3 ≤ (hp_I w 1840 a2 : Int32).toNatClampNeg then none else let w4 := hp_sI w (2 * a3 + 1) (hp_I w 1840 a2 : Int32).toNatClampNeg x1;
  x0.bind fun a5 => x0.bind fun a6 => (hp_R w4 1844 a5).bind fun a7 => if hp_I w4 1840 a6 < 0 ∨ hp_N w4 a7 ≤ (hp_I w4 1840 a6 : Int32).toNatClampNeg then none else let w8 := hp_sI w4 (2 * a7 + 1) (hp_I w4 1840 a6 : Int32).toNatClampNeg x2;
  x0.bind fun a9 => x0.bind fun a10 => (hp_R w8 1846 a9).bind fun a11 => if hp_I w8 1840 a10 < 0 ∨ hp_N w8 a11 ≤ (hp_I w8 1840 a10 : Int32).toNatClampNeg then none else kx_sb x3 fun b9 => let w12 := hp_sB w8 (2 * a11 + 1) (hp_I w8 1840 a10 : Int32).toNatClampNeg b9;
  x0.bind fun a13 => x0.bind fun a14 => (hp_R w12 1848 a13).bind fun a15 => if hp_I w12 1840 a14 < 0 ∨ hp_N w12 a15 ≤ (hp_I w12 1840 a14 : Int32).toNatClampNeg then none else let w16 := hp_sL w12 (2 * a15 + 1) (hp_I w12 1840 a14 : Int32).toNatClampNeg x4;
  x0.bind fun a17 => x0.bind fun a18 => (hp_R w16 1850 a17).bind fun a19 => if hp_I w16 1840 a18 < 0 ∨ hp_N w16 a19 ≤ (hp_I w16 1840 a18 : Int32).toNatClampNeg then none else let w20 := hp_sI w16 (2 * a19 + 1) (hp_I w16 1840 a18 : Int32).toNatClampNeg x6;
  x0.bind fun a21 => x0.bind fun a22 => let w23 := hp_sI w20 1840 a22 ((hp_I w20 1840 a21) + (1 : Int32));
  some (.inl none, w23)
theorem me_107_0 {f d : Nat} {C : kx_C} {x0 : Option Nat} {x1 : Int32} {x2 : Int32} {x3 : Int32} {x4 : Int64} {x6 : Int32} {w : kx_H} : kx_ex (wm_107 d C) (f + 1) 0 [(0, kx_r 9 x0), (1, kx_i x1), (2, kx_i x2), (3, kx_i x3), (4, kx_l x4), (6, kx_i x6)] [] w = mb_107_0 (kx_ex (wm_107 d C) f) d C x0 x1 x2 x3 x4 x6 w := Eq.trans rfl rfl
theorem mE_107 {φ d : Nat} (hφ : kx_fuel = φ + 1) {x0 : Option Nat} {x1 : Int32} {x2 : Int32} {x3 : Int32} {x4 : Int64} {x6 : Int32} {w : kx_H} : kx_ev wx_M (d + 1) 107 [kx_r 9 x0, kx_i x1, kx_i x2, kx_i x3, kx_l x4, kx_i x6] w = mb_107_0 (kx_ex (wm_107 d (kx_ev wx_M d)) φ) d (kx_ev wx_M d) x0 x1 x2 x3 x4 x6 w := by
  show kx_ex (wx_M 107 d (kx_ev wx_M d)) kx_fuel 0 [(0, kx_r 9 x0), (1, kx_i x1), (2, kx_i x2), (3, kx_i x3), (4, kx_l x4), (6, kx_i x6)] [] w = _
  rw [show wx_M 107 d (kx_ev wx_M d) = wm_107 d (kx_ev wx_M d) from rfl, hφ]
  exact me_107_0
/-! TaskDeskModel.rest(II)V -/
def mb_108_0 (J : Nat → kx_F) (d : Nat) (C : kx_C) (x0 : Option Nat) (x1 : Int32) (x2 : Int32) (w : kx_H) : kx_O := x0.bind fun a1 => x0.bind fun a2 => (hp_R w 1810 a1).bind fun a3 => if hp_I w 1802 a2 < 0 ∨ hp_N w a3 ≤ (hp_I w 1802 a2 : Int32).toNatClampNeg then none else let w4 := hp_sI w (2 * a3 + 1) (hp_I w 1802 a2 : Int32).toNatClampNeg x1;
  x0.bind fun a5 => x0.bind fun a6 => (hp_R w4 1812 a5).bind fun a7 => if hp_I w4 1802 a6 < 0 ∨ hp_N w4 a7 ≤ (hp_I w4 1802 a6 : Int32).toNatClampNeg then none else let w8 := hp_sI w4 (2 * a7 + 1) (hp_I w4 1802 a6 : Int32).toNatClampNeg x2;
  x0.bind fun a9 => let w10 := hp_sI w8 1802 a9 ((-1) : Int32);
  x0.bind fun a13 => kx_bv (C 109 [kx_r 9 (some a13)] w10) fun w11 =>
  some (.inl none, w11)
theorem me_108_0 {f d : Nat} {C : kx_C} {x0 : Option Nat} {x1 : Int32} {x2 : Int32} {w : kx_H} : kx_ex (wm_108 d C) (f + 1) 0 [(0, kx_r 9 x0), (1, kx_i x1), (2, kx_i x2)] [] w = mb_108_0 (kx_ex (wm_108 d C) f) d C x0 x1 x2 w := Eq.trans rfl rfl
theorem mE_108 {φ d : Nat} (hφ : kx_fuel = φ + 1) {x0 : Option Nat} {x1 : Int32} {x2 : Int32} {w : kx_H} : kx_ev wx_M (d + 1) 108 [kx_r 9 x0, kx_i x1, kx_i x2] w = mb_108_0 (kx_ex (wm_108 d (kx_ev wx_M d)) φ) d (kx_ev wx_M d) x0 x1 x2 w := by
  show kx_ex (wx_M 108 d (kx_ev wx_M d)) kx_fuel 0 [(0, kx_r 9 x0), (1, kx_i x1), (2, kx_i x2)] [] w = _
  rw [show wx_M 108 d (kx_ev wx_M d) = wm_108 d (kx_ev wx_M d) from rfl, hφ]
  exact me_108_0
/-! TaskDeskModel.next()V -/
def mb_109_0 (J : Nat → kx_F) (d : Nat) (C : kx_C) (x0 : Option Nat) (w : kx_H) : kx_O := x0.bind fun a1 => if hp_I w 1822 a1 = 0 then (x0.bind fun a2 => if hp_I w 1876 a2 ≤ 0 then (J 21 [(0, kx_r 9 x0)] [] w)
    else (x0.bind fun a5 => kx_bv (C 110 [kx_r 9 (some a5)] w) fun w3 =>
      J 0 [(0, kx_r 9 x0)] [] w3))
  else (J 21 [(0, kx_r 9 x0)] [] w)
theorem me_109_0 {f d : Nat} {C : kx_C} {x0 : Option Nat} {w : kx_H} : kx_ex (wm_109 d C) (f + 1) 0 [(0, kx_r 9 x0)] [] w = mb_109_0 (kx_ex (wm_109 d C) f) d C x0 w := Eq.trans rfl rfl
theorem mE_109 {φ d : Nat} (hφ : kx_fuel = φ + 1) {x0 : Option Nat} {w : kx_H} : kx_ev wx_M (d + 1) 109 [kx_r 9 x0] w = mb_109_0 (kx_ex (wm_109 d (kx_ev wx_M d)) φ) d (kx_ev wx_M d) x0 w := by
  show kx_ex (wx_M 109 d (kx_ev wx_M d)) kx_fuel 0 [(0, kx_r 9 x0)] [] w = _
  rw [show wx_M 109 d (kx_ev wx_M d) = wm_109 d (kx_ev wx_M d) from rfl, hφ]
  exact me_109_0
def mb_109_21 (J : Nat → kx_F) (d : Nat) (C : kx_C) (x0 : Option Nat) (w : kx_H) : kx_O := x0.bind fun a1 => if hp_I w 1822 a1 = 0 then (x0.bind fun a9 => let w10 := hp_sI w 1804 a9 (2 : Int32);
    some (.inl none, w10))
  else (x0.bind fun a2 => (hp_R w 1824 a2).bind fun a3 => if (0 : Int32) < 0 ∨ hp_N w a3 ≤ (0 : Int32).toNatClampNeg then none else x0.bind fun a4 => let w5 := hp_sI w 1802 a4 (hp_I w (2 * a3 + 1) (0 : Int32).toNatClampNeg);
    x0.bind fun a6 => x0.bind fun a7 => let w8 := hp_sI w5 1822 a7 ((hp_I w5 1822 a6) - (1 : Int32));
    J 56 [(0, kx_r 9 x0), (1, kx_i (0 : Int32))] [] w8)
theorem me_109_21 {f d : Nat} {C : kx_C} {x0 : Option Nat} {w : kx_H} : kx_ex (wm_109 d C) (f + 1) 21 [(0, kx_r 9 x0)] [] w = mb_109_21 (kx_ex (wm_109 d C) f) d C x0 w := Eq.trans rfl rfl
def mb_109_56 (J : Nat → kx_F) (d : Nat) (C : kx_C) (x0 : Option Nat) (x1 : Int32) (w : kx_H) : kx_O := x0.bind fun a1 => if hp_I w 1822 a1 ≤ x1 then (x0.bind fun a2 => x0.bind fun a3 => (hp_R w 1810 a2).bind fun a4 => if hp_I w 1802 a3 < 0 ∨ hp_N w a4 ≤ (hp_I w 1802 a3 : Int32).toNatClampNeg then none else let w5 := hp_sI w (2 * a4 + 1) (hp_I w 1802 a3 : Int32).toNatClampNeg (0 : Int32);
    some (.inl none, w5))
  else (x0.bind fun a6 => x0.bind fun a7 => (hp_R w 1824 a7).bind fun a8 => if x1 + (1 : Int32) < 0 ∨ hp_N w a8 ≤ (x1 + (1 : Int32) : Int32).toNatClampNeg then none else (hp_R w 1824 a6).bind fun a9 => if x1 < 0 ∨ hp_N w a9 ≤ x1.toNatClampNeg then none else let w10 := hp_sI w (2 * a9 + 1) x1.toNatClampNeg (hp_I w (2 * a8 + 1) (x1 + (1 : Int32) : Int32).toNatClampNeg);
    J 56 [(0, kx_r 9 x0), (1, kx_i (x1 + 1))] [] w10)
theorem me_109_56 {f d : Nat} {C : kx_C} {x0 : Option Nat} {x1 : Int32} {w : kx_H} : kx_ex (wm_109 d C) (f + 1) 56 [(0, kx_r 9 x0), (1, kx_i x1)] [] w = mb_109_56 (kx_ex (wm_109 d C) f) d C x0 x1 w := Eq.trans rfl rfl
/-! TaskDeskModel.ring()V -/
def mb_110_0 (J : Nat → kx_F) (d : Nat) (C : kx_C) (x0 : Option Nat) (w : kx_H) : kx_O := x0.bind fun a1 => (hp_R w 1880 a1).bind fun a2 => if (0 : Int32) < 0 ∨ hp_N w a2 ≤ (0 : Int32).toNatClampNeg then none else J 9 [(0, kx_r 9 x0), (1, kx_l (hp_L w (2 * a2 + 1) (0 : Int32).toNatClampNeg)), (3, kx_i (1 : Int32))] [] w
theorem me_110_0 {f d : Nat} {C : kx_C} {x0 : Option Nat} {w : kx_H} : kx_ex (wm_110 d C) (f + 1) 0 [(0, kx_r 9 x0)] [] w = mb_110_0 (kx_ex (wm_110 d C) f) d C x0 w := Eq.trans rfl rfl
theorem mE_110 {φ d : Nat} (hφ : kx_fuel = φ + 1) {x0 : Option Nat} {w : kx_H} : kx_ev wx_M (d + 1) 110 [kx_r 9 x0] w = mb_110_0 (kx_ex (wm_110 d (kx_ev wx_M d)) φ) d (kx_ev wx_M d) x0 w := by
  show kx_ex (wx_M 110 d (kx_ev wx_M d)) kx_fuel 0 [(0, kx_r 9 x0)] [] w = _
  rw [show wx_M 110 d (kx_ev wx_M d) = wm_110 d (kx_ev wx_M d) from rfl, hφ]
  exact me_110_0
def mb_110_9 (J : Nat → kx_F) (d : Nat) (C : kx_C) (x0 : Option Nat) (x1 : Int64) (x3 : Int32) (w : kx_H) : kx_O := x0.bind fun a1 => if hp_I w 1876 a1 ≤ x3 then (x0.bind fun a2 => let w3 := hp_sL w 1806 a2 x1;
    x0.bind fun a4 => J 61 [(0, kx_r 9 x0), (1, kx_l x1), (3, kx_i (0 : Int32)), (4, kx_i (hp_I w3 1876 a4)), (5, kx_i (0 : Int32))] [] w3)
  else (x0.bind fun a5 => (hp_R w 1880 a5).bind fun a6 => if x3 < 0 ∨ hp_N w a6 ≤ x3.toNatClampNeg then none else if 0 ≤ lg_cmp (hp_L w (2 * a6 + 1) x3.toNatClampNeg) x1 then (J 38 [(0, kx_r 9 x0), (3, kx_i x3)] [kx_l x1] w)
    else (x0.bind fun a7 => (hp_R w 1880 a7).bind fun a8 => if x3 < 0 ∨ hp_N w a8 ≤ x3.toNatClampNeg then none else J 38 [(0, kx_r 9 x0), (3, kx_i x3)] [kx_l (hp_L w (2 * a8 + 1) x3.toNatClampNeg)] w))
theorem me_110_9 {f d : Nat} {C : kx_C} {x0 : Option Nat} {x1 : Int64} {x3 : Int32} {w : kx_H} : kx_ex (wm_110 d C) (f + 1) 9 [(0, kx_r 9 x0), (1, kx_l x1), (3, kx_i x3)] [] w = mb_110_9 (kx_ex (wm_110 d C) f) d C x0 x1 x3 w := Eq.trans rfl rfl
def mb_110_38 (J : Nat → kx_F) (d : Nat) (C : kx_C) (x0 : Option Nat) (x3 : Int32) (xs0 : Int64) (w : kx_H) : kx_O := J 9 [(0, kx_r 9 x0), (1, kx_l xs0), (3, kx_i (x3 + 1))] [] w
theorem me_110_38 {f d : Nat} {C : kx_C} {x0 : Option Nat} {x3 : Int32} {xs0 : Int64} {w : kx_H} : kx_ex (wm_110 d C) (f + 1) 38 [(0, kx_r 9 x0), (3, kx_i x3)] [kx_l xs0] w = mb_110_38 (kx_ex (wm_110 d C) f) d C x0 x3 xs0 w := Eq.trans rfl rfl
def mb_110_61 (J : Nat → kx_F) (d : Nat) (C : kx_C) (x0 : Option Nat) (x1 : Int64) (x3 : Int32) (x4 : Int32) (x5 : Int32) (w : kx_H) : kx_O := if x4 ≤ x5 then (x0.bind fun a1 => let w2 := hp_sI w 1876 a1 x3;
    some (.inl none, w2))
  else (x0.bind fun a3 => (hp_R w 1880 a3).bind fun a4 => if x5 < 0 ∨ hp_N w a4 ≤ x5.toNatClampNeg then none else if lg_cmp (hp_L w (2 * a4 + 1) x5.toNatClampNeg) x1 = 0 then (x0.bind fun a5 => (hp_R w 1878 a5).bind fun a6 => if x5 < 0 ∨ hp_N w a6 ≤ x5.toNatClampNeg then none else if hp_I w (2 * a6 + 1) x5.toNatClampNeg < 0 then (x0.bind fun a7 => x0.bind fun a8 => let w9 := hp_sI w 1882 a8 ((hp_I w 1882 a7) - (1 : Int32));
        x0.bind fun a10 => (hp_R w9 1878 a10).bind fun a11 => if x5 < 0 ∨ hp_N w9 a11 ≤ x5.toNatClampNeg then none else x0.bind fun a14 => kx_bv (C 111 [kx_r 9 (some a14), kx_i (((-1) : Int32) - (hp_I w9 (2 * a11 + 1) x5.toNatClampNeg))] w9) fun w12 =>
        J 159 [(0, kx_r 9 x0), (1, kx_l x1), (3, kx_i x3), (4, kx_i x4), (5, kx_i x5)] [] w12)
      else (x0.bind fun a15 => (hp_R w 1878 a15).bind fun a16 => if x5 < 0 ∨ hp_N w a16 ≤ x5.toNatClampNeg then none else x0.bind fun a19 => kx_bv (C 105 [kx_r 9 (some a19), kx_i (hp_I w (2 * a16 + 1) x5.toNatClampNeg)] w) fun w17 =>
        J 159 [(0, kx_r 9 x0), (1, kx_l x1), (3, kx_i x3), (4, kx_i x4), (5, kx_i x5)] [] w17))
    else (x0.bind fun a20 => x0.bind fun a21 => (hp_R w 1878 a21).bind fun a22 => if x5 < 0 ∨ hp_N w a22 ≤ x5.toNatClampNeg then none else (hp_R w 1878 a20).bind fun a23 => if x3 < 0 ∨ hp_N w a23 ≤ x3.toNatClampNeg then none else let w24 := hp_sI w (2 * a23 + 1) x3.toNatClampNeg (hp_I w (2 * a22 + 1) x5.toNatClampNeg);
      x0.bind fun a25 => x0.bind fun a26 => (hp_R w24 1880 a26).bind fun a27 => if x5 < 0 ∨ hp_N w24 a27 ≤ x5.toNatClampNeg then none else (hp_R w24 1880 a25).bind fun a28 => if x3 < 0 ∨ hp_N w24 a28 ≤ x3.toNatClampNeg then none else let w29 := hp_sL w24 (2 * a28 + 1) x3.toNatClampNeg (hp_L w24 (2 * a27 + 1) x5.toNatClampNeg);
      J 159 [(0, kx_r 9 x0), (1, kx_l x1), (3, kx_i (x3 + 1)), (4, kx_i x4), (5, kx_i x5)] [] w29))
theorem me_110_61 {f d : Nat} {C : kx_C} {x0 : Option Nat} {x1 : Int64} {x3 : Int32} {x4 : Int32} {x5 : Int32} {w : kx_H} : kx_ex (wm_110 d C) (f + 1) 61 [(0, kx_r 9 x0), (1, kx_l x1), (3, kx_i x3), (4, kx_i x4), (5, kx_i x5)] [] w = mb_110_61 (kx_ex (wm_110 d C) f) d C x0 x1 x3 x4 x5 w := Eq.trans rfl rfl
def mb_110_159 (J : Nat → kx_F) (d : Nat) (C : kx_C) (x0 : Option Nat) (x1 : Int64) (x3 : Int32) (x4 : Int32) (x5 : Int32) (w : kx_H) : kx_O := J 61 [(0, kx_r 9 x0), (1, kx_l x1), (3, kx_i x3), (4, kx_i x4), (5, kx_i (x5 + 1))] [] w
theorem me_110_159 {f d : Nat} {C : kx_C} {x0 : Option Nat} {x1 : Int64} {x3 : Int32} {x4 : Int32} {x5 : Int32} {w : kx_H} : kx_ex (wm_110 d C) (f + 1) 159 [(0, kx_r 9 x0), (1, kx_l x1), (3, kx_i x3), (4, kx_i x4), (5, kx_i x5)] [] w = mb_110_159 (kx_ex (wm_110 d C) f) d C x0 x1 x3 x4 x5 w := Eq.trans rfl rfl
/-! TaskDeskModel.rings(I)V -/
def mb_111_0 (J : Nat → kx_F) (d : Nat) (C : kx_C) (x0 : Option Nat) (x1 : Int32) (w : kx_H) : kx_O := x0.bind fun a1 => (hp_R w 1828 a1).bind fun a2 => if x1 < 0 ∨ hp_N w a2 ≤ x1.toNatClampNeg then none else if kx_b (hp_B w (2 * a2 + 1) x1.toNatClampNeg) = 0 then (x0.bind fun a5 => kx_bi (C 94 [kx_r 9 (some a5), kx_i x1, kx_i (0 : Int32)] w) fun y4 w3 =>
    if 0 ≤ y4 then (J 33 [(0, kx_r 9 x0), (1, kx_i x1)] [] w3)
    else (x0.bind fun a8 => kx_bi (C 95 [kx_r 9 (some a8), kx_i x1] w3) fun y7 w6 =>
      x0.bind fun a9 => (hp_R w6 1830 a9).bind fun a10 => if x1 < 0 ∨ hp_N w6 a10 ≤ x1.toNatClampNeg then none else if hp_I w6 (2 * a10 + 1) x1.toNatClampNeg ≤ y7 then (J 42 [] [] w6)
      else (J 33 [(0, kx_r 9 x0), (1, kx_i x1)] [] w6)))
  else (some (.inl none, w))
theorem me_111_0 {f d : Nat} {C : kx_C} {x0 : Option Nat} {x1 : Int32} {w : kx_H} : kx_ex (wm_111 d C) (f + 1) 0 [(0, kx_r 9 x0), (1, kx_i x1)] [] w = mb_111_0 (kx_ex (wm_111 d C) f) d C x0 x1 w := Eq.trans rfl rfl
theorem mE_111 {φ d : Nat} (hφ : kx_fuel = φ + 1) {x0 : Option Nat} {x1 : Int32} {w : kx_H} : kx_ev wx_M (d + 1) 111 [kx_r 9 x0, kx_i x1] w = mb_111_0 (kx_ex (wm_111 d (kx_ev wx_M d)) φ) d (kx_ev wx_M d) x0 x1 w := by
  show kx_ex (wx_M 111 d (kx_ev wx_M d)) kx_fuel 0 [(0, kx_r 9 x0), (1, kx_i x1)] [] w = _
  rw [show wx_M 111 d (kx_ev wx_M d) = wm_111 d (kx_ev wx_M d) from rfl, hφ]
  exact me_111_0
def mb_111_33 (J : Nat → kx_F) (d : Nat) (C : kx_C) (x0 : Option Nat) (x1 : Int32) (w : kx_H) : kx_O := x0.bind fun a1 => x0.bind fun a4 => kx_bv (C 101 [kx_r 9 (some a4), kx_i x1, kx_l (hp_L w 1806 a1)] w) fun w2 =>
  J 42 [] [] w2
theorem me_111_33 {f d : Nat} {C : kx_C} {x0 : Option Nat} {x1 : Int32} {w : kx_H} : kx_ex (wm_111 d C) (f + 1) 33 [(0, kx_r 9 x0), (1, kx_i x1)] [] w = mb_111_33 (kx_ex (wm_111 d C) f) d C x0 x1 w := Eq.trans rfl rfl
def mb_111_42 (J : Nat → kx_F) (d : Nat) (C : kx_C)  (w : kx_H) : kx_O := some (.inl none, w)
theorem me_111_42 {f d : Nat} {C : kx_C}  {w : kx_H} : kx_ex (wm_111 d C) (f + 1) 42 [] [] w = mb_111_42 (kx_ex (wm_111 d C) f) d C  w := Eq.trans rfl rfl
/-! TaskDeskModel.receive(I)Z -/
def mb_112_0 (J : Nat → kx_F) (d : Nat) (C : kx_C) (x0 : Option Nat) (x1 : Int32) (w : kx_H) : kx_O := x0.bind fun a1 => let w2 := hp_sI w 1800 a1 (0 : Int32);
  if x1 = ((-1) : Int32) then (J 24 [(0, kx_r 9 x0), (1, kx_i x1)] [] w2)
  else (x0.bind fun a5 => kx_bi (C 93 [kx_r 9 (some a5), kx_i x1] w2) fun y4 w3 =>
    if y4 = 0 then (x0.bind fun a8 => kx_bi (C 99 [kx_r 9 (some a8), kx_i (1 : Int32)] w3) fun y7 w6 =>
      if y7 = 0 ∨ y7 = 1 then some (.inl (some (.inl y7)), w6) else none)
    else (J 24 [(0, kx_r 9 x0), (1, kx_i x1)] [] w3))
theorem me_112_0 {f d : Nat} {C : kx_C} {x0 : Option Nat} {x1 : Int32} {w : kx_H} : kx_ex (wm_112 d C) (f + 1) 0 [(0, kx_r 9 x0), (1, kx_i x1)] [] w = mb_112_0 (kx_ex (wm_112 d C) f) d C x0 x1 w := Eq.trans rfl rfl
theorem mE_112 {φ d : Nat} (hφ : kx_fuel = φ + 1) {x0 : Option Nat} {x1 : Int32} {w : kx_H} : kx_ev wx_M (d + 1) 112 [kx_r 9 x0, kx_i x1] w = mb_112_0 (kx_ex (wm_112 d (kx_ev wx_M d)) φ) d (kx_ev wx_M d) x0 x1 w := by
  show kx_ex (wx_M 112 d (kx_ev wx_M d)) kx_fuel 0 [(0, kx_r 9 x0), (1, kx_i x1)] [] w = _
  rw [show wx_M 112 d (kx_ev wx_M d) = wm_112 d (kx_ev wx_M d) from rfl, hφ]
  exact me_112_0
def mb_112_24 (J : Nat → kx_F) (d : Nat) (C : kx_C) (x0 : Option Nat) (x1 : Int32) (w : kx_H) : kx_O := x0.bind fun a1 => if 0 ≤ hp_I w 1802 a1 then (x0.bind fun a4 => kx_bi (C 113 [kx_r 9 (some a4), kx_i x1] w) fun y3 w2 =>
    if y3 = 0 then (if x1 < 0 then (J 69 [(0, kx_r 9 x0), (1, kx_i x1)] [] w2)
      else (x0.bind fun a5 => x0.bind fun a8 => kx_bv (C 107 [kx_r 9 (some a8), kx_i (hp_I w2 1802 a5), kx_i x1, kx_i (0 : Int32), kx_l (0 : Int64), kx_i ((-1) : Int32)] w2) fun w6 =>
        J 69 [(0, kx_r 9 x0), (1, kx_i x1)] [] w6))
    else (x0.bind fun a11 => kx_bv (C 114 [kx_r 9 (some a11), kx_i x1, kx_i ((-1) : Int32)] w2) fun w9 =>
      if (1 : Int32) = 0 ∨ (1 : Int32) = 1 then some (.inl (some (.inl (1 : Int32))), w9) else none))
  else (x0.bind fun a14 => kx_bi (C 99 [kx_r 9 (some a14), kx_i (2 : Int32)] w) fun y13 w12 =>
    if y13 = 0 ∨ y13 = 1 then some (.inl (some (.inl y13)), w12) else none)
theorem me_112_24 {f d : Nat} {C : kx_C} {x0 : Option Nat} {x1 : Int32} {w : kx_H} : kx_ex (wm_112 d C) (f + 1) 24 [(0, kx_r 9 x0), (1, kx_i x1)] [] w = mb_112_24 (kx_ex (wm_112 d C) f) d C x0 x1 w := Eq.trans rfl rfl
def mb_112_69 (J : Nat → kx_F) (d : Nat) (C : kx_C) (x0 : Option Nat) (x1 : Int32) (w : kx_H) : kx_O := if 0 ≤ x1 then (J 80 [(1, kx_i x1)] [kx_i (3 : Int32), kx_r 9 x0] w)
  else (J 80 [(1, kx_i x1)] [kx_i (7 : Int32), kx_r 9 x0] w)
theorem me_112_69 {f d : Nat} {C : kx_C} {x0 : Option Nat} {x1 : Int32} {w : kx_H} : kx_ex (wm_112 d C) (f + 1) 69 [(0, kx_r 9 x0), (1, kx_i x1)] [] w = mb_112_69 (kx_ex (wm_112 d C) f) d C x0 x1 w := Eq.trans rfl rfl
def mb_112_80 (J : Nat → kx_F) (d : Nat) (C : kx_C) (x1 : Int32) (xs0 : Int32) (xs1 : Option Nat) (w : kx_H) : kx_O := xs1.bind fun a3 => kx_bv (C 108 [kx_r 9 (some a3), kx_i xs0, kx_i x1] w) fun w1 =>
  if (0 : Int32) = 0 ∨ (0 : Int32) = 1 then some (.inl (some (.inl (0 : Int32))), w1) else none
theorem me_112_80 {f d : Nat} {C : kx_C} {x1 : Int32} {xs0 : Int32} {xs1 : Option Nat} {w : kx_H} : kx_ex (wm_112 d C) (f + 1) 80 [(1, kx_i x1)] [kx_i xs0, kx_r 9 xs1] w = mb_112_80 (kx_ex (wm_112 d C) f) d C x1 xs0 xs1 w := Eq.trans rfl rfl
/-! TaskDeskModel.mayReceive(I)Z -/
def mb_113_0 (J : Nat → kx_F) (d : Nat) (C : kx_C) (x0 : Option Nat) (x1 : Int32) (w : kx_H) : kx_O := if x1 < 0 then (J 34 [] [] w)
  else (x0.bind fun a1 => (hp_R w 1828 a1).bind fun a2 => if x1 < 0 ∨ hp_N w a2 ≤ x1.toNatClampNeg then none else if kx_b (hp_B w (2 * a2 + 1) x1.toNatClampNeg) = 0 then (x0.bind fun a5 => kx_bi (C 94 [kx_r 9 (some a5), kx_i x1, kx_i (1 : Int32)] w) fun y4 w3 =>
      if 0 ≤ y4 then (J 30 [] [] w3)
      else (x0.bind fun a8 => kx_bi (C 95 [kx_r 9 (some a8), kx_i x1] w3) fun y7 w6 =>
        if y7 ≤ 0 then (J 34 [] [] w6)
        else (J 30 [] [] w6)))
    else (J 30 [] [] w))
theorem me_113_0 {f d : Nat} {C : kx_C} {x0 : Option Nat} {x1 : Int32} {w : kx_H} : kx_ex (wm_113 d C) (f + 1) 0 [(0, kx_r 9 x0), (1, kx_i x1)] [] w = mb_113_0 (kx_ex (wm_113 d C) f) d C x0 x1 w := Eq.trans rfl rfl
theorem mE_113 {φ d : Nat} (hφ : kx_fuel = φ + 1) {x0 : Option Nat} {x1 : Int32} {w : kx_H} : kx_ev wx_M (d + 1) 113 [kx_r 9 x0, kx_i x1] w = mb_113_0 (kx_ex (wm_113 d (kx_ev wx_M d)) φ) d (kx_ev wx_M d) x0 x1 w := by
  show kx_ex (wx_M 113 d (kx_ev wx_M d)) kx_fuel 0 [(0, kx_r 9 x0), (1, kx_i x1)] [] w = _
  rw [show wx_M 113 d (kx_ev wx_M d) = wm_113 d (kx_ev wx_M d) from rfl, hφ]
  exact me_113_0
def mb_113_30 (J : Nat → kx_F) (d : Nat) (C : kx_C)  (w : kx_H) : kx_O := J 35 [] [kx_i (1 : Int32)] w
theorem me_113_30 {f d : Nat} {C : kx_C}  {w : kx_H} : kx_ex (wm_113 d C) (f + 1) 30 [] [] w = mb_113_30 (kx_ex (wm_113 d C) f) d C  w := Eq.trans rfl rfl
def mb_113_34 (J : Nat → kx_F) (d : Nat) (C : kx_C)  (w : kx_H) : kx_O := J 35 [] [kx_i (0 : Int32)] w
theorem me_113_34 {f d : Nat} {C : kx_C}  {w : kx_H} : kx_ex (wm_113 d C) (f + 1) 34 [] [] w = mb_113_34 (kx_ex (wm_113 d C) f) d C  w := Eq.trans rfl rfl
def mb_113_35 (J : Nat → kx_F) (d : Nat) (C : kx_C) (xs0 : Int32) (w : kx_H) : kx_O := if xs0 = 0 ∨ xs0 = 1 then some (.inl (some (.inl xs0)), w) else none
theorem me_113_35 {f d : Nat} {C : kx_C} {xs0 : Int32} {w : kx_H} : kx_ex (wm_113 d C) (f + 1) 35 [] [kx_i xs0] w = mb_113_35 (kx_ex (wm_113 d C) f) d C xs0 w := Eq.trans rfl rfl
/-! TaskDeskModel.take(II)V -/
def mb_114_0 (J : Nat → kx_F) (d : Nat) (C : kx_C) (x0 : Option Nat) (x1 : Int32) (x2 : Int32) (w : kx_H) : kx_O := x0.bind fun a3 => kx_bi (C 94 [kx_r 9 (some a3), kx_i x1, kx_i (1 : Int32)] w) fun y2 w1 =>
  x0.bind fun a6 => kx_bi (C 95 [kx_r 9 (some a6), kx_i x1] w1) fun y5 w4 =>
  if y5 ≤ 0 then (if y2 < 0 then (x0.bind fun a7 => x0.bind fun a10 => kx_bv (C 103 [kx_r 9 (some a10), kx_i (hp_I w4 1802 a7), kx_l (0 : Int64), kx_i (0 : Int32), kx_i x2, kx_i (0 : Int32)] w4) fun w8 =>
      J 101 [] [] w8)
    else (x0.bind fun a11 => x0.bind fun a12 => (hp_R w4 1848 a12).bind fun a13 => if y2 < 0 ∨ hp_N w4 a13 ≤ y2.toNatClampNeg then none else x0.bind fun a16 => kx_bv (C 103 [kx_r 9 (some a16), kx_i (hp_I w4 1802 a11), kx_l (hp_L w4 (2 * a13 + 1) y2.toNatClampNeg), kx_i (1 : Int32), kx_i x2, kx_i (0 : Int32)] w4) fun w14 =>
      x0.bind fun a19 => kx_bv (C 102 [kx_r 9 (some a19), kx_i y2, kx_l (0 : Int64), kx_i (1 : Int32), kx_i (0 : Int32)] w14) fun w17 =>
      J 101 [] [] w17))
  else (x0.bind fun a20 => x0.bind fun a23 => kx_bl (C 96 [kx_r 9 (some a23), kx_i x1] w4) fun y22 w21 =>
    x0.bind fun a26 => kx_bv (C 103 [kx_r 9 (some a26), kx_i (hp_I w4 1802 a20), kx_l y22, kx_i (1 : Int32), kx_i x2, kx_i (0 : Int32)] w21) fun w24 =>
    if y2 < 0 then (J 101 [] [] w24)
    else (x0.bind fun a27 => (hp_R w24 1848 a27).bind fun a28 => if y2 < 0 ∨ hp_N w24 a28 ≤ y2.toNatClampNeg then none else x0.bind fun a31 => kx_bv (C 106 [kx_r 9 (some a31), kx_i x1, kx_l (hp_L w24 (2 * a28 + 1) y2.toNatClampNeg)] w24) fun w29 =>
      x0.bind fun a34 => kx_bv (C 102 [kx_r 9 (some a34), kx_i y2, kx_l (0 : Int64), kx_i (1 : Int32), kx_i (0 : Int32)] w29) fun w32 =>
      J 101 [] [] w32))
theorem me_114_0 {f d : Nat} {C : kx_C} {x0 : Option Nat} {x1 : Int32} {x2 : Int32} {w : kx_H} : kx_ex (wm_114 d C) (f + 1) 0 [(0, kx_r 9 x0), (1, kx_i x1), (2, kx_i x2)] [] w = mb_114_0 (kx_ex (wm_114 d C) f) d C x0 x1 x2 w := Eq.trans rfl rfl
theorem mE_114 {φ d : Nat} (hφ : kx_fuel = φ + 1) {x0 : Option Nat} {x1 : Int32} {x2 : Int32} {w : kx_H} : kx_ev wx_M (d + 1) 114 [kx_r 9 x0, kx_i x1, kx_i x2] w = mb_114_0 (kx_ex (wm_114 d (kx_ev wx_M d)) φ) d (kx_ev wx_M d) x0 x1 x2 w := by
  show kx_ex (wx_M 114 d (kx_ev wx_M d)) kx_fuel 0 [(0, kx_r 9 x0), (1, kx_i x1), (2, kx_i x2)] [] w = _
  rw [show wx_M 114 d (kx_ev wx_M d) = wm_114 d (kx_ev wx_M d) from rfl, hφ]
  exact me_114_0
def mb_114_101 (J : Nat → kx_F) (d : Nat) (C : kx_C)  (w : kx_H) : kx_O := some (.inl none, w)
theorem me_114_101 {f d : Nat} {C : kx_C}  {w : kx_H} : kx_ex (wm_114 d C) (f + 1) 101 [] [] w = mb_114_101 (kx_ex (wm_114 d C) f) d C  w := Eq.trans rfl rfl
/-! TaskDeskModel.close(I)V -/
def mb_115_0 (J : Nat → kx_F) (d : Nat) (C : kx_C) (x0 : Option Nat) (x1 : Int32) (w : kx_H) : kx_O := if x1 = ((-1) : Int32) then (J 18 [(0, kx_r 9 x0), (1, kx_i x1)] [kx_r 9 x0] w)
  else (x0.bind fun a3 => kx_bi (C 93 [kx_r 9 (some a3), kx_i x1] w) fun y2 w1 =>
    if y2 = 0 then (J 47 [(0, kx_r 9 x0), (1, kx_i x1)] [kx_i (1 : Int32), kx_r 9 x0] w1)
    else (J 18 [(0, kx_r 9 x0), (1, kx_i x1)] [kx_r 9 x0] w1))
theorem me_115_0 {f d : Nat} {C : kx_C} {x0 : Option Nat} {x1 : Int32} {w : kx_H} : kx_ex (wm_115 d C) (f + 1) 0 [(0, kx_r 9 x0), (1, kx_i x1)] [] w = mb_115_0 (kx_ex (wm_115 d C) f) d C x0 x1 w := Eq.trans rfl rfl
theorem mE_115 {φ d : Nat} (hφ : kx_fuel = φ + 1) {x0 : Option Nat} {x1 : Int32} {w : kx_H} : kx_ev wx_M (d + 1) 115 [kx_r 9 x0, kx_i x1] w = mb_115_0 (kx_ex (wm_115 d (kx_ev wx_M d)) φ) d (kx_ev wx_M d) x0 x1 w := by
  show kx_ex (wx_M 115 d (kx_ev wx_M d)) kx_fuel 0 [(0, kx_r 9 x0), (1, kx_i x1)] [] w = _
  rw [show wx_M 115 d (kx_ev wx_M d) = wm_115 d (kx_ev wx_M d) from rfl, hφ]
  exact me_115_0
def mb_115_18 (J : Nat → kx_F) (d : Nat) (C : kx_C) (x0 : Option Nat) (x1 : Int32) (xs0 : Option Nat) (w : kx_H) : kx_O := x0.bind fun a1 => if 0 ≤ hp_I w 1802 a1 then (if x1 < 0 then (J 42 [(0, kx_r 9 x0), (1, kx_i x1)] [kx_r 9 xs0] w)
    else (x0.bind fun a2 => (hp_R w 1828 a2).bind fun a3 => if x1 < 0 ∨ hp_N w a3 ≤ x1.toNatClampNeg then none else if kx_b (hp_B w (2 * a3 + 1) x1.toNatClampNeg) = 0 then (J 47 [(0, kx_r 9 x0), (1, kx_i x1)] [kx_i (0 : Int32), kx_r 9 xs0] w)
      else (J 42 [(0, kx_r 9 x0), (1, kx_i x1)] [kx_r 9 xs0] w)))
  else (J 47 [(0, kx_r 9 x0), (1, kx_i x1)] [kx_i (2 : Int32), kx_r 9 xs0] w)
theorem me_115_18 {f d : Nat} {C : kx_C} {x0 : Option Nat} {x1 : Int32} {xs0 : Option Nat} {w : kx_H} : kx_ex (wm_115 d C) (f + 1) 18 [(0, kx_r 9 x0), (1, kx_i x1)] [kx_r 9 xs0] w = mb_115_18 (kx_ex (wm_115 d C) f) d C x0 x1 xs0 w := Eq.trans rfl rfl
def mb_115_42 (J : Nat → kx_F) (d : Nat) (C : kx_C) (x0 : Option Nat) (x1 : Int32) (xs0 : Option Nat) (w : kx_H) : kx_O := J 47 [(0, kx_r 9 x0), (1, kx_i x1)] [kx_i (3 : Int32), kx_r 9 xs0] w
theorem me_115_42 {f d : Nat} {C : kx_C} {x0 : Option Nat} {x1 : Int32} {xs0 : Option Nat} {w : kx_H} : kx_ex (wm_115 d C) (f + 1) 42 [(0, kx_r 9 x0), (1, kx_i x1)] [kx_r 9 xs0] w = mb_115_42 (kx_ex (wm_115 d C) f) d C x0 x1 xs0 w := Eq.trans rfl rfl
def mb_115_47 (J : Nat → kx_F) (d : Nat) (C : kx_C) (x0 : Option Nat) (x1 : Int32) (xs0 : Int32) (xs1 : Option Nat) (w : kx_H) : kx_O := xs1.bind fun a1 => let w2 := hp_sI w 1800 a1 xs0;
  x0.bind fun a3 => if hp_I w2 1800 a3 ≤ 0 then (x0.bind fun a4 => (hp_R w2 1828 a4).bind fun a5 => if x1 < 0 ∨ hp_N w2 a5 ≤ x1.toNatClampNeg then none else kx_sb (1 : Int32) fun b9 => let w6 := hp_sB w2 (2 * a5 + 1) x1.toNatClampNeg b9;
    x0.bind fun a9 => kx_bi (C 94 [kx_r 9 (some a9), kx_i x1, kx_i (0 : Int32)] w6) fun y8 w7 =>
    J 72 [(0, kx_r 9 x0), (1, kx_i x1), (2, kx_i y8)] [] w7)
  else (some (.inl none, w2))
theorem me_115_47 {f d : Nat} {C : kx_C} {x0 : Option Nat} {x1 : Int32} {xs0 : Int32} {xs1 : Option Nat} {w : kx_H} : kx_ex (wm_115 d C) (f + 1) 47 [(0, kx_r 9 x0), (1, kx_i x1)] [kx_i xs0, kx_r 9 xs1] w = mb_115_47 (kx_ex (wm_115 d C) f) d C x0 x1 xs0 xs1 w := Eq.trans rfl rfl
def mb_115_72 (J : Nat → kx_F) (d : Nat) (C : kx_C) (x0 : Option Nat) (x1 : Int32) (x2 : Int32) (w : kx_H) : kx_O := if x2 < 0 then (x0.bind fun a3 => kx_bi (C 94 [kx_r 9 (some a3), kx_i x1, kx_i (1 : Int32)] w) fun y2 w1 =>
    J 101 [(0, kx_r 9 x0), (1, kx_i x1), (2, kx_i y2)] [] w1)
  else (x0.bind fun a6 => kx_bv (C 102 [kx_r 9 (some a6), kx_i x2, kx_l (0 : Int64), kx_i (0 : Int32), kx_i (0 : Int32)] w) fun w4 =>
    x0.bind fun a9 => kx_bi (C 94 [kx_r 9 (some a9), kx_i x1, kx_i (0 : Int32)] w4) fun y8 w7 =>
    J 72 [(0, kx_r 9 x0), (1, kx_i x1), (2, kx_i y8)] [] w7)
theorem me_115_72 {f d : Nat} {C : kx_C} {x0 : Option Nat} {x1 : Int32} {x2 : Int32} {w : kx_H} : kx_ex (wm_115 d C) (f + 1) 72 [(0, kx_r 9 x0), (1, kx_i x1), (2, kx_i x2)] [] w = mb_115_72 (kx_ex (wm_115 d C) f) d C x0 x1 x2 w := Eq.trans rfl rfl
def mb_115_101 (J : Nat → kx_F) (d : Nat) (C : kx_C) (x0 : Option Nat) (x1 : Int32) (x2 : Int32) (w : kx_H) : kx_O := if x2 < 0 then (some (.inl none, w))
  else (x0.bind fun a3 => kx_bv (C 102 [kx_r 9 (some a3), kx_i x2, kx_l (0 : Int64), kx_i (0 : Int32), kx_i (1 : Int32)] w) fun w1 =>
    x0.bind fun a6 => kx_bi (C 94 [kx_r 9 (some a6), kx_i x1, kx_i (1 : Int32)] w1) fun y5 w4 =>
    J 101 [(0, kx_r 9 x0), (1, kx_i x1), (2, kx_i y5)] [] w4)
theorem me_115_101 {f d : Nat} {C : kx_C} {x0 : Option Nat} {x1 : Int32} {x2 : Int32} {w : kx_H} : kx_ex (wm_115 d C) (f + 1) 101 [(0, kx_r 9 x0), (1, kx_i x1), (2, kx_i x2)] [] w = mb_115_101 (kx_ex (wm_115 d C) f) d C x0 x1 x2 w := Eq.trans rfl rfl
/-! TaskDeskModel.offer(IZJ)I -/
def mb_116_0 (J : Nat → kx_F) (d : Nat) (C : kx_C) (x0 : Option Nat) (x1 : Int32) (x2 : Int32) (x3 : Int64) (w : kx_H) : kx_O := x0.bind fun a1 => let w2 := hp_sI w 1800 a1 (0 : Int32);
  if x1 = ((-1) : Int32) then (J 24 [(0, kx_r 9 x0), (1, kx_i x1), (2, kx_i x2), (3, kx_l x3)] [] w2)
  else (x0.bind fun a5 => kx_bi (C 93 [kx_r 9 (some a5), kx_i x1] w2) fun y4 w3 =>
    if y4 = 0 then (x0.bind fun a8 => kx_bi (C 91 [kx_r 9 (some a8), kx_i (1 : Int32)] w3) fun y7 w6 =>
      some (.inl (some (.inl y7)), w6))
    else (J 24 [(0, kx_r 9 x0), (1, kx_i x1), (2, kx_i x2), (3, kx_l x3)] [] w3))
theorem me_116_0 {f d : Nat} {C : kx_C} {x0 : Option Nat} {x1 : Int32} {x2 : Int32} {x3 : Int64} {w : kx_H} : kx_ex (wm_116 d C) (f + 1) 0 [(0, kx_r 9 x0), (1, kx_i x1), (2, kx_i x2), (3, kx_l x3)] [] w = mb_116_0 (kx_ex (wm_116 d C) f) d C x0 x1 x2 x3 w := Eq.trans rfl rfl
theorem mE_116 {φ d : Nat} (hφ : kx_fuel = φ + 1) {x0 : Option Nat} {x1 : Int32} {x2 : Int32} {x3 : Int64} {w : kx_H} : kx_ev wx_M (d + 1) 116 [kx_r 9 x0, kx_i x1, kx_i x2, kx_l x3] w = mb_116_0 (kx_ex (wm_116 d (kx_ev wx_M d)) φ) d (kx_ev wx_M d) x0 x1 x2 x3 w := by
  show kx_ex (wx_M 116 d (kx_ev wx_M d)) kx_fuel 0 [(0, kx_r 9 x0), (1, kx_i x1), (2, kx_i x2), (3, kx_l x3)] [] w = _
  rw [show wx_M 116 d (kx_ev wx_M d) = wm_116 d (kx_ev wx_M d) from rfl, hφ]
  exact me_116_0
def mb_116_24 (J : Nat → kx_F) (d : Nat) (C : kx_C) (x0 : Option Nat) (x1 : Int32) (x2 : Int32) (x3 : Int64) (w : kx_H) : kx_O := x0.bind fun a1 => if hp_I w 1802 a1 < 0 then (J 40 [(0, kx_r 9 x0)] [] w)
  else (x0.bind fun a2 => if hp_I w 1852 a2 = (16 : Int32) then (J 40 [(0, kx_r 9 x0)] [] w)
    else (x0.bind fun a3 => x0.bind fun a4 => (hp_R w 1854 a3).bind fun a5 => if hp_I w 1852 a4 < 0 ∨ hp_N w a5 ≤ (hp_I w 1852 a4 : Int32).toNatClampNeg then none else let w6 := hp_sI w (2 * a5 + 1) (hp_I w 1852 a4 : Int32).toNatClampNeg x1;
      x0.bind fun a7 => x0.bind fun a8 => (hp_R w6 1856 a7).bind fun a9 => if hp_I w6 1852 a8 < 0 ∨ hp_N w6 a9 ≤ (hp_I w6 1852 a8 : Int32).toNatClampNeg then none else kx_sb x2 fun b9 => let w10 := hp_sB w6 (2 * a9 + 1) (hp_I w6 1852 a8 : Int32).toNatClampNeg b9;
      x0.bind fun a11 => x0.bind fun a12 => (hp_R w10 1858 a11).bind fun a13 => if hp_I w10 1852 a12 < 0 ∨ hp_N w10 a13 ≤ (hp_I w10 1852 a12 : Int32).toNatClampNeg then none else let w14 := hp_sL w10 (2 * a13 + 1) (hp_I w10 1852 a12 : Int32).toNatClampNeg x3;
      x0.bind fun a15 => x0.bind fun a16 => let w17 := hp_sI w14 1852 a16 ((hp_I w14 1852 a15) + (1 : Int32));
      x0.bind fun a18 => some (.inl (some (.inl ((hp_I w17 1852 a18) - (1 : Int32)))), w17)))
theorem me_116_24 {f d : Nat} {C : kx_C} {x0 : Option Nat} {x1 : Int32} {x2 : Int32} {x3 : Int64} {w : kx_H} : kx_ex (wm_116 d C) (f + 1) 24 [(0, kx_r 9 x0), (1, kx_i x1), (2, kx_i x2), (3, kx_l x3)] [] w = mb_116_24 (kx_ex (wm_116 d C) f) d C x0 x1 x2 x3 w := Eq.trans rfl rfl
def mb_116_40 (J : Nat → kx_F) (d : Nat) (C : kx_C) (x0 : Option Nat) (w : kx_H) : kx_O := x0.bind fun a3 => kx_bi (C 91 [kx_r 9 (some a3), kx_i (2 : Int32)] w) fun y2 w1 =>
  some (.inl (some (.inl y2)), w1)
theorem me_116_40 {f d : Nat} {C : kx_C} {x0 : Option Nat} {w : kx_H} : kx_ex (wm_116 d C) (f + 1) 40 [(0, kx_r 9 x0)] [] w = mb_116_40 (kx_ex (wm_116 d C) f) d C x0 w := Eq.trans rfl rfl
/-! TaskDeskModel.choose(IZ)Z -/
def mb_117_0 (J : Nat → kx_F) (d : Nat) (C : kx_C) (x0 : Option Nat) (x1 : Int32) (x2 : Int32) (w : kx_H) : kx_O := x0.bind fun a1 => let w2 := hp_sI w 1800 a1 (0 : Int32);
  if 0 ≤ x1 then (x0.bind fun a3 => if 0 ≤ hp_I w2 1802 a3 then (J 33 [(0, kx_r 9 x0), (1, kx_i x1), (2, kx_i x2), (3, kx_i (0 : Int32)), (4, kx_i (0 : Int32))] [] w2)
    else (x0.bind fun a6 => kx_bi (C 99 [kx_r 9 (some a6), kx_i (2 : Int32)] w2) fun y5 w4 =>
      if y5 = 0 ∨ y5 = 1 then some (.inl (some (.inl y5)), w4) else none))
  else (x0.bind fun a9 => kx_bi (C 99 [kx_r 9 (some a9), kx_i (1 : Int32)] w2) fun y8 w7 =>
    if y8 = 0 ∨ y8 = 1 then some (.inl (some (.inl y8)), w7) else none)
theorem me_117_0 {f d : Nat} {C : kx_C} {x0 : Option Nat} {x1 : Int32} {x2 : Int32} {w : kx_H} : kx_ex (wm_117 d C) (f + 1) 0 [(0, kx_r 9 x0), (1, kx_i x1), (2, kx_i x2)] [] w = mb_117_0 (kx_ex (wm_117 d C) f) d C x0 x1 x2 w := Eq.trans rfl rfl
theorem mE_117 {φ d : Nat} (hφ : kx_fuel = φ + 1) {x0 : Option Nat} {x1 : Int32} {x2 : Int32} {w : kx_H} : kx_ev wx_M (d + 1) 117 [kx_r 9 x0, kx_i x1, kx_i x2] w = mb_117_0 (kx_ex (wm_117 d (kx_ev wx_M d)) φ) d (kx_ev wx_M d) x0 x1 x2 w := by
  show kx_ex (wx_M 117 d (kx_ev wx_M d)) kx_fuel 0 [(0, kx_r 9 x0), (1, kx_i x1), (2, kx_i x2)] [] w = _
  rw [show wx_M 117 d (kx_ev wx_M d) = wm_117 d (kx_ev wx_M d) from rfl, hφ]
  exact me_117_0
def mb_117_33 (J : Nat → kx_F) (d : Nat) (C : kx_C) (x0 : Option Nat) (x1 : Int32) (x2 : Int32) (x3 : Int32) (x4 : Int32) (w : kx_H) : kx_O := x0.bind fun a1 => if hp_I w 1852 a1 ≤ x4 then (x0.bind fun a2 => x0.bind fun a3 => let w4 := hp_sI w 1852 a3 (0 : Int32);
    if x3 ≤ 0 then (if x2 = 0 then (J 158 [(0, kx_r 9 x0), (4, kx_i (hp_I w 1852 a2)), (5, kx_i (0 : Int32)), (6, kx_i (0 : Int32))] [] w4)
      else (x0.bind fun a5 => x0.bind fun a8 => kx_bv (C 103 [kx_r 9 (some a8), kx_i (hp_I w4 1802 a5), kx_l (0 : Int64), kx_i (0 : Int32), kx_i ((-1) : Int32), kx_i (0 : Int32)] w4) fun w6 =>
        if (1 : Int32) = 0 ∨ (1 : Int32) = 1 then some (.inl (some (.inl (1 : Int32))), w6) else none))
    else (if x3 = 0 then none else J 88 [(0, kx_r 9 x0), (5, kx_i (x1 - x1 / x3 * x3)), (6, kx_i (0 : Int32))] [] w4))
  else (x0.bind fun a11 => kx_bi (C 118 [kx_r 9 (some a11), kx_i x4] w) fun y10 w9 =>
    if y10 = 0 then (J 57 [(0, kx_r 9 x0), (1, kx_i x1), (2, kx_i x2), (4, kx_i x4)] [kx_i (0 : Int32), kx_i x3] w9)
    else (J 57 [(0, kx_r 9 x0), (1, kx_i x1), (2, kx_i x2), (4, kx_i x4)] [kx_i (1 : Int32), kx_i x3] w9))
theorem me_117_33 {f d : Nat} {C : kx_C} {x0 : Option Nat} {x1 : Int32} {x2 : Int32} {x3 : Int32} {x4 : Int32} {w : kx_H} : kx_ex (wm_117 d C) (f + 1) 33 [(0, kx_r 9 x0), (1, kx_i x1), (2, kx_i x2), (3, kx_i x3), (4, kx_i x4)] [] w = mb_117_33 (kx_ex (wm_117 d C) f) d C x0 x1 x2 x3 x4 w := Eq.trans rfl rfl
def mb_117_57 (J : Nat → kx_F) (d : Nat) (C : kx_C) (x0 : Option Nat) (x1 : Int32) (x2 : Int32) (x4 : Int32) (xs0 : Int32) (xs1 : Int32) (w : kx_H) : kx_O := J 33 [(0, kx_r 9 x0), (1, kx_i x1), (2, kx_i x2), (3, kx_i (xs1 + xs0)), (4, kx_i (x4 + 1))] [] w
theorem me_117_57 {f d : Nat} {C : kx_C} {x0 : Option Nat} {x1 : Int32} {x2 : Int32} {x4 : Int32} {xs0 : Int32} {xs1 : Int32} {w : kx_H} : kx_ex (wm_117 d C) (f + 1) 57 [(0, kx_r 9 x0), (1, kx_i x1), (2, kx_i x2), (4, kx_i x4)] [kx_i xs0, kx_i xs1] w = mb_117_57 (kx_ex (wm_117 d C) f) d C x0 x1 x2 x4 xs0 xs1 w := Eq.trans rfl rfl
def mb_117_88 (J : Nat → kx_F) (d : Nat) (C : kx_C) (x0 : Option Nat) (x5 : Int32) (x6 : Int32) (w : kx_H) : kx_O := if 0 < x5 then (J 102 [(0, kx_r 9 x0), (5, kx_i x5), (6, kx_i x6)] [] w)
  else (x0.bind fun a3 => kx_bi (C 118 [kx_r 9 (some a3), kx_i x6] w) fun y2 w1 =>
    if y2 = 0 then (J 102 [(0, kx_r 9 x0), (5, kx_i x5), (6, kx_i x6)] [] w1)
    else (x0.bind fun a6 => kx_bi (C 119 [kx_r 9 (some a6), kx_i x6] w1) fun y5 w4 =>
      if y5 = 0 ∨ y5 = 1 then some (.inl (some (.inl y5)), w4) else none))
theorem me_117_88 {f d : Nat} {C : kx_C} {x0 : Option Nat} {x5 : Int32} {x6 : Int32} {w : kx_H} : kx_ex (wm_117 d C) (f + 1) 88 [(0, kx_r 9 x0), (5, kx_i x5), (6, kx_i x6)] [] w = mb_117_88 (kx_ex (wm_117 d C) f) d C x0 x5 x6 w := Eq.trans rfl rfl
def mb_117_102 (J : Nat → kx_F) (d : Nat) (C : kx_C) (x0 : Option Nat) (x5 : Int32) (x6 : Int32) (w : kx_H) : kx_O := x0.bind fun a3 => kx_bi (C 118 [kx_r 9 (some a3), kx_i x6] w) fun y2 w1 =>
  if y2 = 0 then (J 118 [(0, kx_r 9 x0), (6, kx_i x6)] [kx_i (0 : Int32), kx_i x5] w1)
  else (J 118 [(0, kx_r 9 x0), (6, kx_i x6)] [kx_i (1 : Int32), kx_i x5] w1)
theorem me_117_102 {f d : Nat} {C : kx_C} {x0 : Option Nat} {x5 : Int32} {x6 : Int32} {w : kx_H} : kx_ex (wm_117 d C) (f + 1) 102 [(0, kx_r 9 x0), (5, kx_i x5), (6, kx_i x6)] [] w = mb_117_102 (kx_ex (wm_117 d C) f) d C x0 x5 x6 w := Eq.trans rfl rfl
def mb_117_118 (J : Nat → kx_F) (d : Nat) (C : kx_C) (x0 : Option Nat) (x6 : Int32) (xs0 : Int32) (xs1 : Int32) (w : kx_H) : kx_O := J 88 [(0, kx_r 9 x0), (5, kx_i (xs1 - xs0)), (6, kx_i (x6 + 1))] [] w
theorem me_117_118 {f d : Nat} {C : kx_C} {x0 : Option Nat} {x6 : Int32} {xs0 : Int32} {xs1 : Int32} {w : kx_H} : kx_ex (wm_117 d C) (f + 1) 118 [(0, kx_r 9 x0), (6, kx_i x6)] [kx_i xs0, kx_i xs1] w = mb_117_118 (kx_ex (wm_117 d C) f) d C x0 x6 xs0 xs1 w := Eq.trans rfl rfl
def mb_117_158 (J : Nat → kx_F) (d : Nat) (C : kx_C) (x0 : Option Nat) (x4 : Int32) (x5 : Int32) (x6 : Int32) (w : kx_H) : kx_O := if x4 ≤ x6 then (if x5 = 0 then (J 230 [] [kx_i (7 : Int32), kx_r 9 x0] w)
    else (J 230 [] [kx_i (4 : Int32), kx_r 9 x0] w))
  else (x0.bind fun a1 => (hp_R w 1854 a1).bind fun a2 => if x6 < 0 ∨ hp_N w a2 ≤ x6.toNatClampNeg then none else if 0 ≤ hp_I w (2 * a2 + 1) x6.toNatClampNeg then (x0.bind fun a3 => x0.bind fun a4 => (hp_R w 1854 a4).bind fun a5 => if x6 < 0 ∨ hp_N w a5 ≤ x6.toNatClampNeg then none else x0.bind fun a6 => (hp_R w 1856 a6).bind fun a7 => if x6 < 0 ∨ hp_N w a7 ≤ x6.toNatClampNeg then none else x0.bind fun a8 => (hp_R w 1858 a8).bind fun a9 => if x6 < 0 ∨ hp_N w a9 ≤ x6.toNatClampNeg then none else x0.bind fun a12 => kx_bv (C 107 [kx_r 9 (some a12), kx_i (hp_I w 1802 a3), kx_i (hp_I w (2 * a5 + 1) x6.toNatClampNeg), kx_i (kx_b (hp_B w (2 * a7 + 1) x6.toNatClampNeg)), kx_l (hp_L w (2 * a9 + 1) x6.toNatClampNeg), kx_i x6] w) fun w10 =>
      J 212 [(0, kx_r 9 x0), (4, kx_i x4), (5, kx_i (1 : Int32)), (6, kx_i x6)] [] w10)
    else (J 212 [(0, kx_r 9 x0), (4, kx_i x4), (5, kx_i x5), (6, kx_i x6)] [] w))
theorem me_117_158 {f d : Nat} {C : kx_C} {x0 : Option Nat} {x4 : Int32} {x5 : Int32} {x6 : Int32} {w : kx_H} : kx_ex (wm_117 d C) (f + 1) 158 [(0, kx_r 9 x0), (4, kx_i x4), (5, kx_i x5), (6, kx_i x6)] [] w = mb_117_158 (kx_ex (wm_117 d C) f) d C x0 x4 x5 x6 w := Eq.trans rfl rfl
def mb_117_212 (J : Nat → kx_F) (d : Nat) (C : kx_C) (x0 : Option Nat) (x4 : Int32) (x5 : Int32) (x6 : Int32) (w : kx_H) : kx_O := J 158 [(0, kx_r 9 x0), (4, kx_i x4), (5, kx_i x5), (6, kx_i (x6 + 1))] [] w
theorem me_117_212 {f d : Nat} {C : kx_C} {x0 : Option Nat} {x4 : Int32} {x5 : Int32} {x6 : Int32} {w : kx_H} : kx_ex (wm_117 d C) (f + 1) 212 [(0, kx_r 9 x0), (4, kx_i x4), (5, kx_i x5), (6, kx_i x6)] [] w = mb_117_212 (kx_ex (wm_117 d C) f) d C x0 x4 x5 x6 w := Eq.trans rfl rfl
def mb_117_230 (J : Nat → kx_F) (d : Nat) (C : kx_C) (xs0 : Int32) (xs1 : Option Nat) (w : kx_H) : kx_O := xs1.bind fun a3 => kx_bv (C 108 [kx_r 9 (some a3), kx_i xs0, kx_i ((-1) : Int32)] w) fun w1 =>
  if (0 : Int32) = 0 ∨ (0 : Int32) = 1 then some (.inl (some (.inl (0 : Int32))), w1) else none
theorem me_117_230 {f d : Nat} {C : kx_C} {xs0 : Int32} {xs1 : Option Nat} {w : kx_H} : kx_ex (wm_117 d C) (f + 1) 230 [] [kx_i xs0, kx_r 9 xs1] w = mb_117_230 (kx_ex (wm_117 d C) f) d C xs0 xs1 w := Eq.trans rfl rfl
/-! TaskDeskModel.isReady(I)Z -/
def mb_118_0 (J : Nat → kx_F) (d : Nat) (C : kx_C) (x0 : Option Nat) (x1 : Int32) (w : kx_H) : kx_O := x0.bind fun a1 => (hp_R w 1856 a1).bind fun a2 => if x1 < 0 ∨ hp_N w a2 ≤ x1.toNatClampNeg then none else if kx_b (hp_B w (2 * a2 + 1) x1.toNatClampNeg) = 0 then (x0.bind fun a3 => (hp_R w 1854 a3).bind fun a4 => if x1 < 0 ∨ hp_N w a4 ≤ x1.toNatClampNeg then none else x0.bind fun a7 => kx_bi (C 113 [kx_r 9 (some a7), kx_i (hp_I w (2 * a4 + 1) x1.toNatClampNeg)] w) fun y6 w5 =>
    J 32 [] [kx_i y6] w5)
  else (x0.bind fun a8 => (hp_R w 1854 a8).bind fun a9 => if x1 < 0 ∨ hp_N w a9 ≤ x1.toNatClampNeg then none else x0.bind fun a12 => kx_bi (C 100 [kx_r 9 (some a12), kx_i (hp_I w (2 * a9 + 1) x1.toNatClampNeg)] w) fun y11 w10 =>
    J 32 [] [kx_i y11] w10)
theorem me_118_0 {f d : Nat} {C : kx_C} {x0 : Option Nat} {x1 : Int32} {w : kx_H} : kx_ex (wm_118 d C) (f + 1) 0 [(0, kx_r 9 x0), (1, kx_i x1)] [] w = mb_118_0 (kx_ex (wm_118 d C) f) d C x0 x1 w := Eq.trans rfl rfl
theorem mE_118 {φ d : Nat} (hφ : kx_fuel = φ + 1) {x0 : Option Nat} {x1 : Int32} {w : kx_H} : kx_ev wx_M (d + 1) 118 [kx_r 9 x0, kx_i x1] w = mb_118_0 (kx_ex (wm_118 d (kx_ev wx_M d)) φ) d (kx_ev wx_M d) x0 x1 w := by
  show kx_ex (wx_M 118 d (kx_ev wx_M d)) kx_fuel 0 [(0, kx_r 9 x0), (1, kx_i x1)] [] w = _
  rw [show wx_M 118 d (kx_ev wx_M d) = wm_118 d (kx_ev wx_M d) from rfl, hφ]
  exact me_118_0
def mb_118_32 (J : Nat → kx_F) (d : Nat) (C : kx_C) (xs0 : Int32) (w : kx_H) : kx_O := if xs0 = 0 ∨ xs0 = 1 then some (.inl (some (.inl xs0)), w) else none
theorem me_118_32 {f d : Nat} {C : kx_C} {xs0 : Int32} {w : kx_H} : kx_ex (wm_118 d C) (f + 1) 32 [] [kx_i xs0] w = mb_118_32 (kx_ex (wm_118 d C) f) d C xs0 w := Eq.trans rfl rfl
/-! TaskDeskModel.done(I)Z -/
def mb_119_0 (J : Nat → kx_F) (d : Nat) (C : kx_C) (x0 : Option Nat) (x1 : Int32) (w : kx_H) : kx_O := x0.bind fun a1 => (hp_R w 1854 a1).bind fun a2 => if x1 < 0 ∨ hp_N w a2 ≤ x1.toNatClampNeg then none else x0.bind fun a3 => (hp_R w 1856 a3).bind fun a4 => if x1 < 0 ∨ hp_N w a4 ≤ x1.toNatClampNeg then none else if kx_b (hp_B w (2 * a4 + 1) x1.toNatClampNeg) = 0 then (x0.bind fun a21 => kx_bv (C 114 [kx_r 9 (some a21), kx_i (hp_I w (2 * a2 + 1) x1.toNatClampNeg), kx_i x1] w) fun w19 =>
    if (1 : Int32) = 0 ∨ (1 : Int32) = 1 then some (.inl (some (.inl (1 : Int32))), w19) else none)
  else (x0.bind fun a5 => (hp_R w 1828 a5).bind fun a6 => if hp_I w (2 * a2 + 1) x1.toNatClampNeg < 0 ∨ hp_N w a6 ≤ (hp_I w (2 * a2 + 1) x1.toNatClampNeg : Int32).toNatClampNeg then none else if kx_b (hp_B w (2 * a6 + 1) (hp_I w (2 * a2 + 1) x1.toNatClampNeg : Int32).toNatClampNeg) = 0 then (x0.bind fun a7 => (hp_R w 1858 a7).bind fun a8 => if x1 < 0 ∨ hp_N w a8 ≤ x1.toNatClampNeg then none else x0.bind fun a11 => kx_bv (C 101 [kx_r 9 (some a11), kx_i (hp_I w (2 * a2 + 1) x1.toNatClampNeg), kx_l (hp_L w (2 * a8 + 1) x1.toNatClampNeg)] w) fun w9 =>
      x0.bind fun a12 => x0.bind fun a15 => kx_bv (C 103 [kx_r 9 (some a15), kx_i (hp_I w9 1802 a12), kx_l (0 : Int64), kx_i (1 : Int32), kx_i x1, kx_i (0 : Int32)] w9) fun w13 =>
      if (1 : Int32) = 0 ∨ (1 : Int32) = 1 then some (.inl (some (.inl (1 : Int32))), w13) else none)
    else (x0.bind fun a18 => kx_bi (C 99 [kx_r 9 (some a18), kx_i (3 : Int32)] w) fun y17 w16 =>
      if y17 = 0 ∨ y17 = 1 then some (.inl (some (.inl y17)), w16) else none))
theorem me_119_0 {f d : Nat} {C : kx_C} {x0 : Option Nat} {x1 : Int32} {w : kx_H} : kx_ex (wm_119 d C) (f + 1) 0 [(0, kx_r 9 x0), (1, kx_i x1)] [] w = mb_119_0 (kx_ex (wm_119 d C) f) d C x0 x1 w := Eq.trans rfl rfl
theorem mE_119 {φ d : Nat} (hφ : kx_fuel = φ + 1) {x0 : Option Nat} {x1 : Int32} {w : kx_H} : kx_ev wx_M (d + 1) 119 [kx_r 9 x0, kx_i x1] w = mb_119_0 (kx_ex (wm_119 d (kx_ev wx_M d)) φ) d (kx_ev wx_M d) x0 x1 w := by
  show kx_ex (wx_M 119 d (kx_ev wx_M d)) kx_fuel 0 [(0, kx_r 9 x0), (1, kx_i x1)] [] w = _
  rw [show wx_M 119 d (kx_ev wx_M d) = wm_119 d (kx_ev wx_M d) from rfl, hφ]
  exact me_119_0
/-! TaskDeskModel.spawn()I -/
def mb_120_0 (J : Nat → kx_F) (d : Nat) (C : kx_C) (x0 : Option Nat) (w : kx_H) : kx_O := x0.bind fun a1 => let w2 := hp_sI w 1800 a1 (0 : Int32);
  J 7 [(0, kx_r 9 x0), (1, kx_i (0 : Int32))] [] w2
theorem me_120_0 {f d : Nat} {C : kx_C} {x0 : Option Nat} {w : kx_H} : kx_ex (wm_120 d C) (f + 1) 0 [(0, kx_r 9 x0)] [] w = mb_120_0 (kx_ex (wm_120 d C) f) d C x0 w := Eq.trans rfl rfl
theorem mE_120 {φ d : Nat} (hφ : kx_fuel = φ + 1) {x0 : Option Nat} {w : kx_H} : kx_ev wx_M (d + 1) 120 [kx_r 9 x0] w = mb_120_0 (kx_ex (wm_120 d (kx_ev wx_M d)) φ) d (kx_ev wx_M d) x0 w := by
  show kx_ex (wx_M 120 d (kx_ev wx_M d)) kx_fuel 0 [(0, kx_r 9 x0)] [] w = _
  rw [show wx_M 120 d (kx_ev wx_M d) = wm_120 d (kx_ev wx_M d) from rfl, hφ]
  exact me_120_0
def mb_120_7 (J : Nat → kx_F) (d : Nat) (C : kx_C) (x0 : Option Nat) (x1 : Int32) (w : kx_H) : kx_O := if (256 : Int32) ≤ x1 then (J 29 [(0, kx_r 9 x0), (1, kx_i x1)] [] w)
  else (x0.bind fun a1 => (hp_R w 1808 a1).bind fun a2 => if x1 < 0 ∨ hp_N w a2 ≤ x1.toNatClampNeg then none else if kx_b (hp_B w (2 * a2 + 1) x1.toNatClampNeg) = 0 then (J 29 [(0, kx_r 9 x0), (1, kx_i x1)] [] w)
    else (J 7 [(0, kx_r 9 x0), (1, kx_i (x1 + 1))] [] w))
theorem me_120_7 {f d : Nat} {C : kx_C} {x0 : Option Nat} {x1 : Int32} {w : kx_H} : kx_ex (wm_120 d C) (f + 1) 7 [(0, kx_r 9 x0), (1, kx_i x1)] [] w = mb_120_7 (kx_ex (wm_120 d C) f) d C x0 x1 w := Eq.trans rfl rfl
def mb_120_29 (J : Nat → kx_F) (d : Nat) (C : kx_C) (x0 : Option Nat) (x1 : Int32) (w : kx_H) : kx_O := x0.bind fun a1 => if hp_I w 1802 a1 < 0 then (J 43 [(0, kx_r 9 x0)] [] w)
  else (if x1 = (256 : Int32) then (J 43 [(0, kx_r 9 x0)] [] w)
    else (x0.bind fun a2 => (hp_R w 1808 a2).bind fun a3 => if x1 < 0 ∨ hp_N w a3 ≤ x1.toNatClampNeg then none else kx_sb (1 : Int32) fun b9 => let w4 := hp_sB w (2 * a3 + 1) x1.toNatClampNeg b9;
      x0.bind fun a7 => kx_bv (C 103 [kx_r 9 (some a7), kx_i x1, kx_l (0 : Int64), kx_i (0 : Int32), kx_i ((-1) : Int32), kx_i (0 : Int32)] w4) fun w5 =>
      x0.bind fun a10 => kx_bv (C 105 [kx_r 9 (some a10), kx_i x1] w5) fun w8 =>
      some (.inl (some (.inl x1)), w8)))
theorem me_120_29 {f d : Nat} {C : kx_C} {x0 : Option Nat} {x1 : Int32} {w : kx_H} : kx_ex (wm_120 d C) (f + 1) 29 [(0, kx_r 9 x0), (1, kx_i x1)] [] w = mb_120_29 (kx_ex (wm_120 d C) f) d C x0 x1 w := Eq.trans rfl rfl
def mb_120_43 (J : Nat → kx_F) (d : Nat) (C : kx_C) (x0 : Option Nat) (w : kx_H) : kx_O := x0.bind fun a3 => kx_bi (C 91 [kx_r 9 (some a3), kx_i (1 : Int32)] w) fun y2 w1 =>
  some (.inl (some (.inl y2)), w1)
theorem me_120_43 {f d : Nat} {C : kx_C} {x0 : Option Nat} {w : kx_H} : kx_ex (wm_120 d C) (f + 1) 43 [(0, kx_r 9 x0)] [] w = mb_120_43 (kx_ex (wm_120 d C) f) d C x0 w := Eq.trans rfl rfl
/-! TaskDeskModel.giveWay()I -/
def mb_121_0 (J : Nat → kx_F) (d : Nat) (C : kx_C) (x0 : Option Nat) (w : kx_H) : kx_O := x0.bind fun a1 => let w2 := hp_sI w 1800 a1 (0 : Int32);
  x0.bind fun a3 => if 0 ≤ hp_I w2 1802 a3 then (x0.bind fun a4 => x0.bind fun a7 => kx_bv (C 105 [kx_r 9 (some a7), kx_i (hp_I w2 1802 a4)] w2) fun w5 =>
    x0.bind fun a10 => kx_bv (C 109 [kx_r 9 (some a10)] w5) fun w8 =>
    x0.bind fun a11 => some (.inl (some (.inl (hp_I w8 1802 a11))), w8))
  else (x0.bind fun a14 => kx_bi (C 91 [kx_r 9 (some a14), kx_i (1 : Int32)] w2) fun y13 w12 =>
    some (.inl (some (.inl y13)), w12))
theorem me_121_0 {f d : Nat} {C : kx_C} {x0 : Option Nat} {w : kx_H} : kx_ex (wm_121 d C) (f + 1) 0 [(0, kx_r 9 x0)] [] w = mb_121_0 (kx_ex (wm_121 d C) f) d C x0 w := Eq.trans rfl rfl
theorem mE_121 {φ d : Nat} (hφ : kx_fuel = φ + 1) {x0 : Option Nat} {w : kx_H} : kx_ev wx_M (d + 1) 121 [kx_r 9 x0] w = mb_121_0 (kx_ex (wm_121 d (kx_ev wx_M d)) φ) d (kx_ev wx_M d) x0 w := by
  show kx_ex (wx_M 121 d (kx_ev wx_M d)) kx_fuel 0 [(0, kx_r 9 x0)] [] w = _
  rw [show wx_M 121 d (kx_ev wx_M d) = wm_121 d (kx_ev wx_M d) from rfl, hφ]
  exact me_121_0
/-! TaskDeskModel.finish()I -/
def mb_122_0 (J : Nat → kx_F) (d : Nat) (C : kx_C) (x0 : Option Nat) (w : kx_H) : kx_O := x0.bind fun a1 => let w2 := hp_sI w 1800 a1 (0 : Int32);
  x0.bind fun a3 => if 0 ≤ hp_I w2 1802 a3 then (x0.bind fun a4 => x0.bind fun a5 => (hp_R w2 1808 a4).bind fun a6 => if hp_I w2 1802 a5 < 0 ∨ hp_N w2 a6 ≤ (hp_I w2 1802 a5 : Int32).toNatClampNeg then none else kx_sb (0 : Int32) fun b9 => let w7 := hp_sB w2 (2 * a6 + 1) (hp_I w2 1802 a5 : Int32).toNatClampNeg b9;
    x0.bind fun a8 => if hp_I w7 1802 a8 ≤ 0 then (J 51 [(0, kx_r 9 x0), (1, kx_i (0 : Int32))] [] w7)
    else (x0.bind fun a9 => let w10 := hp_sI w7 1802 a9 ((-1) : Int32);
      x0.bind fun a13 => kx_bv (C 109 [kx_r 9 (some a13)] w10) fun w11 =>
      x0.bind fun a14 => some (.inl (some (.inl (hp_I w11 1802 a14))), w11)))
  else (x0.bind fun a17 => kx_bi (C 91 [kx_r 9 (some a17), kx_i (1 : Int32)] w2) fun y16 w15 =>
    some (.inl (some (.inl y16)), w15))
theorem me_122_0 {f d : Nat} {C : kx_C} {x0 : Option Nat} {w : kx_H} : kx_ex (wm_122 d C) (f + 1) 0 [(0, kx_r 9 x0)] [] w = mb_122_0 (kx_ex (wm_122 d C) f) d C x0 w := Eq.trans rfl rfl
theorem mE_122 {φ d : Nat} (hφ : kx_fuel = φ + 1) {x0 : Option Nat} {w : kx_H} : kx_ev wx_M (d + 1) 122 [kx_r 9 x0] w = mb_122_0 (kx_ex (wm_122 d (kx_ev wx_M d)) φ) d (kx_ev wx_M d) x0 w := by
  show kx_ex (wx_M 122 d (kx_ev wx_M d)) kx_fuel 0 [(0, kx_r 9 x0)] [] w = _
  rw [show wx_M 122 d (kx_ev wx_M d) = wm_122 d (kx_ev wx_M d) from rfl, hφ]
  exact me_122_0
def mb_122_51 (J : Nat → kx_F) (d : Nat) (C : kx_C) (x0 : Option Nat) (x1 : Int32) (w : kx_H) : kx_O := if (256 : Int32) ≤ x1 then (x0.bind fun a1 => let w2 := hp_sI w 1822 a1 (0 : Int32);
    x0.bind fun a3 => let w4 := hp_sI w2 1840 a3 (0 : Int32);
    x0.bind fun a5 => let w6 := hp_sI w4 1868 a5 (0 : Int32);
    J 90 [(0, kx_r 9 x0), (1, kx_i (0 : Int32)), (2, kx_i (0 : Int32))] [] w6)
  else (x0.bind fun a7 => (hp_R w 1808 a7).bind fun a8 => if x1 < 0 ∨ hp_N w a8 ≤ x1.toNatClampNeg then none else kx_sb (0 : Int32) fun b9 => let w9 := hp_sB w (2 * a8 + 1) x1.toNatClampNeg b9;
    J 51 [(0, kx_r 9 x0), (1, kx_i (x1 + 1))] [] w9)
theorem me_122_51 {f d : Nat} {C : kx_C} {x0 : Option Nat} {x1 : Int32} {w : kx_H} : kx_ex (wm_122 d C) (f + 1) 51 [(0, kx_r 9 x0), (1, kx_i x1)] [] w = mb_122_51 (kx_ex (wm_122 d C) f) d C x0 x1 w := Eq.trans rfl rfl
def mb_122_90 (J : Nat → kx_F) (d : Nat) (C : kx_C) (x0 : Option Nat) (x1 : Int32) (x2 : Int32) (w : kx_H) : kx_O := x0.bind fun a1 => if hp_I w 1876 a1 ≤ x2 then (x0.bind fun a2 => let w3 := hp_sI w 1876 a2 x1;
    x0.bind fun a4 => let w5 := hp_sI w3 1802 a4 ((-1) : Int32);
    x0.bind fun a6 => let w7 := hp_sI w5 1804 a6 (1 : Int32);
    some (.inl (some (.inl ((-1) : Int32))), w7))
  else (x0.bind fun a8 => (hp_R w 1878 a8).bind fun a9 => if x2 < 0 ∨ hp_N w a9 ≤ x2.toNatClampNeg then none else if hp_I w (2 * a9 + 1) x2.toNatClampNeg < 0 then (x0.bind fun a10 => x0.bind fun a11 => (hp_R w 1878 a11).bind fun a12 => if x2 < 0 ∨ hp_N w a12 ≤ x2.toNatClampNeg then none else (hp_R w 1878 a10).bind fun a13 => if x1 < 0 ∨ hp_N w a13 ≤ x1.toNatClampNeg then none else let w14 := hp_sI w (2 * a13 + 1) x1.toNatClampNeg (hp_I w (2 * a12 + 1) x2.toNatClampNeg);
      x0.bind fun a15 => x0.bind fun a16 => (hp_R w14 1880 a16).bind fun a17 => if x2 < 0 ∨ hp_N w14 a17 ≤ x2.toNatClampNeg then none else (hp_R w14 1880 a15).bind fun a18 => if x1 < 0 ∨ hp_N w14 a18 ≤ x1.toNatClampNeg then none else let w19 := hp_sL w14 (2 * a18 + 1) x1.toNatClampNeg (hp_L w14 (2 * a17 + 1) x2.toNatClampNeg);
      J 137 [(0, kx_r 9 x0), (1, kx_i (x1 + 1)), (2, kx_i x2)] [] w19)
    else (J 137 [(0, kx_r 9 x0), (1, kx_i x1), (2, kx_i x2)] [] w))
theorem me_122_90 {f d : Nat} {C : kx_C} {x0 : Option Nat} {x1 : Int32} {x2 : Int32} {w : kx_H} : kx_ex (wm_122 d C) (f + 1) 90 [(0, kx_r 9 x0), (1, kx_i x1), (2, kx_i x2)] [] w = mb_122_90 (kx_ex (wm_122 d C) f) d C x0 x1 x2 w := Eq.trans rfl rfl
def mb_122_137 (J : Nat → kx_F) (d : Nat) (C : kx_C) (x0 : Option Nat) (x1 : Int32) (x2 : Int32) (w : kx_H) : kx_O := J 90 [(0, kx_r 9 x0), (1, kx_i x1), (2, kx_i (x2 + 1))] [] w
theorem me_122_137 {f d : Nat} {C : kx_C} {x0 : Option Nat} {x1 : Int32} {x2 : Int32} {w : kx_H} : kx_ex (wm_122 d C) (f + 1) 137 [(0, kx_r 9 x0), (1, kx_i x1), (2, kx_i x2)] [] w = mb_122_137 (kx_ex (wm_122 d C) f) d C x0 x1 x2 w := Eq.trans rfl rfl
/-! TaskDeskModel.sleep(J)I -/
def mb_123_0 (J : Nat → kx_F) (d : Nat) (C : kx_C) (x0 : Option Nat) (x1 : Int64) (w : kx_H) : kx_O := x0.bind fun a1 => let w2 := hp_sI w 1800 a1 (0 : Int32);
  if lg_cmp x1 (1000000000 : Int64) ≤ 0 then (x0.bind fun a3 => if 0 ≤ hp_I w2 1802 a3 then (if 0 < lg_cmp x1 (0 : Int64) then (x0.bind fun a4 => x0.bind fun a5 => x0.bind fun a6 => (hp_R w2 1878 a4).bind fun a7 => if hp_I w2 1876 a5 < 0 ∨ hp_N w2 a7 ≤ (hp_I w2 1876 a5 : Int32).toNatClampNeg then none else let w8 := hp_sI w2 (2 * a7 + 1) (hp_I w2 1876 a5 : Int32).toNatClampNeg (hp_I w2 1802 a6);
        x0.bind fun a9 => x0.bind fun a10 => x0.bind fun a11 => (hp_R w8 1880 a9).bind fun a12 => if hp_I w8 1876 a10 < 0 ∨ hp_N w8 a12 ≤ (hp_I w8 1876 a10 : Int32).toNatClampNeg then none else let w13 := hp_sL w8 (2 * a12 + 1) (hp_I w8 1876 a10 : Int32).toNatClampNeg ((hp_L w8 1806 a11) + x1);
        x0.bind fun a14 => x0.bind fun a15 => let w16 := hp_sI w13 1876 a15 ((hp_I w13 1876 a14) + (1 : Int32));
        x0.bind fun a19 => kx_bv (C 108 [kx_r 9 (some a19), kx_i (5 : Int32), kx_i ((-1) : Int32)] w16) fun w17 =>
        x0.bind fun a20 => some (.inl (some (.inl (hp_I w17 1802 a20))), w17))
      else (x0.bind fun a23 => kx_bi (C 121 [kx_r 9 (some a23)] w2) fun y22 w21 =>
        some (.inl (some (.inl y22)), w21)))
    else (x0.bind fun a26 => kx_bi (C 91 [kx_r 9 (some a26), kx_i (2 : Int32)] w2) fun y25 w24 =>
      some (.inl (some (.inl y25)), w24)))
  else (x0.bind fun a29 => kx_bi (C 91 [kx_r 9 (some a29), kx_i (1 : Int32)] w2) fun y28 w27 =>
    some (.inl (some (.inl y28)), w27))
theorem me_123_0 {f d : Nat} {C : kx_C} {x0 : Option Nat} {x1 : Int64} {w : kx_H} : kx_ex (wm_123 d C) (f + 1) 0 [(0, kx_r 9 x0), (1, kx_l x1)] [] w = mb_123_0 (kx_ex (wm_123 d C) f) d C x0 x1 w := Eq.trans rfl rfl
theorem mE_123 {φ d : Nat} (hφ : kx_fuel = φ + 1) {x0 : Option Nat} {x1 : Int64} {w : kx_H} : kx_ev wx_M (d + 1) 123 [kx_r 9 x0, kx_l x1] w = mb_123_0 (kx_ex (wm_123 d (kx_ev wx_M d)) φ) d (kx_ev wx_M d) x0 x1 w := by
  show kx_ex (wx_M 123 d (kx_ev wx_M d)) kx_fuel 0 [(0, kx_r 9 x0), (1, kx_l x1)] [] w = _
  rw [show wx_M 123 d (kx_ev wx_M d) = wm_123 d (kx_ev wx_M d) from rfl, hφ]
  exact me_123_0
/-! TaskDeskModel.gate(II)I -/
def mb_124_0 (J : Nat → kx_F) (d : Nat) (C : kx_C) (x0 : Option Nat) (x1 : Int32) (x2 : Int32) (w : kx_H) : kx_O := x0.bind fun a1 => let w2 := hp_sI w 1800 a1 (0 : Int32);
  if x1 < 0 then (J 36 [(0, kx_r 9 x0)] [] w2)
  else (if (4 : Int32) < x1 then (J 36 [(0, kx_r 9 x0)] [] w2)
    else (if x1 = (3 : Int32) then (x0.bind fun a5 => kx_bi (C 125 [kx_r 9 (some a5), kx_i x2] w2) fun y4 w3 =>
        if y4 = 0 then (J 36 [(0, kx_r 9 x0)] [] w3)
        else (x0.bind fun a6 => (hp_R w3 1862 a6).bind fun a7 => if x2 < 0 ∨ hp_N w3 a7 ≤ x2.toNatClampNeg then none else if hp_I w3 (2 * a7 + 1) x2.toNatClampNeg = 0 then (J 42 [(0, kx_r 9 x0), (1, kx_i x1), (2, kx_i x2)] [] w3)
          else (J 36 [(0, kx_r 9 x0)] [] w3)))
      else (J 42 [(0, kx_r 9 x0), (1, kx_i x1), (2, kx_i x2)] [] w2)))
theorem me_124_0 {f d : Nat} {C : kx_C} {x0 : Option Nat} {x1 : Int32} {x2 : Int32} {w : kx_H} : kx_ex (wm_124 d C) (f + 1) 0 [(0, kx_r 9 x0), (1, kx_i x1), (2, kx_i x2)] [] w = mb_124_0 (kx_ex (wm_124 d C) f) d C x0 x1 x2 w := Eq.trans rfl rfl
theorem mE_124 {φ d : Nat} (hφ : kx_fuel = φ + 1) {x0 : Option Nat} {x1 : Int32} {x2 : Int32} {w : kx_H} : kx_ev wx_M (d + 1) 124 [kx_r 9 x0, kx_i x1, kx_i x2] w = mb_124_0 (kx_ex (wm_124 d (kx_ev wx_M d)) φ) d (kx_ev wx_M d) x0 x1 x2 w := by
  show kx_ex (wx_M 124 d (kx_ev wx_M d)) kx_fuel 0 [(0, kx_r 9 x0), (1, kx_i x1), (2, kx_i x2)] [] w = _
  rw [show wx_M 124 d (kx_ev wx_M d) = wm_124 d (kx_ev wx_M d) from rfl, hφ]
  exact me_124_0
def mb_124_36 (J : Nat → kx_F) (d : Nat) (C : kx_C) (x0 : Option Nat) (w : kx_H) : kx_O := x0.bind fun a3 => kx_bi (C 91 [kx_r 9 (some a3), kx_i (1 : Int32)] w) fun y2 w1 =>
  some (.inl (some (.inl y2)), w1)
theorem me_124_36 {f d : Nat} {C : kx_C} {x0 : Option Nat} {w : kx_H} : kx_ex (wm_124 d C) (f + 1) 36 [(0, kx_r 9 x0)] [] w = mb_124_36 (kx_ex (wm_124 d C) f) d C x0 w := Eq.trans rfl rfl
def mb_124_42 (J : Nat → kx_F) (d : Nat) (C : kx_C) (x0 : Option Nat) (x1 : Int32) (x2 : Int32) (w : kx_H) : kx_O := x0.bind fun a1 => if hp_I w 1860 a1 = (256 : Int32) then (x0.bind fun a20 => kx_bi (C 91 [kx_r 9 (some a20), kx_i (2 : Int32)] w) fun y19 w18 =>
    some (.inl (some (.inl y19)), w18))
  else (x0.bind fun a2 => x0.bind fun a3 => (hp_R w 1862 a2).bind fun a4 => if hp_I w 1860 a3 < 0 ∨ hp_N w a4 ≤ (hp_I w 1860 a3 : Int32).toNatClampNeg then none else let w5 := hp_sI w (2 * a4 + 1) (hp_I w 1860 a3 : Int32).toNatClampNeg x1;
    x0.bind fun a6 => x0.bind fun a7 => (hp_R w5 1866 a6).bind fun a8 => if hp_I w5 1860 a7 < 0 ∨ hp_N w5 a8 ≤ (hp_I w5 1860 a7 : Int32).toNatClampNeg then none else let w9 := hp_sI w5 (2 * a8 + 1) (hp_I w5 1860 a7 : Int32).toNatClampNeg x2;
    x0.bind fun a10 => x0.bind fun a11 => (hp_R w9 1864 a10).bind fun a12 => if hp_I w9 1860 a11 < 0 ∨ hp_N w9 a12 ≤ (hp_I w9 1860 a11 : Int32).toNatClampNeg then none else let w13 := hp_sI w9 (2 * a12 + 1) (hp_I w9 1860 a11 : Int32).toNatClampNeg (0 : Int32);
    x0.bind fun a14 => x0.bind fun a15 => let w16 := hp_sI w13 1860 a15 ((hp_I w13 1860 a14) + (1 : Int32));
    x0.bind fun a17 => some (.inl (some (.inl ((hp_I w16 1860 a17) - (1 : Int32)))), w16))
theorem me_124_42 {f d : Nat} {C : kx_C} {x0 : Option Nat} {x1 : Int32} {x2 : Int32} {w : kx_H} : kx_ex (wm_124 d C) (f + 1) 42 [(0, kx_r 9 x0), (1, kx_i x1), (2, kx_i x2)] [] w = mb_124_42 (kx_ex (wm_124 d C) f) d C x0 x1 x2 w := Eq.trans rfl rfl
/-! TaskDeskModel.isGate(I)Z -/
def mb_125_0 (J : Nat → kx_F) (d : Nat) (C : kx_C) (x0 : Option Nat) (x1 : Int32) (w : kx_H) : kx_O := if x1 < 0 then (J 16 [] [] w)
  else (x0.bind fun a1 => if hp_I w 1860 a1 ≤ x1 then (J 16 [] [] w)
    else (J 17 [] [kx_i (1 : Int32)] w))
theorem me_125_0 {f d : Nat} {C : kx_C} {x0 : Option Nat} {x1 : Int32} {w : kx_H} : kx_ex (wm_125 d C) (f + 1) 0 [(0, kx_r 9 x0), (1, kx_i x1)] [] w = mb_125_0 (kx_ex (wm_125 d C) f) d C x0 x1 w := Eq.trans rfl rfl
theorem mE_125 {φ d : Nat} (hφ : kx_fuel = φ + 1) {x0 : Option Nat} {x1 : Int32} {w : kx_H} : kx_ev wx_M (d + 1) 125 [kx_r 9 x0, kx_i x1] w = mb_125_0 (kx_ex (wm_125 d (kx_ev wx_M d)) φ) d (kx_ev wx_M d) x0 x1 w := by
  show kx_ex (wx_M 125 d (kx_ev wx_M d)) kx_fuel 0 [(0, kx_r 9 x0), (1, kx_i x1)] [] w = _
  rw [show wx_M 125 d (kx_ev wx_M d) = wm_125 d (kx_ev wx_M d) from rfl, hφ]
  exact me_125_0
def mb_125_16 (J : Nat → kx_F) (d : Nat) (C : kx_C)  (w : kx_H) : kx_O := J 17 [] [kx_i (0 : Int32)] w
theorem me_125_16 {f d : Nat} {C : kx_C}  {w : kx_H} : kx_ex (wm_125 d C) (f + 1) 16 [] [] w = mb_125_16 (kx_ex (wm_125 d C) f) d C  w := Eq.trans rfl rfl
def mb_125_17 (J : Nat → kx_F) (d : Nat) (C : kx_C) (xs0 : Int32) (w : kx_H) : kx_O := if xs0 = 0 ∨ xs0 = 1 then some (.inl (some (.inl xs0)), w) else none
theorem me_125_17 {f d : Nat} {C : kx_C} {xs0 : Int32} {w : kx_H} : kx_ex (wm_125 d C) (f + 1) 17 [] [kx_i xs0] w = mb_125_17 (kx_ex (wm_125 d C) f) d C xs0 w := Eq.trans rfl rfl
/-! TaskDeskModel.enter(I)Z -/
def mb_126_0 (J : Nat → kx_F) (d : Nat) (C : kx_C) (x0 : Option Nat) (x1 : Int32) (w : kx_H) : kx_O := x0.bind fun a1 => let w2 := hp_sI w 1800 a1 (0 : Int32);
  x0.bind fun a5 => kx_bi (C 125 [kx_r 9 (some a5), kx_i x1] w2) fun y4 w3 =>
  if y4 = 0 then (x0.bind fun a38 => kx_bi (C 99 [kx_r 9 (some a38), kx_i (1 : Int32)] w3) fun y37 w36 =>
    if y37 = 0 ∨ y37 = 1 then some (.inl (some (.inl y37)), w36) else none)
  else (x0.bind fun a6 => if 0 ≤ hp_I w3 1802 a6 then (x0.bind fun a7 => (hp_R w3 1864 a7).bind fun a8 => if x1 < 0 ∨ hp_N w3 a8 ≤ x1.toNatClampNeg then none else x0.bind fun a9 => (hp_R w3 1862 a9).bind fun a10 => if x1 < 0 ∨ hp_N w3 a10 ≤ x1.toNatClampNeg then none else if hp_I w3 (2 * a10 + 1) x1.toNatClampNeg = 0 then (x0.bind fun a11 => (hp_R w3 1864 a11).bind fun a12 => if x1 < 0 ∨ hp_N w3 a12 ≤ x1.toNatClampNeg then none else let w13 := hp_sI w3 (2 * a12 + 1) x1.toNatClampNeg (1 : Int32);
        if hp_I w3 (2 * a8 + 1) x1.toNatClampNeg = 0 then (J 93 [(1, kx_i x1)] [kx_i (1 : Int32), kx_r 9 x0] w13)
        else (J 93 [(1, kx_i x1)] [kx_i (0 : Int32), kx_r 9 x0] w13))
      else if hp_I w3 (2 * a10 + 1) x1.toNatClampNeg = 1 then (if hp_I w3 (2 * a8 + 1) x1.toNatClampNeg = 0 then (x0.bind fun a14 => (hp_R w3 1864 a14).bind fun a15 => if x1 < 0 ∨ hp_N w3 a15 ≤ x1.toNatClampNeg then none else let w16 := hp_sI w3 (2 * a15 + 1) x1.toNatClampNeg ((-1) : Int32);
          J 111 [(0, kx_r 9 x0), (1, kx_i x1), (2, kx_i (hp_I w3 (2 * a8 + 1) x1.toNatClampNeg))] [] w16)
        else (J 111 [(0, kx_r 9 x0), (1, kx_i x1), (2, kx_i (hp_I w3 (2 * a8 + 1) x1.toNatClampNeg))] [] w3))
      else if hp_I w3 (2 * a10 + 1) x1.toNatClampNeg = 2 then (if hp_I w3 (2 * a8 + 1) x1.toNatClampNeg = 0 then (J 138 [(1, kx_i x1)] [kx_i (1 : Int32), kx_r 9 x0] w3)
        else (J 138 [(1, kx_i x1)] [kx_i (0 : Int32), kx_r 9 x0] w3))
      else if hp_I w3 (2 * a10 + 1) x1.toNatClampNeg = 3 then (x0.bind fun a17 => x0.bind fun a18 => (hp_R w3 1866 a18).bind fun a19 => if x1 < 0 ∨ hp_N w3 a19 ≤ x1.toNatClampNeg then none else (hp_R w3 1864 a17).bind fun a20 => if hp_I w3 (2 * a19 + 1) x1.toNatClampNeg < 0 ∨ hp_N w3 a20 ≤ (hp_I w3 (2 * a19 + 1) x1.toNatClampNeg : Int32).toNatClampNeg then none else if hp_I w3 (2 * a20 + 1) (hp_I w3 (2 * a19 + 1) x1.toNatClampNeg : Int32).toNatClampNeg = 0 then (x0.bind fun a31 => kx_bi (C 99 [kx_r 9 (some a31), kx_i (3 : Int32)] w3) fun y30 w29 =>
          if y30 = 0 ∨ y30 = 1 then some (.inl (some (.inl y30)), w29) else none)
        else (x0.bind fun a21 => (hp_R w3 1866 a21).bind fun a22 => if x1 < 0 ∨ hp_N w3 a22 ≤ x1.toNatClampNeg then none else x0.bind fun a25 => kx_bv (C 129 [kx_r 9 (some a25), kx_i (hp_I w3 (2 * a22 + 1) x1.toNatClampNeg)] w3) fun w23 =>
          x0.bind fun a28 => kx_bi (C 127 [kx_r 9 (some a28), kx_i (0 : Int32), kx_i x1, kx_i (0 : Int32), kx_i (1 : Int32)] w23) fun y27 w26 =>
          if y27 = 0 ∨ y27 = 1 then some (.inl (some (.inl y27)), w26) else none))
      else (x0.bind fun a32 => if hp_I w3 (2 * a8 + 1) x1.toNatClampNeg = 0 then (J 198 [(0, kx_r 9 x0), (1, kx_i x1), (2, kx_i (hp_I w3 (2 * a8 + 1) x1.toNatClampNeg))] [kx_i (1 : Int32), kx_i x1, kx_r 99 (hp_R w3 1864 a32)] w3)
        else (J 198 [(0, kx_r 9 x0), (1, kx_i x1), (2, kx_i (hp_I w3 (2 * a8 + 1) x1.toNatClampNeg))] [kx_i (hp_I w3 (2 * a8 + 1) x1.toNatClampNeg), kx_i x1, kx_r 99 (hp_R w3 1864 a32)] w3)))
    else (x0.bind fun a35 => kx_bi (C 99 [kx_r 9 (some a35), kx_i (2 : Int32)] w3) fun y34 w33 =>
      if y34 = 0 ∨ y34 = 1 then some (.inl (some (.inl y34)), w33) else none))
theorem me_126_0 {f d : Nat} {C : kx_C} {x0 : Option Nat} {x1 : Int32} {w : kx_H} : kx_ex (wm_126 d C) (f + 1) 0 [(0, kx_r 9 x0), (1, kx_i x1)] [] w = mb_126_0 (kx_ex (wm_126 d C) f) d C x0 x1 w := Eq.trans rfl rfl
theorem mE_126 {φ d : Nat} (hφ : kx_fuel = φ + 1) {x0 : Option Nat} {x1 : Int32} {w : kx_H} : kx_ev wx_M (d + 1) 126 [kx_r 9 x0, kx_i x1] w = mb_126_0 (kx_ex (wm_126 d (kx_ev wx_M d)) φ) d (kx_ev wx_M d) x0 x1 w := by
  show kx_ex (wx_M 126 d (kx_ev wx_M d)) kx_fuel 0 [(0, kx_r 9 x0), (1, kx_i x1)] [] w = _
  rw [show wx_M 126 d (kx_ev wx_M d) = wm_126 d (kx_ev wx_M d) from rfl, hφ]
  exact me_126_0
def mb_126_93 (J : Nat → kx_F) (d : Nat) (C : kx_C) (x1 : Int32) (xs0 : Int32) (xs1 : Option Nat) (w : kx_H) : kx_O := xs1.bind fun a3 => kx_bi (C 127 [kx_r 9 (some a3), kx_i xs0, kx_i x1, kx_i (0 : Int32), kx_i (1 : Int32)] w) fun y2 w1 =>
  if y2 = 0 ∨ y2 = 1 then some (.inl (some (.inl y2)), w1) else none
theorem me_126_93 {f d : Nat} {C : kx_C} {x1 : Int32} {xs0 : Int32} {xs1 : Option Nat} {w : kx_H} : kx_ex (wm_126 d C) (f + 1) 93 [(1, kx_i x1)] [kx_i xs0, kx_r 9 xs1] w = mb_126_93 (kx_ex (wm_126 d C) f) d C x1 xs0 xs1 w := Eq.trans rfl rfl
def mb_126_111 (J : Nat → kx_F) (d : Nat) (C : kx_C) (x0 : Option Nat) (x1 : Int32) (x2 : Int32) (w : kx_H) : kx_O := if x2 = 0 then (J 121 [(1, kx_i x1)] [kx_i (1 : Int32), kx_r 9 x0] w)
  else (J 121 [(1, kx_i x1)] [kx_i (0 : Int32), kx_r 9 x0] w)
theorem me_126_111 {f d : Nat} {C : kx_C} {x0 : Option Nat} {x1 : Int32} {x2 : Int32} {w : kx_H} : kx_ex (wm_126 d C) (f + 1) 111 [(0, kx_r 9 x0), (1, kx_i x1), (2, kx_i x2)] [] w = mb_126_111 (kx_ex (wm_126 d C) f) d C x0 x1 x2 w := Eq.trans rfl rfl
def mb_126_121 (J : Nat → kx_F) (d : Nat) (C : kx_C) (x1 : Int32) (xs0 : Int32) (xs1 : Option Nat) (w : kx_H) : kx_O := xs1.bind fun a3 => kx_bi (C 127 [kx_r 9 (some a3), kx_i xs0, kx_i x1, kx_i (0 : Int32), kx_i (1 : Int32)] w) fun y2 w1 =>
  if y2 = 0 ∨ y2 = 1 then some (.inl (some (.inl y2)), w1) else none
theorem me_126_121 {f d : Nat} {C : kx_C} {x1 : Int32} {xs0 : Int32} {xs1 : Option Nat} {w : kx_H} : kx_ex (wm_126 d C) (f + 1) 121 [(1, kx_i x1)] [kx_i xs0, kx_r 9 xs1] w = mb_126_121 (kx_ex (wm_126 d C) f) d C x1 xs0 xs1 w := Eq.trans rfl rfl
def mb_126_138 (J : Nat → kx_F) (d : Nat) (C : kx_C) (x1 : Int32) (xs0 : Int32) (xs1 : Option Nat) (w : kx_H) : kx_O := xs1.bind fun a3 => kx_bi (C 127 [kx_r 9 (some a3), kx_i xs0, kx_i x1, kx_i (0 : Int32), kx_i (1 : Int32)] w) fun y2 w1 =>
  if y2 = 0 ∨ y2 = 1 then some (.inl (some (.inl y2)), w1) else none
theorem me_126_138 {f d : Nat} {C : kx_C} {x1 : Int32} {xs0 : Int32} {xs1 : Option Nat} {w : kx_H} : kx_ex (wm_126 d C) (f + 1) 138 [(1, kx_i x1)] [kx_i xs0, kx_r 9 xs1] w = mb_126_138 (kx_ex (wm_126 d C) f) d C x1 xs0 xs1 w := Eq.trans rfl rfl
def mb_126_198 (J : Nat → kx_F) (d : Nat) (C : kx_C) (x0 : Option Nat) (x1 : Int32) (x2 : Int32) (xs0 : Int32) (xs1 : Int32) (xs2 : Option Nat) (w : kx_H) : kx_O := xs2.bind fun a1 => if xs1 < 0 ∨ hp_N w a1 ≤ xs1.toNatClampNeg then none else let w2 := hp_sI w (2 * a1 + 1) xs1.toNatClampNeg xs0;
  if x2 = (1 : Int32) then (J 210 [(1, kx_i x1), (2, kx_i x2)] [kx_i (0 : Int32), kx_r 9 x0] w2)
  else (J 210 [(1, kx_i x1), (2, kx_i x2)] [kx_i (1 : Int32), kx_r 9 x0] w2)
theorem me_126_198 {f d : Nat} {C : kx_C} {x0 : Option Nat} {x1 : Int32} {x2 : Int32} {xs0 : Int32} {xs1 : Int32} {xs2 : Option Nat} {w : kx_H} : kx_ex (wm_126 d C) (f + 1) 198 [(0, kx_r 9 x0), (1, kx_i x1), (2, kx_i x2)] [kx_i xs0, kx_i xs1, kx_r 99 xs2] w = mb_126_198 (kx_ex (wm_126 d C) f) d C x0 x1 x2 xs0 xs1 xs2 w := Eq.trans rfl rfl
def mb_126_210 (J : Nat → kx_F) (d : Nat) (C : kx_C) (x1 : Int32) (x2 : Int32) (xs0 : Int32) (xs1 : Option Nat) (w : kx_H) : kx_O := if x2 = 0 then (J 221 [] [kx_i (1 : Int32), kx_i (0 : Int32), kx_i x1, kx_i xs0, kx_r 9 xs1] w)
  else (J 221 [] [kx_i (0 : Int32), kx_i (0 : Int32), kx_i x1, kx_i xs0, kx_r 9 xs1] w)
theorem me_126_210 {f d : Nat} {C : kx_C} {x1 : Int32} {x2 : Int32} {xs0 : Int32} {xs1 : Option Nat} {w : kx_H} : kx_ex (wm_126 d C) (f + 1) 210 [(1, kx_i x1), (2, kx_i x2)] [kx_i xs0, kx_r 9 xs1] w = mb_126_210 (kx_ex (wm_126 d C) f) d C x1 x2 xs0 xs1 w := Eq.trans rfl rfl
def mb_126_221 (J : Nat → kx_F) (d : Nat) (C : kx_C) (xs0 : Int32) (xs1 : Int32) (xs2 : Int32) (xs3 : Int32) (xs4 : Option Nat) (w : kx_H) : kx_O := xs4.bind fun a3 => kx_bi (C 127 [kx_r 9 (some a3), kx_i xs3, kx_i xs2, kx_i xs1, kx_i xs0] w) fun y2 w1 =>
  if y2 = 0 ∨ y2 = 1 then some (.inl (some (.inl y2)), w1) else none
theorem me_126_221 {f d : Nat} {C : kx_C} {xs0 : Int32} {xs1 : Int32} {xs2 : Int32} {xs3 : Int32} {xs4 : Option Nat} {w : kx_H} : kx_ex (wm_126 d C) (f + 1) 221 [] [kx_i xs0, kx_i xs1, kx_i xs2, kx_i xs3, kx_r 9 xs4] w = mb_126_221 (kx_ex (wm_126 d C) f) d C xs0 xs1 xs2 xs3 xs4 w := Eq.trans rfl rfl
/-! TaskDeskModel.passes(ZIZZ)Z -/
def mb_127_0 (J : Nat → kx_F) (d : Nat) (C : kx_C) (x0 : Option Nat) (x1 : Int32) (x2 : Int32) (x3 : Int32) (x4 : Int32) (w : kx_H) : kx_O := if x1 = 0 then (x0.bind fun a1 => x0.bind fun a4 => kx_bv (C 128 [kx_r 9 (some a4), kx_i (hp_I w 1802 a1), kx_i x2, kx_i x3] w) fun w2 =>
    x0.bind fun a7 => kx_bv (C 108 [kx_r 9 (some a7), kx_i (6 : Int32), kx_i x2] w2) fun w5 =>
    if (0 : Int32) = 0 ∨ (0 : Int32) = 1 then some (.inl (some (.inl (0 : Int32))), w5) else none)
  else (x0.bind fun a8 => x0.bind fun a11 => kx_bv (C 103 [kx_r 9 (some a11), kx_i (hp_I w 1802 a8), kx_l (0 : Int64), kx_i x4, kx_i ((-1) : Int32), kx_i (0 : Int32)] w) fun w9 =>
    if (1 : Int32) = 0 ∨ (1 : Int32) = 1 then some (.inl (some (.inl (1 : Int32))), w9) else none)
theorem me_127_0 {f d : Nat} {C : kx_C} {x0 : Option Nat} {x1 : Int32} {x2 : Int32} {x3 : Int32} {x4 : Int32} {w : kx_H} : kx_ex (wm_127 d C) (f + 1) 0 [(0, kx_r 9 x0), (1, kx_i x1), (2, kx_i x2), (3, kx_i x3), (4, kx_i x4)] [] w = mb_127_0 (kx_ex (wm_127 d C) f) d C x0 x1 x2 x3 x4 w := Eq.trans rfl rfl
theorem mE_127 {φ d : Nat} (hφ : kx_fuel = φ + 1) {x0 : Option Nat} {x1 : Int32} {x2 : Int32} {x3 : Int32} {x4 : Int32} {w : kx_H} : kx_ev wx_M (d + 1) 127 [kx_r 9 x0, kx_i x1, kx_i x2, kx_i x3, kx_i x4] w = mb_127_0 (kx_ex (wm_127 d (kx_ev wx_M d)) φ) d (kx_ev wx_M d) x0 x1 x2 x3 x4 w := by
  show kx_ex (wx_M 127 d (kx_ev wx_M d)) kx_fuel 0 [(0, kx_r 9 x0), (1, kx_i x1), (2, kx_i x2), (3, kx_i x3), (4, kx_i x4)] [] w = _
  rw [show wx_M 127 d (kx_ev wx_M d) = wm_127 d (kx_ev wx_M d) from rfl, hφ]
  exact me_127_0
/-! TaskDeskModel.stand(IIZ)V -/
def mb_128_0 (J : Nat → kx_F) (d : Nat) (C : kx_C) (x0 : Option Nat) (x1 : Int32) (x2 : Int32) (x3 : Int32) (w : kx_H) : kx_O := x0.bind fun a1 => x0.bind fun a2 => (hp_R w 1870 a1).bind fun a3 => if hp_I w 1868 a2 < 0 ∨ hp_N w a3 ≤ (hp_I w 1868 a2 : Int32).toNatClampNeg then none else let w4 := hp_sI w (2 * a3 + 1) (hp_I w 1868 a2 : Int32).toNatClampNeg x1;
  x0.bind fun a5 => x0.bind fun a6 => (hp_R w4 1872 a5).bind fun a7 => if hp_I w4 1868 a6 < 0 ∨ hp_N w4 a7 ≤ (hp_I w4 1868 a6 : Int32).toNatClampNeg then none else let w8 := hp_sI w4 (2 * a7 + 1) (hp_I w4 1868 a6 : Int32).toNatClampNeg x2;
  x0.bind fun a9 => x0.bind fun a10 => (hp_R w8 1874 a9).bind fun a11 => if hp_I w8 1868 a10 < 0 ∨ hp_N w8 a11 ≤ (hp_I w8 1868 a10 : Int32).toNatClampNeg then none else kx_sb x3 fun b9 => let w12 := hp_sB w8 (2 * a11 + 1) (hp_I w8 1868 a10 : Int32).toNatClampNeg b9;
  x0.bind fun a13 => x0.bind fun a14 => let w15 := hp_sI w12 1868 a14 ((hp_I w12 1868 a13) + (1 : Int32));
  some (.inl none, w15)
theorem me_128_0 {f d : Nat} {C : kx_C} {x0 : Option Nat} {x1 : Int32} {x2 : Int32} {x3 : Int32} {w : kx_H} : kx_ex (wm_128 d C) (f + 1) 0 [(0, kx_r 9 x0), (1, kx_i x1), (2, kx_i x2), (3, kx_i x3)] [] w = mb_128_0 (kx_ex (wm_128 d C) f) d C x0 x1 x2 x3 w := Eq.trans rfl rfl
theorem mE_128 {φ d : Nat} (hφ : kx_fuel = φ + 1) {x0 : Option Nat} {x1 : Int32} {x2 : Int32} {x3 : Int32} {w : kx_H} : kx_ev wx_M (d + 1) 128 [kx_r 9 x0, kx_i x1, kx_i x2, kx_i x3] w = mb_128_0 (kx_ex (wm_128 d (kx_ev wx_M d)) φ) d (kx_ev wx_M d) x0 x1 x2 x3 w := by
  show kx_ex (wx_M 128 d (kx_ev wx_M d)) kx_fuel 0 [(0, kx_r 9 x0), (1, kx_i x1), (2, kx_i x2), (3, kx_i x3)] [] w = _
  rw [show wx_M 128 d (kx_ev wx_M d) = wm_128 d (kx_ev wx_M d) from rfl, hφ]
  exact me_128_0
/-! TaskDeskModel.unlock(I)V -/
def mb_129_0 (J : Nat → kx_F) (d : Nat) (C : kx_C) (x0 : Option Nat) (x1 : Int32) (w : kx_H) : kx_O := x0.bind fun a3 => kx_bi (C 130 [kx_r 9 (some a3), kx_i x1, kx_i (2 : Int32)] w) fun y2 w1 =>
  if 0 ≤ y2 then (x0.bind fun a6 => kx_bv (C 131 [kx_r 9 (some a6), kx_i y2, kx_i (1 : Int32)] w1) fun w4 =>
    J 27 [] [] w4)
  else (x0.bind fun a7 => (hp_R w1 1864 a7).bind fun a8 => if x1 < 0 ∨ hp_N w1 a8 ≤ x1.toNatClampNeg then none else let w9 := hp_sI w1 (2 * a8 + 1) x1.toNatClampNeg (0 : Int32);
    J 27 [] [] w9)
theorem me_129_0 {f d : Nat} {C : kx_C} {x0 : Option Nat} {x1 : Int32} {w : kx_H} : kx_ex (wm_129 d C) (f + 1) 0 [(0, kx_r 9 x0), (1, kx_i x1)] [] w = mb_129_0 (kx_ex (wm_129 d C) f) d C x0 x1 w := Eq.trans rfl rfl
theorem mE_129 {φ d : Nat} (hφ : kx_fuel = φ + 1) {x0 : Option Nat} {x1 : Int32} {w : kx_H} : kx_ev wx_M (d + 1) 129 [kx_r 9 x0, kx_i x1] w = mb_129_0 (kx_ex (wm_129 d (kx_ev wx_M d)) φ) d (kx_ev wx_M d) x0 x1 w := by
  show kx_ex (wx_M 129 d (kx_ev wx_M d)) kx_fuel 0 [(0, kx_r 9 x0), (1, kx_i x1)] [] w = _
  rw [show wx_M 129 d (kx_ev wx_M d) = wm_129 d (kx_ev wx_M d) from rfl, hφ]
  exact me_129_0
def mb_129_27 (J : Nat → kx_F) (d : Nat) (C : kx_C)  (w : kx_H) : kx_O := some (.inl none, w)
theorem me_129_27 {f d : Nat} {C : kx_C}  {w : kx_H} : kx_ex (wm_129 d C) (f + 1) 27 [] [] w = mb_129_27 (kx_ex (wm_129 d C) f) d C  w := Eq.trans rfl rfl
/-! TaskDeskModel.standing(II)I -/
def mb_130_0 (J : Nat → kx_F) (d : Nat) (C : kx_C) (x0 : Option Nat) (x1 : Int32) (x2 : Int32) (w : kx_H) : kx_O := J 2 [(0, kx_r 9 x0), (1, kx_i x1), (2, kx_i x2), (3, kx_i (0 : Int32))] [] w
theorem me_130_0 {f d : Nat} {C : kx_C} {x0 : Option Nat} {x1 : Int32} {x2 : Int32} {w : kx_H} : kx_ex (wm_130 d C) (f + 1) 0 [(0, kx_r 9 x0), (1, kx_i x1), (2, kx_i x2)] [] w = mb_130_0 (kx_ex (wm_130 d C) f) d C x0 x1 x2 w := Eq.trans rfl rfl
theorem mE_130 {φ d : Nat} (hφ : kx_fuel = φ + 1) {x0 : Option Nat} {x1 : Int32} {x2 : Int32} {w : kx_H} : kx_ev wx_M (d + 1) 130 [kx_r 9 x0, kx_i x1, kx_i x2] w = mb_130_0 (kx_ex (wm_130 d (kx_ev wx_M d)) φ) d (kx_ev wx_M d) x0 x1 x2 w := by
  show kx_ex (wx_M 130 d (kx_ev wx_M d)) kx_fuel 0 [(0, kx_r 9 x0), (1, kx_i x1), (2, kx_i x2)] [] w = _
  rw [show wx_M 130 d (kx_ev wx_M d) = wm_130 d (kx_ev wx_M d) from rfl, hφ]
  exact me_130_0
def mb_130_2 (J : Nat → kx_F) (d : Nat) (C : kx_C) (x0 : Option Nat) (x1 : Int32) (x2 : Int32) (x3 : Int32) (w : kx_H) : kx_O := x0.bind fun a1 => if hp_I w 1868 a1 ≤ x3 then (some (.inl (some (.inl ((-1) : Int32))), w))
  else (x0.bind fun a2 => (hp_R w 1872 a2).bind fun a3 => if x3 < 0 ∨ hp_N w a3 ≤ x3.toNatClampNeg then none else if hp_I w (2 * a3 + 1) x3.toNatClampNeg = x1 then (if x2 = (2 : Int32) then (J 44 [(3, kx_i x3)] [] w)
      else (x0.bind fun a4 => (hp_R w 1874 a4).bind fun a5 => if x3 < 0 ∨ hp_N w a5 ≤ x3.toNatClampNeg then none else if x2 = (1 : Int32) then (J 41 [(0, kx_r 9 x0), (1, kx_i x1), (2, kx_i x2), (3, kx_i x3)] [kx_i (1 : Int32), kx_i (kx_b (hp_B w (2 * a5 + 1) x3.toNatClampNeg))] w)
        else (J 41 [(0, kx_r 9 x0), (1, kx_i x1), (2, kx_i x2), (3, kx_i x3)] [kx_i (0 : Int32), kx_i (kx_b (hp_B w (2 * a5 + 1) x3.toNatClampNeg))] w)))
    else (J 46 [(0, kx_r 9 x0), (1, kx_i x1), (2, kx_i x2), (3, kx_i x3)] [] w))
theorem me_130_2 {f d : Nat} {C : kx_C} {x0 : Option Nat} {x1 : Int32} {x2 : Int32} {x3 : Int32} {w : kx_H} : kx_ex (wm_130 d C) (f + 1) 2 [(0, kx_r 9 x0), (1, kx_i x1), (2, kx_i x2), (3, kx_i x3)] [] w = mb_130_2 (kx_ex (wm_130 d C) f) d C x0 x1 x2 x3 w := Eq.trans rfl rfl
def mb_130_41 (J : Nat → kx_F) (d : Nat) (C : kx_C) (x0 : Option Nat) (x1 : Int32) (x2 : Int32) (x3 : Int32) (xs0 : Int32) (xs1 : Int32) (w : kx_H) : kx_O := if xs1 = xs0 then (J 44 [(3, kx_i x3)] [] w)
  else (J 46 [(0, kx_r 9 x0), (1, kx_i x1), (2, kx_i x2), (3, kx_i x3)] [] w)
theorem me_130_41 {f d : Nat} {C : kx_C} {x0 : Option Nat} {x1 : Int32} {x2 : Int32} {x3 : Int32} {xs0 : Int32} {xs1 : Int32} {w : kx_H} : kx_ex (wm_130 d C) (f + 1) 41 [(0, kx_r 9 x0), (1, kx_i x1), (2, kx_i x2), (3, kx_i x3)] [kx_i xs0, kx_i xs1] w = mb_130_41 (kx_ex (wm_130 d C) f) d C x0 x1 x2 x3 xs0 xs1 w := Eq.trans rfl rfl
def mb_130_44 (J : Nat → kx_F) (d : Nat) (C : kx_C) (x3 : Int32) (w : kx_H) : kx_O := some (.inl (some (.inl x3)), w)
theorem me_130_44 {f d : Nat} {C : kx_C} {x3 : Int32} {w : kx_H} : kx_ex (wm_130 d C) (f + 1) 44 [(3, kx_i x3)] [] w = mb_130_44 (kx_ex (wm_130 d C) f) d C x3 w := Eq.trans rfl rfl
def mb_130_46 (J : Nat → kx_F) (d : Nat) (C : kx_C) (x0 : Option Nat) (x1 : Int32) (x2 : Int32) (x3 : Int32) (w : kx_H) : kx_O := J 2 [(0, kx_r 9 x0), (1, kx_i x1), (2, kx_i x2), (3, kx_i (x3 + 1))] [] w
theorem me_130_46 {f d : Nat} {C : kx_C} {x0 : Option Nat} {x1 : Int32} {x2 : Int32} {x3 : Int32} {w : kx_H} : kx_ex (wm_130 d C) (f + 1) 46 [(0, kx_r 9 x0), (1, kx_i x1), (2, kx_i x2), (3, kx_i x3)] [] w = mb_130_46 (kx_ex (wm_130 d C) f) d C x0 x1 x2 x3 w := Eq.trans rfl rfl
/-! TaskDeskModel.lets(IZ)V -/
def mb_131_0 (J : Nat → kx_F) (d : Nat) (C : kx_C) (x0 : Option Nat) (x1 : Int32) (x2 : Int32) (w : kx_H) : kx_O := x0.bind fun a3 => kx_bi (C 132 [kx_r 9 (some a3), kx_i x1] w) fun y2 w1 =>
  x0.bind fun a6 => kx_bv (C 103 [kx_r 9 (some a6), kx_i y2, kx_l (0 : Int64), kx_i x2, kx_i ((-1) : Int32), kx_i (0 : Int32)] w1) fun w4 =>
  x0.bind fun a9 => kx_bv (C 105 [kx_r 9 (some a9), kx_i y2] w4) fun w7 =>
  some (.inl none, w7)
theorem me_131_0 {f d : Nat} {C : kx_C} {x0 : Option Nat} {x1 : Int32} {x2 : Int32} {w : kx_H} : kx_ex (wm_131 d C) (f + 1) 0 [(0, kx_r 9 x0), (1, kx_i x1), (2, kx_i x2)] [] w = mb_131_0 (kx_ex (wm_131 d C) f) d C x0 x1 x2 w := Eq.trans rfl rfl
theorem mE_131 {φ d : Nat} (hφ : kx_fuel = φ + 1) {x0 : Option Nat} {x1 : Int32} {x2 : Int32} {w : kx_H} : kx_ev wx_M (d + 1) 131 [kx_r 9 x0, kx_i x1, kx_i x2] w = mb_131_0 (kx_ex (wm_131 d (kx_ev wx_M d)) φ) d (kx_ev wx_M d) x0 x1 x2 w := by
  show kx_ex (wx_M 131 d (kx_ev wx_M d)) kx_fuel 0 [(0, kx_r 9 x0), (1, kx_i x1), (2, kx_i x2)] [] w = _
  rw [show wx_M 131 d (kx_ev wx_M d) = wm_131 d (kx_ev wx_M d) from rfl, hφ]
  exact me_131_0
/-! TaskDeskModel.takeOut(I)I -/
def mb_132_0 (J : Nat → kx_F) (d : Nat) (C : kx_C) (x0 : Option Nat) (x1 : Int32) (w : kx_H) : kx_O := x0.bind fun a1 => (hp_R w 1870 a1).bind fun a2 => if x1 < 0 ∨ hp_N w a2 ≤ x1.toNatClampNeg then none else x0.bind fun a3 => x0.bind fun a4 => let w5 := hp_sI w 1868 a4 ((hp_I w 1868 a3) - (1 : Int32));
  J 19 [(0, kx_r 9 x0), (2, kx_i (hp_I w (2 * a2 + 1) x1.toNatClampNeg)), (3, kx_i x1)] [] w5
theorem me_132_0 {f d : Nat} {C : kx_C} {x0 : Option Nat} {x1 : Int32} {w : kx_H} : kx_ex (wm_132 d C) (f + 1) 0 [(0, kx_r 9 x0), (1, kx_i x1)] [] w = mb_132_0 (kx_ex (wm_132 d C) f) d C x0 x1 w := Eq.trans rfl rfl
theorem mE_132 {φ d : Nat} (hφ : kx_fuel = φ + 1) {x0 : Option Nat} {x1 : Int32} {w : kx_H} : kx_ev wx_M (d + 1) 132 [kx_r 9 x0, kx_i x1] w = mb_132_0 (kx_ex (wm_132 d (kx_ev wx_M d)) φ) d (kx_ev wx_M d) x0 x1 w := by
  show kx_ex (wx_M 132 d (kx_ev wx_M d)) kx_fuel 0 [(0, kx_r 9 x0), (1, kx_i x1)] [] w = _
  rw [show wx_M 132 d (kx_ev wx_M d) = wm_132 d (kx_ev wx_M d) from rfl, hφ]
  exact me_132_0
def mb_132_19 (J : Nat → kx_F) (d : Nat) (C : kx_C) (x0 : Option Nat) (x2 : Int32) (x3 : Int32) (w : kx_H) : kx_O := x0.bind fun a1 => if hp_I w 1868 a1 ≤ x3 then (some (.inl (some (.inl x2)), w))
  else (x0.bind fun a2 => x0.bind fun a3 => (hp_R w 1870 a3).bind fun a4 => if x3 + (1 : Int32) < 0 ∨ hp_N w a4 ≤ (x3 + (1 : Int32) : Int32).toNatClampNeg then none else (hp_R w 1870 a2).bind fun a5 => if x3 < 0 ∨ hp_N w a5 ≤ x3.toNatClampNeg then none else let w6 := hp_sI w (2 * a5 + 1) x3.toNatClampNeg (hp_I w (2 * a4 + 1) (x3 + (1 : Int32) : Int32).toNatClampNeg);
    x0.bind fun a7 => x0.bind fun a8 => (hp_R w6 1872 a8).bind fun a9 => if x3 + (1 : Int32) < 0 ∨ hp_N w6 a9 ≤ (x3 + (1 : Int32) : Int32).toNatClampNeg then none else (hp_R w6 1872 a7).bind fun a10 => if x3 < 0 ∨ hp_N w6 a10 ≤ x3.toNatClampNeg then none else let w11 := hp_sI w6 (2 * a10 + 1) x3.toNatClampNeg (hp_I w6 (2 * a9 + 1) (x3 + (1 : Int32) : Int32).toNatClampNeg);
    x0.bind fun a12 => x0.bind fun a13 => (hp_R w11 1874 a13).bind fun a14 => if x3 + (1 : Int32) < 0 ∨ hp_N w11 a14 ≤ (x3 + (1 : Int32) : Int32).toNatClampNeg then none else (hp_R w11 1874 a12).bind fun a15 => if x3 < 0 ∨ hp_N w11 a15 ≤ x3.toNatClampNeg then none else kx_sb (kx_b (hp_B w11 (2 * a14 + 1) (x3 + (1 : Int32) : Int32).toNatClampNeg)) fun b9 => let w16 := hp_sB w11 (2 * a15 + 1) x3.toNatClampNeg b9;
    J 19 [(0, kx_r 9 x0), (2, kx_i x2), (3, kx_i (x3 + 1))] [] w16)
theorem me_132_19 {f d : Nat} {C : kx_C} {x0 : Option Nat} {x2 : Int32} {x3 : Int32} {w : kx_H} : kx_ex (wm_132 d C) (f + 1) 19 [(0, kx_r 9 x0), (2, kx_i x2), (3, kx_i x3)] [] w = mb_132_19 (kx_ex (wm_132 d C) f) d C x0 x2 x3 w := Eq.trans rfl rfl
/-! TaskDeskModel.read(I)Z -/
def mb_133_0 (J : Nat → kx_F) (d : Nat) (C : kx_C) (x0 : Option Nat) (x1 : Int32) (w : kx_H) : kx_O := x0.bind fun a1 => let w2 := hp_sI w 1800 a1 (0 : Int32);
  x0.bind fun a5 => kx_bi (C 125 [kx_r 9 (some a5), kx_i x1] w2) fun y4 w3 =>
  if y4 = 0 then (J 23 [(0, kx_r 9 x0)] [] w3)
  else (x0.bind fun a6 => (hp_R w3 1862 a6).bind fun a7 => if x1 < 0 ∨ hp_N w3 a7 ≤ x1.toNatClampNeg then none else if hp_I w3 (2 * a7 + 1) x1.toNatClampNeg = (1 : Int32) then (x0.bind fun a8 => if 0 ≤ hp_I w3 1802 a8 then (x0.bind fun a9 => (hp_R w3 1864 a9).bind fun a10 => if x1 < 0 ∨ hp_N w3 a10 ≤ x1.toNatClampNeg then none else if hp_I w3 (2 * a10 + 1) x1.toNatClampNeg < 0 then (J 64 [(0, kx_r 9 x0), (1, kx_i x1)] [] w3)
        else (x0.bind fun a13 => kx_bi (C 130 [kx_r 9 (some a13), kx_i x1, kx_i (0 : Int32)] w3) fun y12 w11 =>
          if 0 ≤ y12 then (J 64 [(0, kx_r 9 x0), (1, kx_i x1)] [] w11)
          else (J 65 [(0, kx_r 9 x0), (1, kx_i x1)] [kx_i (1 : Int32)] w11)))
      else (x0.bind fun a16 => kx_bi (C 99 [kx_r 9 (some a16), kx_i (2 : Int32)] w3) fun y15 w14 =>
        if y15 = 0 ∨ y15 = 1 then some (.inl (some (.inl y15)), w14) else none))
    else (J 23 [(0, kx_r 9 x0)] [] w3))
theorem me_133_0 {f d : Nat} {C : kx_C} {x0 : Option Nat} {x1 : Int32} {w : kx_H} : kx_ex (wm_133 d C) (f + 1) 0 [(0, kx_r 9 x0), (1, kx_i x1)] [] w = mb_133_0 (kx_ex (wm_133 d C) f) d C x0 x1 w := Eq.trans rfl rfl
theorem mE_133 {φ d : Nat} (hφ : kx_fuel = φ + 1) {x0 : Option Nat} {x1 : Int32} {w : kx_H} : kx_ev wx_M (d + 1) 133 [kx_r 9 x0, kx_i x1] w = mb_133_0 (kx_ex (wm_133 d (kx_ev wx_M d)) φ) d (kx_ev wx_M d) x0 x1 w := by
  show kx_ex (wx_M 133 d (kx_ev wx_M d)) kx_fuel 0 [(0, kx_r 9 x0), (1, kx_i x1)] [] w = _
  rw [show wx_M 133 d (kx_ev wx_M d) = wm_133 d (kx_ev wx_M d) from rfl, hφ]
  exact me_133_0
def mb_133_23 (J : Nat → kx_F) (d : Nat) (C : kx_C) (x0 : Option Nat) (w : kx_H) : kx_O := x0.bind fun a3 => kx_bi (C 99 [kx_r 9 (some a3), kx_i (1 : Int32)] w) fun y2 w1 =>
  if y2 = 0 ∨ y2 = 1 then some (.inl (some (.inl y2)), w1) else none
theorem me_133_23 {f d : Nat} {C : kx_C} {x0 : Option Nat} {w : kx_H} : kx_ex (wm_133 d C) (f + 1) 23 [(0, kx_r 9 x0)] [] w = mb_133_23 (kx_ex (wm_133 d C) f) d C x0 w := Eq.trans rfl rfl
def mb_133_64 (J : Nat → kx_F) (d : Nat) (C : kx_C) (x0 : Option Nat) (x1 : Int32) (w : kx_H) : kx_O := J 65 [(0, kx_r 9 x0), (1, kx_i x1)] [kx_i (0 : Int32)] w
theorem me_133_64 {f d : Nat} {C : kx_C} {x0 : Option Nat} {x1 : Int32} {w : kx_H} : kx_ex (wm_133 d C) (f + 1) 64 [(0, kx_r 9 x0), (1, kx_i x1)] [] w = mb_133_64 (kx_ex (wm_133 d C) f) d C x0 x1 w := Eq.trans rfl rfl
def mb_133_65 (J : Nat → kx_F) (d : Nat) (C : kx_C) (x0 : Option Nat) (x1 : Int32) (xs0 : Int32) (w : kx_H) : kx_O := if xs0 = 0 then (J 80 [(0, kx_r 9 x0), (1, kx_i x1), (2, kx_i xs0)] [] w)
  else (x0.bind fun a1 => (hp_R w 1864 a1).bind fun a2 => if x1 < 0 ∨ hp_N w a2 ≤ x1.toNatClampNeg then none else (hp_R w 1864 a1).bind fun a3 => if x1 < 0 ∨ hp_N w a3 ≤ x1.toNatClampNeg then none else let w4 := hp_sI w (2 * a3 + 1) x1.toNatClampNeg ((hp_I w (2 * a2 + 1) x1.toNatClampNeg) + (1 : Int32));
    J 80 [(0, kx_r 9 x0), (1, kx_i x1), (2, kx_i xs0)] [] w4)
theorem me_133_65 {f d : Nat} {C : kx_C} {x0 : Option Nat} {x1 : Int32} {xs0 : Int32} {w : kx_H} : kx_ex (wm_133 d C) (f + 1) 65 [(0, kx_r 9 x0), (1, kx_i x1)] [kx_i xs0] w = mb_133_65 (kx_ex (wm_133 d C) f) d C x0 x1 xs0 w := Eq.trans rfl rfl
def mb_133_80 (J : Nat → kx_F) (d : Nat) (C : kx_C) (x0 : Option Nat) (x1 : Int32) (x2 : Int32) (w : kx_H) : kx_O := x0.bind fun a3 => kx_bi (C 127 [kx_r 9 (some a3), kx_i x2, kx_i x1, kx_i (1 : Int32), kx_i (1 : Int32)] w) fun y2 w1 =>
  if y2 = 0 ∨ y2 = 1 then some (.inl (some (.inl y2)), w1) else none
theorem me_133_80 {f d : Nat} {C : kx_C} {x0 : Option Nat} {x1 : Int32} {x2 : Int32} {w : kx_H} : kx_ex (wm_133 d C) (f + 1) 80 [(0, kx_r 9 x0), (1, kx_i x1), (2, kx_i x2)] [] w = mb_133_80 (kx_ex (wm_133 d C) f) d C x0 x1 x2 w := Eq.trans rfl rfl
/-! TaskDeskModel.leave(I)V -/
def mb_134_0 (J : Nat → kx_F) (d : Nat) (C : kx_C) (x0 : Option Nat) (x1 : Int32) (w : kx_H) : kx_O := x0.bind fun a3 => kx_bi (C 125 [kx_r 9 (some a3), kx_i x1] w) fun y2 w1 =>
  if y2 = 0 then (J 25 [(0, kx_r 9 x0), (1, kx_i x1)] [kx_i (1 : Int32), kx_r 9 x0] w1)
  else (x0.bind fun a4 => if 0 ≤ hp_I w1 1802 a4 then (J 25 [(0, kx_r 9 x0), (1, kx_i x1)] [kx_i (0 : Int32), kx_r 9 x0] w1)
    else (J 25 [(0, kx_r 9 x0), (1, kx_i x1)] [kx_i (2 : Int32), kx_r 9 x0] w1))
theorem me_134_0 {f d : Nat} {C : kx_C} {x0 : Option Nat} {x1 : Int32} {w : kx_H} : kx_ex (wm_134 d C) (f + 1) 0 [(0, kx_r 9 x0), (1, kx_i x1)] [] w = mb_134_0 (kx_ex (wm_134 d C) f) d C x0 x1 w := Eq.trans rfl rfl
theorem mE_134 {φ d : Nat} (hφ : kx_fuel = φ + 1) {x0 : Option Nat} {x1 : Int32} {w : kx_H} : kx_ev wx_M (d + 1) 134 [kx_r 9 x0, kx_i x1] w = mb_134_0 (kx_ex (wm_134 d (kx_ev wx_M d)) φ) d (kx_ev wx_M d) x0 x1 w := by
  show kx_ex (wx_M 134 d (kx_ev wx_M d)) kx_fuel 0 [(0, kx_r 9 x0), (1, kx_i x1)] [] w = _
  rw [show wx_M 134 d (kx_ev wx_M d) = wm_134 d (kx_ev wx_M d) from rfl, hφ]
  exact me_134_0
def mb_134_25 (J : Nat → kx_F) (d : Nat) (C : kx_C) (x0 : Option Nat) (x1 : Int32) (xs0 : Int32) (xs1 : Option Nat) (w : kx_H) : kx_O := xs1.bind fun a1 => let w2 := hp_sI w 1800 a1 xs0;
  x0.bind fun a3 => if hp_I w2 1800 a3 ≤ 0 then (x0.bind fun a4 => (hp_R w2 1864 a4).bind fun a5 => if x1 < 0 ∨ hp_N w2 a5 ≤ x1.toNatClampNeg then none else x0.bind fun a6 => (hp_R w2 1862 a6).bind fun a7 => if x1 < 0 ∨ hp_N w2 a7 ≤ x1.toNatClampNeg then none else if hp_I w2 (2 * a7 + 1) x1.toNatClampNeg = (1 : Int32) then (if hp_I w2 (2 * a5 + 1) x1.toNatClampNeg < 0 then (J 90 [(0, kx_r 9 x0), (1, kx_i x1), (3, kx_i (hp_I w2 (2 * a7 + 1) x1.toNatClampNeg))] [] w2)
      else (J 84 [(0, kx_r 9 x0)] [] w2))
    else (if hp_I w2 (2 * a7 + 1) x1.toNatClampNeg = (4 : Int32) then (if hp_I w2 (2 * a5 + 1) x1.toNatClampNeg = (1 : Int32) then (J 90 [(0, kx_r 9 x0), (1, kx_i x1), (3, kx_i (hp_I w2 (2 * a7 + 1) x1.toNatClampNeg))] [] w2)
        else (J 84 [(0, kx_r 9 x0)] [] w2))
      else (if hp_I w2 (2 * a7 + 1) x1.toNatClampNeg = (3 : Int32) then (J 90 [(0, kx_r 9 x0), (1, kx_i x1), (3, kx_i (hp_I w2 (2 * a7 + 1) x1.toNatClampNeg))] [] w2)
        else (if hp_I w2 (2 * a5 + 1) x1.toNatClampNeg = 0 then (J 84 [(0, kx_r 9 x0)] [] w2)
          else (J 90 [(0, kx_r 9 x0), (1, kx_i x1), (3, kx_i (hp_I w2 (2 * a7 + 1) x1.toNatClampNeg))] [] w2)))))
  else (some (.inl none, w2))
theorem me_134_25 {f d : Nat} {C : kx_C} {x0 : Option Nat} {x1 : Int32} {xs0 : Int32} {xs1 : Option Nat} {w : kx_H} : kx_ex (wm_134 d C) (f + 1) 25 [(0, kx_r 9 x0), (1, kx_i x1)] [kx_i xs0, kx_r 9 xs1] w = mb_134_25 (kx_ex (wm_134 d C) f) d C x0 x1 xs0 xs1 w := Eq.trans rfl rfl
def mb_134_84 (J : Nat → kx_F) (d : Nat) (C : kx_C) (x0 : Option Nat) (w : kx_H) : kx_O := x0.bind fun a1 => let w2 := hp_sI w 1800 a1 (3 : Int32);
  some (.inl none, w2)
theorem me_134_84 {f d : Nat} {C : kx_C} {x0 : Option Nat} {w : kx_H} : kx_ex (wm_134 d C) (f + 1) 84 [(0, kx_r 9 x0)] [] w = mb_134_84 (kx_ex (wm_134 d C) f) d C x0 w := Eq.trans rfl rfl
def mb_134_90 (J : Nat → kx_F) (d : Nat) (C : kx_C) (x0 : Option Nat) (x1 : Int32) (x3 : Int32) (w : kx_H) : kx_O := if x3 = 0 then (x0.bind fun a18 => kx_bv (C 129 [kx_r 9 (some a18), kx_i x1] w) fun w16 =>
    J 155 [] [] w16)
  else (if x3 = (1 : Int32) then (x0.bind fun a15 => kx_bv (C 135 [kx_r 9 (some a15), kx_i x1] w) fun w13 =>
      J 155 [] [] w13)
    else (if x3 = (2 : Int32) then (x0.bind fun a12 => kx_bv (C 137 [kx_r 9 (some a12), kx_i x1, kx_i ((-1) : Int32)] w) fun w10 =>
        J 155 [] [] w10)
      else (if x3 = (3 : Int32) then (x0.bind fun a9 => kx_bv (C 139 [kx_r 9 (some a9), kx_i x1] w) fun w7 =>
          J 155 [] [] w7)
        else (x0.bind fun a1 => (hp_R w 1864 a1).bind fun a2 => if x1 < 0 ∨ hp_N w a2 ≤ x1.toNatClampNeg then none else let w3 := hp_sI w (2 * a2 + 1) x1.toNatClampNeg (2 : Int32);
          x0.bind fun a6 => kx_bv (C 138 [kx_r 9 (some a6), kx_i x1, kx_i (0 : Int32)] w3) fun w4 =>
          J 155 [] [] w4))))
theorem me_134_90 {f d : Nat} {C : kx_C} {x0 : Option Nat} {x1 : Int32} {x3 : Int32} {w : kx_H} : kx_ex (wm_134 d C) (f + 1) 90 [(0, kx_r 9 x0), (1, kx_i x1), (3, kx_i x3)] [] w = mb_134_90 (kx_ex (wm_134 d C) f) d C x0 x1 x3 w := Eq.trans rfl rfl
def mb_134_155 (J : Nat → kx_F) (d : Nat) (C : kx_C)  (w : kx_H) : kx_O := some (.inl none, w)
theorem me_134_155 {f d : Nat} {C : kx_C}  {w : kx_H} : kx_ex (wm_134 d C) (f + 1) 155 [] [] w = mb_134_155 (kx_ex (wm_134 d C) f) d C  w := Eq.trans rfl rfl
/-! TaskDeskModel.letReaders(I)V -/
def mb_135_0 (J : Nat → kx_F) (d : Nat) (C : kx_C) (x0 : Option Nat) (x1 : Int32) (w : kx_H) : kx_O := x0.bind fun a1 => (hp_R w 1864 a1).bind fun a2 => if x1 < 0 ∨ hp_N w a2 ≤ x1.toNatClampNeg then none else let w3 := hp_sI w (2 * a2 + 1) x1.toNatClampNeg (0 : Int32);
  x0.bind fun a6 => kx_bi (C 130 [kx_r 9 (some a6), kx_i x1, kx_i (1 : Int32)] w3) fun y5 w4 =>
  J 14 [(0, kx_r 9 x0), (1, kx_i x1), (2, kx_i y5)] [] w4
theorem me_135_0 {f d : Nat} {C : kx_C} {x0 : Option Nat} {x1 : Int32} {w : kx_H} : kx_ex (wm_135 d C) (f + 1) 0 [(0, kx_r 9 x0), (1, kx_i x1)] [] w = mb_135_0 (kx_ex (wm_135 d C) f) d C x0 x1 w := Eq.trans rfl rfl
theorem mE_135 {φ d : Nat} (hφ : kx_fuel = φ + 1) {x0 : Option Nat} {x1 : Int32} {w : kx_H} : kx_ev wx_M (d + 1) 135 [kx_r 9 x0, kx_i x1] w = mb_135_0 (kx_ex (wm_135 d (kx_ev wx_M d)) φ) d (kx_ev wx_M d) x0 x1 w := by
  show kx_ex (wx_M 135 d (kx_ev wx_M d)) kx_fuel 0 [(0, kx_r 9 x0), (1, kx_i x1)] [] w = _
  rw [show wx_M 135 d (kx_ev wx_M d) = wm_135 d (kx_ev wx_M d) from rfl, hφ]
  exact me_135_0
def mb_135_14 (J : Nat → kx_F) (d : Nat) (C : kx_C) (x0 : Option Nat) (x1 : Int32) (x2 : Int32) (w : kx_H) : kx_O := if x2 < 0 then (x0.bind fun a1 => (hp_R w 1864 a1).bind fun a2 => if x1 < 0 ∨ hp_N w a2 ≤ x1.toNatClampNeg then none else if hp_I w (2 * a2 + 1) x1.toNatClampNeg = 0 then (x0.bind fun a5 => kx_bv (C 136 [kx_r 9 (some a5), kx_i x1] w) fun w3 =>
      J 58 [] [] w3)
    else (J 58 [] [] w))
  else (x0.bind fun a6 => (hp_R w 1864 a6).bind fun a7 => if x1 < 0 ∨ hp_N w a7 ≤ x1.toNatClampNeg then none else (hp_R w 1864 a6).bind fun a8 => if x1 < 0 ∨ hp_N w a8 ≤ x1.toNatClampNeg then none else let w9 := hp_sI w (2 * a8 + 1) x1.toNatClampNeg ((hp_I w (2 * a7 + 1) x1.toNatClampNeg) + (1 : Int32));
    x0.bind fun a12 => kx_bv (C 131 [kx_r 9 (some a12), kx_i x2, kx_i (1 : Int32)] w9) fun w10 =>
    x0.bind fun a15 => kx_bi (C 130 [kx_r 9 (some a15), kx_i x1, kx_i (1 : Int32)] w10) fun y14 w13 =>
    J 14 [(0, kx_r 9 x0), (1, kx_i x1), (2, kx_i y14)] [] w13)
theorem me_135_14 {f d : Nat} {C : kx_C} {x0 : Option Nat} {x1 : Int32} {x2 : Int32} {w : kx_H} : kx_ex (wm_135 d C) (f + 1) 14 [(0, kx_r 9 x0), (1, kx_i x1), (2, kx_i x2)] [] w = mb_135_14 (kx_ex (wm_135 d C) f) d C x0 x1 x2 w := Eq.trans rfl rfl
def mb_135_58 (J : Nat → kx_F) (d : Nat) (C : kx_C)  (w : kx_H) : kx_O := some (.inl none, w)
theorem me_135_58 {f d : Nat} {C : kx_C}  {w : kx_H} : kx_ex (wm_135 d C) (f + 1) 58 [] [] w = mb_135_58 (kx_ex (wm_135 d C) f) d C  w := Eq.trans rfl rfl
/-! TaskDeskModel.letWriter(I)V -/
def mb_136_0 (J : Nat → kx_F) (d : Nat) (C : kx_C) (x0 : Option Nat) (x1 : Int32) (w : kx_H) : kx_O := x0.bind fun a3 => kx_bi (C 130 [kx_r 9 (some a3), kx_i x1, kx_i (0 : Int32)] w) fun y2 w1 =>
  if 0 ≤ y2 then (x0.bind fun a4 => (hp_R w1 1864 a4).bind fun a5 => if x1 < 0 ∨ hp_N w1 a5 ≤ x1.toNatClampNeg then none else let w6 := hp_sI w1 (2 * a5 + 1) x1.toNatClampNeg ((-1) : Int32);
    x0.bind fun a9 => kx_bv (C 131 [kx_r 9 (some a9), kx_i y2, kx_i (1 : Int32)] w6) fun w7 =>
    some (.inl none, w7))
  else (some (.inl none, w1))
theorem me_136_0 {f d : Nat} {C : kx_C} {x0 : Option Nat} {x1 : Int32} {w : kx_H} : kx_ex (wm_136 d C) (f + 1) 0 [(0, kx_r 9 x0), (1, kx_i x1)] [] w = mb_136_0 (kx_ex (wm_136 d C) f) d C x0 x1 w := Eq.trans rfl rfl
theorem mE_136 {φ d : Nat} (hφ : kx_fuel = φ + 1) {x0 : Option Nat} {x1 : Int32} {w : kx_H} : kx_ev wx_M (d + 1) 136 [kx_r 9 x0, kx_i x1] w = mb_136_0 (kx_ex (wm_136 d (kx_ev wx_M d)) φ) d (kx_ev wx_M d) x0 x1 w := by
  show kx_ex (wx_M 136 d (kx_ev wx_M d)) kx_fuel 0 [(0, kx_r 9 x0), (1, kx_i x1)] [] w = _
  rw [show wx_M 136 d (kx_ev wx_M d) = wm_136 d (kx_ev wx_M d) from rfl, hφ]
  exact me_136_0
/-! TaskDeskModel.grow(II)V -/
def mb_137_0 (J : Nat → kx_F) (d : Nat) (C : kx_C) (x0 : Option Nat) (x1 : Int32) (x2 : Int32) (w : kx_H) : kx_O := x0.bind fun a1 => (hp_R w 1864 a1).bind fun a2 => if x1 < 0 ∨ hp_N w a2 ≤ x1.toNatClampNeg then none else (hp_R w 1864 a1).bind fun a3 => if x1 < 0 ∨ hp_N w a3 ≤ x1.toNatClampNeg then none else let w4 := hp_sI w (2 * a3 + 1) x1.toNatClampNeg ((hp_I w (2 * a2 + 1) x1.toNatClampNeg) + x2);
  x0.bind fun a5 => (hp_R w4 1864 a5).bind fun a6 => if x1 < 0 ∨ hp_N w4 a6 ≤ x1.toNatClampNeg then none else if hp_I w4 (2 * a6 + 1) x1.toNatClampNeg = 0 then (x0.bind fun a9 => kx_bv (C 138 [kx_r 9 (some a9), kx_i x1, kx_i (1 : Int32)] w4) fun w7 =>
    J 25 [] [] w7)
  else (J 25 [] [] w4)
theorem me_137_0 {f d : Nat} {C : kx_C} {x0 : Option Nat} {x1 : Int32} {x2 : Int32} {w : kx_H} : kx_ex (wm_137 d C) (f + 1) 0 [(0, kx_r 9 x0), (1, kx_i x1), (2, kx_i x2)] [] w = mb_137_0 (kx_ex (wm_137 d C) f) d C x0 x1 x2 w := Eq.trans rfl rfl
theorem mE_137 {φ d : Nat} (hφ : kx_fuel = φ + 1) {x0 : Option Nat} {x1 : Int32} {x2 : Int32} {w : kx_H} : kx_ev wx_M (d + 1) 137 [kx_r 9 x0, kx_i x1, kx_i x2] w = mb_137_0 (kx_ex (wm_137 d (kx_ev wx_M d)) φ) d (kx_ev wx_M d) x0 x1 x2 w := by
  show kx_ex (wx_M 137 d (kx_ev wx_M d)) kx_fuel 0 [(0, kx_r 9 x0), (1, kx_i x1), (2, kx_i x2)] [] w = _
  rw [show wx_M 137 d (kx_ev wx_M d) = wm_137 d (kx_ev wx_M d) from rfl, hφ]
  exact me_137_0
def mb_137_25 (J : Nat → kx_F) (d : Nat) (C : kx_C)  (w : kx_H) : kx_O := some (.inl none, w)
theorem me_137_25 {f d : Nat} {C : kx_C}  {w : kx_H} : kx_ex (wm_137 d C) (f + 1) 25 [] [] w = mb_137_25 (kx_ex (wm_137 d C) f) d C  w := Eq.trans rfl rfl
/-! TaskDeskModel.letAll(IZ)V -/
def mb_138_0 (J : Nat → kx_F) (d : Nat) (C : kx_C) (x0 : Option Nat) (x1 : Int32) (x2 : Int32) (w : kx_H) : kx_O := x0.bind fun a3 => kx_bi (C 130 [kx_r 9 (some a3), kx_i x1, kx_i (2 : Int32)] w) fun y2 w1 =>
  J 7 [(0, kx_r 9 x0), (1, kx_i x1), (2, kx_i x2), (3, kx_i y2)] [] w1
theorem me_138_0 {f d : Nat} {C : kx_C} {x0 : Option Nat} {x1 : Int32} {x2 : Int32} {w : kx_H} : kx_ex (wm_138 d C) (f + 1) 0 [(0, kx_r 9 x0), (1, kx_i x1), (2, kx_i x2)] [] w = mb_138_0 (kx_ex (wm_138 d C) f) d C x0 x1 x2 w := Eq.trans rfl rfl
theorem mE_138 {φ d : Nat} (hφ : kx_fuel = φ + 1) {x0 : Option Nat} {x1 : Int32} {x2 : Int32} {w : kx_H} : kx_ev wx_M (d + 1) 138 [kx_r 9 x0, kx_i x1, kx_i x2] w = mb_138_0 (kx_ex (wm_138 d (kx_ev wx_M d)) φ) d (kx_ev wx_M d) x0 x1 x2 w := by
  show kx_ex (wx_M 138 d (kx_ev wx_M d)) kx_fuel 0 [(0, kx_r 9 x0), (1, kx_i x1), (2, kx_i x2)] [] w = _
  rw [show wx_M 138 d (kx_ev wx_M d) = wm_138 d (kx_ev wx_M d) from rfl, hφ]
  exact me_138_0
def mb_138_7 (J : Nat → kx_F) (d : Nat) (C : kx_C) (x0 : Option Nat) (x1 : Int32) (x2 : Int32) (x3 : Int32) (w : kx_H) : kx_O := if x3 < 0 then (some (.inl none, w))
  else (x0.bind fun a3 => kx_bv (C 131 [kx_r 9 (some a3), kx_i x3, kx_i x2] w) fun w1 =>
    x0.bind fun a6 => kx_bi (C 130 [kx_r 9 (some a6), kx_i x1, kx_i (2 : Int32)] w1) fun y5 w4 =>
    J 7 [(0, kx_r 9 x0), (1, kx_i x1), (2, kx_i x2), (3, kx_i y5)] [] w4)
theorem me_138_7 {f d : Nat} {C : kx_C} {x0 : Option Nat} {x1 : Int32} {x2 : Int32} {x3 : Int32} {w : kx_H} : kx_ex (wm_138 d C) (f + 1) 7 [(0, kx_r 9 x0), (1, kx_i x1), (2, kx_i x2), (3, kx_i x3)] [] w = mb_138_7 (kx_ex (wm_138 d C) f) d C x0 x1 x2 x3 w := Eq.trans rfl rfl
/-! TaskDeskModel.signal(I)V -/
def mb_139_0 (J : Nat → kx_F) (d : Nat) (C : kx_C) (x0 : Option Nat) (x1 : Int32) (w : kx_H) : kx_O := x0.bind fun a3 => kx_bi (C 130 [kx_r 9 (some a3), kx_i x1, kx_i (2 : Int32)] w) fun y2 w1 =>
  x0.bind fun a4 => (hp_R w1 1866 a4).bind fun a5 => if x1 < 0 ∨ hp_N w1 a5 ≤ x1.toNatClampNeg then none else if 0 ≤ y2 then (x0.bind fun a6 => (hp_R w1 1864 a6).bind fun a7 => if hp_I w1 (2 * a5 + 1) x1.toNatClampNeg < 0 ∨ hp_N w1 a7 ≤ (hp_I w1 (2 * a5 + 1) x1.toNatClampNeg : Int32).toNatClampNeg then none else if hp_I w1 (2 * a7 + 1) (hp_I w1 (2 * a5 + 1) x1.toNatClampNeg : Int32).toNatClampNeg = 0 then (x0.bind fun a17 => (hp_R w1 1864 a17).bind fun a18 => if hp_I w1 (2 * a5 + 1) x1.toNatClampNeg < 0 ∨ hp_N w1 a18 ≤ (hp_I w1 (2 * a5 + 1) x1.toNatClampNeg : Int32).toNatClampNeg then none else let w19 := hp_sI w1 (2 * a18 + 1) (hp_I w1 (2 * a5 + 1) x1.toNatClampNeg : Int32).toNatClampNeg (1 : Int32);
      x0.bind fun a22 => kx_bv (C 131 [kx_r 9 (some a22), kx_i y2, kx_i (1 : Int32)] w19) fun w20 =>
      some (.inl none, w20))
    else (x0.bind fun a10 => kx_bi (C 132 [kx_r 9 (some a10), kx_i y2] w1) fun y9 w8 =>
      x0.bind fun a11 => (hp_R w8 1812 a11).bind fun a12 => if y9 < 0 ∨ hp_N w8 a12 ≤ y9.toNatClampNeg then none else let w13 := hp_sI w8 (2 * a12 + 1) y9.toNatClampNeg (hp_I w1 (2 * a5 + 1) x1.toNatClampNeg);
      x0.bind fun a16 => kx_bv (C 128 [kx_r 9 (some a16), kx_i y9, kx_i (hp_I w1 (2 * a5 + 1) x1.toNatClampNeg), kx_i (0 : Int32)] w13) fun w14 =>
      some (.inl none, w14)))
  else (some (.inl none, w1))
theorem me_139_0 {f d : Nat} {C : kx_C} {x0 : Option Nat} {x1 : Int32} {w : kx_H} : kx_ex (wm_139 d C) (f + 1) 0 [(0, kx_r 9 x0), (1, kx_i x1)] [] w = mb_139_0 (kx_ex (wm_139 d C) f) d C x0 x1 w := Eq.trans rfl rfl
theorem mE_139 {φ d : Nat} (hφ : kx_fuel = φ + 1) {x0 : Option Nat} {x1 : Int32} {w : kx_H} : kx_ev wx_M (d + 1) 139 [kx_r 9 x0, kx_i x1] w = mb_139_0 (kx_ex (wm_139 d (kx_ev wx_M d)) φ) d (kx_ev wx_M d) x0 x1 w := by
  show kx_ex (wx_M 139 d (kx_ev wx_M d)) kx_fuel 0 [(0, kx_r 9 x0), (1, kx_i x1)] [] w = _
  rw [show wx_M 139 d (kx_ev wx_M d) = wm_139 d (kx_ev wx_M d) from rfl, hφ]
  exact me_139_0
/-! TaskDeskModel.change(II)V -/
def mb_140_0 (J : Nat → kx_F) (d : Nat) (C : kx_C) (x0 : Option Nat) (x1 : Int32) (x2 : Int32) (w : kx_H) : kx_O := x0.bind fun a3 => kx_bi (C 125 [kx_r 9 (some a3), kx_i x1] w) fun y2 w1 =>
  if y2 = 0 then (J 28 [(0, kx_r 9 x0), (1, kx_i x1), (2, kx_i x2)] [kx_r 9 x0] w1)
  else (x0.bind fun a4 => (hp_R w1 1862 a4).bind fun a5 => if x1 < 0 ∨ hp_N w1 a5 ≤ x1.toNatClampNeg then none else if hp_I w1 (2 * a5 + 1) x1.toNatClampNeg = 0 then (J 28 [(0, kx_r 9 x0), (1, kx_i x1), (2, kx_i x2)] [kx_r 9 x0] w1)
    else (x0.bind fun a6 => (hp_R w1 1862 a6).bind fun a7 => if x1 < 0 ∨ hp_N w1 a7 ≤ x1.toNatClampNeg then none else if hp_I w1 (2 * a7 + 1) x1.toNatClampNeg = (4 : Int32) then (J 28 [(0, kx_r 9 x0), (1, kx_i x1), (2, kx_i x2)] [kx_r 9 x0] w1)
      else (x0.bind fun a8 => if 0 ≤ hp_I w1 1802 a8 then (J 44 [(0, kx_r 9 x0), (1, kx_i x1), (2, kx_i x2)] [kx_i (0 : Int32), kx_r 9 x0] w1)
        else (J 44 [(0, kx_r 9 x0), (1, kx_i x1), (2, kx_i x2)] [kx_i (2 : Int32), kx_r 9 x0] w1))))
theorem me_140_0 {f d : Nat} {C : kx_C} {x0 : Option Nat} {x1 : Int32} {x2 : Int32} {w : kx_H} : kx_ex (wm_140 d C) (f + 1) 0 [(0, kx_r 9 x0), (1, kx_i x1), (2, kx_i x2)] [] w = mb_140_0 (kx_ex (wm_140 d C) f) d C x0 x1 x2 w := Eq.trans rfl rfl
theorem mE_140 {φ d : Nat} (hφ : kx_fuel = φ + 1) {x0 : Option Nat} {x1 : Int32} {x2 : Int32} {w : kx_H} : kx_ev wx_M (d + 1) 140 [kx_r 9 x0, kx_i x1, kx_i x2] w = mb_140_0 (kx_ex (wm_140 d (kx_ev wx_M d)) φ) d (kx_ev wx_M d) x0 x1 x2 w := by
  show kx_ex (wx_M 140 d (kx_ev wx_M d)) kx_fuel 0 [(0, kx_r 9 x0), (1, kx_i x1), (2, kx_i x2)] [] w = _
  rw [show wx_M 140 d (kx_ev wx_M d) = wm_140 d (kx_ev wx_M d) from rfl, hφ]
  exact me_140_0
def mb_140_28 (J : Nat → kx_F) (d : Nat) (C : kx_C) (x0 : Option Nat) (x1 : Int32) (x2 : Int32) (xs0 : Option Nat) (w : kx_H) : kx_O := J 44 [(0, kx_r 9 x0), (1, kx_i x1), (2, kx_i x2)] [kx_i (1 : Int32), kx_r 9 xs0] w
theorem me_140_28 {f d : Nat} {C : kx_C} {x0 : Option Nat} {x1 : Int32} {x2 : Int32} {xs0 : Option Nat} {w : kx_H} : kx_ex (wm_140 d C) (f + 1) 28 [(0, kx_r 9 x0), (1, kx_i x1), (2, kx_i x2)] [kx_r 9 xs0] w = mb_140_28 (kx_ex (wm_140 d C) f) d C x0 x1 x2 xs0 w := Eq.trans rfl rfl
def mb_140_44 (J : Nat → kx_F) (d : Nat) (C : kx_C) (x0 : Option Nat) (x1 : Int32) (x2 : Int32) (xs0 : Int32) (xs1 : Option Nat) (w : kx_H) : kx_O := xs1.bind fun a1 => let w2 := hp_sI w 1800 a1 xs0;
  x0.bind fun a3 => if hp_I w2 1800 a3 ≤ 0 then (x0.bind fun a4 => (hp_R w2 1864 a4).bind fun a5 => if x1 < 0 ∨ hp_N w2 a5 ≤ x1.toNatClampNeg then none else x0.bind fun a6 => (hp_R w2 1862 a6).bind fun a7 => if x1 < 0 ∨ hp_N w2 a7 ≤ x1.toNatClampNeg then none else if hp_I w2 (2 * a7 + 1) x1.toNatClampNeg = (1 : Int32) then (x0.bind fun a8 => (hp_R w2 1864 a8).bind fun a9 => if x1 < 0 ∨ hp_N w2 a9 ≤ x1.toNatClampNeg then none else if hp_I w2 (2 * a9 + 1) x1.toNatClampNeg ≤ 0 then (J 109 [(0, kx_r 9 x0)] [] w2)
      else (J 85 [(0, kx_r 9 x0), (1, kx_i x1), (2, kx_i x2), (3, kx_l ((Int32.toInt64 (hp_I w2 (2 * a5 + 1) x1.toNatClampNeg)) + (Int32.toInt64 x2)))] [] w2))
    else (J 85 [(0, kx_r 9 x0), (1, kx_i x1), (2, kx_i x2), (3, kx_l ((Int32.toInt64 (hp_I w2 (2 * a5 + 1) x1.toNatClampNeg)) + (Int32.toInt64 x2)))] [] w2))
  else (some (.inl none, w2))
theorem me_140_44 {f d : Nat} {C : kx_C} {x0 : Option Nat} {x1 : Int32} {x2 : Int32} {xs0 : Int32} {xs1 : Option Nat} {w : kx_H} : kx_ex (wm_140 d C) (f + 1) 44 [(0, kx_r 9 x0), (1, kx_i x1), (2, kx_i x2)] [kx_i xs0, kx_r 9 xs1] w = mb_140_44 (kx_ex (wm_140 d C) f) d C x0 x1 x2 xs0 xs1 w := Eq.trans rfl rfl
def mb_140_85 (J : Nat → kx_F) (d : Nat) (C : kx_C) (x0 : Option Nat) (x1 : Int32) (x2 : Int32) (x3 : Int64) (w : kx_H) : kx_O := x0.bind fun a1 => (hp_R w 1862 a1).bind fun a2 => if x1 < 0 ∨ hp_N w a2 ≤ x1.toNatClampNeg then none else if hp_I w (2 * a2 + 1) x1.toNatClampNeg = (2 : Int32) then (if lg_cmp x3 (0 : Int64) < 0 then (J 109 [(0, kx_r 9 x0)] [] w)
    else (if lg_cmp x3 (1000000000 : Int64) ≤ 0 then (J 115 [(0, kx_r 9 x0), (1, kx_i x1), (2, kx_i x2)] [] w)
      else (J 109 [(0, kx_r 9 x0)] [] w)))
  else (J 115 [(0, kx_r 9 x0), (1, kx_i x1), (2, kx_i x2)] [] w)
theorem me_140_85 {f d : Nat} {C : kx_C} {x0 : Option Nat} {x1 : Int32} {x2 : Int32} {x3 : Int64} {w : kx_H} : kx_ex (wm_140 d C) (f + 1) 85 [(0, kx_r 9 x0), (1, kx_i x1), (2, kx_i x2), (3, kx_l x3)] [] w = mb_140_85 (kx_ex (wm_140 d C) f) d C x0 x1 x2 x3 w := Eq.trans rfl rfl
def mb_140_109 (J : Nat → kx_F) (d : Nat) (C : kx_C) (x0 : Option Nat) (w : kx_H) : kx_O := x0.bind fun a1 => let w2 := hp_sI w 1800 a1 (3 : Int32);
  some (.inl none, w2)
theorem me_140_109 {f d : Nat} {C : kx_C} {x0 : Option Nat} {w : kx_H} : kx_ex (wm_140 d C) (f + 1) 109 [(0, kx_r 9 x0)] [] w = mb_140_109 (kx_ex (wm_140 d C) f) d C x0 w := Eq.trans rfl rfl
def mb_140_115 (J : Nat → kx_F) (d : Nat) (C : kx_C) (x0 : Option Nat) (x1 : Int32) (x2 : Int32) (w : kx_H) : kx_O := x0.bind fun a1 => (hp_R w 1862 a1).bind fun a2 => if x1 < 0 ∨ hp_N w a2 ≤ x1.toNatClampNeg then none else if hp_I w (2 * a2 + 1) x1.toNatClampNeg = (2 : Int32) then (x0.bind fun a19 => kx_bv (C 137 [kx_r 9 (some a19), kx_i x1, kx_i x2] w) fun w17 =>
    J 199 [] [] w17)
  else (x0.bind fun a3 => (hp_R w 1862 a3).bind fun a4 => if x1 < 0 ∨ hp_N w a4 ≤ x1.toNatClampNeg then none else if hp_I w (2 * a4 + 1) x1.toNatClampNeg = (1 : Int32) then (x0.bind fun a8 => (hp_R w 1864 a8).bind fun a9 => if x1 < 0 ∨ hp_N w a9 ≤ x1.toNatClampNeg then none else (hp_R w 1864 a8).bind fun a10 => if x1 < 0 ∨ hp_N w a10 ≤ x1.toNatClampNeg then none else let w11 := hp_sI w (2 * a10 + 1) x1.toNatClampNeg ((hp_I w (2 * a9 + 1) x1.toNatClampNeg) - (1 : Int32));
      x0.bind fun a12 => (hp_R w11 1864 a12).bind fun a13 => if x1 < 0 ∨ hp_N w11 a13 ≤ x1.toNatClampNeg then none else if hp_I w11 (2 * a13 + 1) x1.toNatClampNeg = 0 then (x0.bind fun a16 => kx_bv (C 136 [kx_r 9 (some a16), kx_i x1] w11) fun w14 =>
        J 199 [] [] w14)
      else (J 199 [] [] w11))
    else (x0.bind fun a7 => kx_bi (C 141 [kx_r 9 (some a7), kx_i x1] w) fun y6 w5 =>
      J 181 [(0, kx_r 9 x0), (1, kx_i x1), (5, kx_i y6), (6, kx_i (0 : Int32))] [] w5))
theorem me_140_115 {f d : Nat} {C : kx_C} {x0 : Option Nat} {x1 : Int32} {x2 : Int32} {w : kx_H} : kx_ex (wm_140 d C) (f + 1) 115 [(0, kx_r 9 x0), (1, kx_i x1), (2, kx_i x2)] [] w = mb_140_115 (kx_ex (wm_140 d C) f) d C x0 x1 x2 w := Eq.trans rfl rfl
def mb_140_181 (J : Nat → kx_F) (d : Nat) (C : kx_C) (x0 : Option Nat) (x1 : Int32) (x5 : Int32) (x6 : Int32) (w : kx_H) : kx_O := if x5 ≤ x6 then (J 199 [] [] w)
  else (x0.bind fun a3 => kx_bv (C 139 [kx_r 9 (some a3), kx_i x1] w) fun w1 =>
    J 181 [(0, kx_r 9 x0), (1, kx_i x1), (5, kx_i x5), (6, kx_i (x6 + 1))] [] w1)
theorem me_140_181 {f d : Nat} {C : kx_C} {x0 : Option Nat} {x1 : Int32} {x5 : Int32} {x6 : Int32} {w : kx_H} : kx_ex (wm_140 d C) (f + 1) 181 [(0, kx_r 9 x0), (1, kx_i x1), (5, kx_i x5), (6, kx_i x6)] [] w = mb_140_181 (kx_ex (wm_140 d C) f) d C x0 x1 x5 x6 w := Eq.trans rfl rfl
def mb_140_199 (J : Nat → kx_F) (d : Nat) (C : kx_C)  (w : kx_H) : kx_O := some (.inl none, w)
theorem me_140_199 {f d : Nat} {C : kx_C}  {w : kx_H} : kx_ex (wm_140 d C) (f + 1) 199 [] [] w = mb_140_199 (kx_ex (wm_140 d C) f) d C  w := Eq.trans rfl rfl
/-! TaskDeskModel.waitAt(I)I -/
def mb_141_0 (J : Nat → kx_F) (d : Nat) (C : kx_C) (x0 : Option Nat) (x1 : Int32) (w : kx_H) : kx_O := J 4 [(0, kx_r 9 x0), (1, kx_i x1), (2, kx_i (0 : Int32)), (3, kx_i (0 : Int32))] [] w
theorem me_141_0 {f d : Nat} {C : kx_C} {x0 : Option Nat} {x1 : Int32} {w : kx_H} : kx_ex (wm_141 d C) (f + 1) 0 [(0, kx_r 9 x0), (1, kx_i x1)] [] w = mb_141_0 (kx_ex (wm_141 d C) f) d C x0 x1 w := Eq.trans rfl rfl
theorem mE_141 {φ d : Nat} (hφ : kx_fuel = φ + 1) {x0 : Option Nat} {x1 : Int32} {w : kx_H} : kx_ev wx_M (d + 1) 141 [kx_r 9 x0, kx_i x1] w = mb_141_0 (kx_ex (wm_141 d (kx_ev wx_M d)) φ) d (kx_ev wx_M d) x0 x1 w := by
  show kx_ex (wx_M 141 d (kx_ev wx_M d)) kx_fuel 0 [(0, kx_r 9 x0), (1, kx_i x1)] [] w = _
  rw [show wx_M 141 d (kx_ev wx_M d) = wm_141 d (kx_ev wx_M d) from rfl, hφ]
  exact me_141_0
def mb_141_4 (J : Nat → kx_F) (d : Nat) (C : kx_C) (x0 : Option Nat) (x1 : Int32) (x2 : Int32) (x3 : Int32) (w : kx_H) : kx_O := x0.bind fun a1 => if hp_I w 1868 a1 ≤ x3 then (some (.inl (some (.inl x2)), w))
  else (x0.bind fun a2 => (hp_R w 1872 a2).bind fun a3 => if x3 < 0 ∨ hp_N w a3 ≤ x3.toNatClampNeg then none else if hp_I w (2 * a3 + 1) x3.toNatClampNeg = x1 then (J 28 [(0, kx_r 9 x0), (1, kx_i x1), (3, kx_i x3)] [kx_i (1 : Int32), kx_i x2] w)
    else (J 28 [(0, kx_r 9 x0), (1, kx_i x1), (3, kx_i x3)] [kx_i (0 : Int32), kx_i x2] w))
theorem me_141_4 {f d : Nat} {C : kx_C} {x0 : Option Nat} {x1 : Int32} {x2 : Int32} {x3 : Int32} {w : kx_H} : kx_ex (wm_141 d C) (f + 1) 4 [(0, kx_r 9 x0), (1, kx_i x1), (2, kx_i x2), (3, kx_i x3)] [] w = mb_141_4 (kx_ex (wm_141 d C) f) d C x0 x1 x2 x3 w := Eq.trans rfl rfl
def mb_141_28 (J : Nat → kx_F) (d : Nat) (C : kx_C) (x0 : Option Nat) (x1 : Int32) (x3 : Int32) (xs0 : Int32) (xs1 : Int32) (w : kx_H) : kx_O := J 4 [(0, kx_r 9 x0), (1, kx_i x1), (2, kx_i (xs1 + xs0)), (3, kx_i (x3 + 1))] [] w
theorem me_141_28 {f d : Nat} {C : kx_C} {x0 : Option Nat} {x1 : Int32} {x3 : Int32} {xs0 : Int32} {xs1 : Int32} {w : kx_H} : kx_ex (wm_141 d C) (f + 1) 28 [(0, kx_r 9 x0), (1, kx_i x1), (3, kx_i x3)] [kx_i xs0, kx_i xs1] w = mb_141_28 (kx_ex (wm_141 d C) f) d C x0 x1 x3 xs0 xs1 w := Eq.trans rfl rfl
/-! TaskDeskModel.current()I -/
def mb_142_0 (J : Nat → kx_F) (d : Nat) (C : kx_C) (x0 : Option Nat) (w : kx_H) : kx_O := x0.bind fun a1 => let w2 := hp_sI w 1800 a1 (0 : Int32);
  x0.bind fun a3 => some (.inl (some (.inl (hp_I w2 1802 a3))), w2)
theorem me_142_0 {f d : Nat} {C : kx_C} {x0 : Option Nat} {w : kx_H} : kx_ex (wm_142 d C) (f + 1) 0 [(0, kx_r 9 x0)] [] w = mb_142_0 (kx_ex (wm_142 d C) f) d C x0 w := Eq.trans rfl rfl
theorem mE_142 {φ d : Nat} (hφ : kx_fuel = φ + 1) {x0 : Option Nat} {w : kx_H} : kx_ev wx_M (d + 1) 142 [kx_r 9 x0] w = mb_142_0 (kx_ex (wm_142 d (kx_ev wx_M d)) φ) d (kx_ev wx_M d) x0 w := by
  show kx_ex (wx_M 142 d (kx_ev wx_M d)) kx_fuel 0 [(0, kx_r 9 x0)] [] w = _
  rw [show wx_M 142 d (kx_ev wx_M d) = wm_142 d (kx_ev wx_M d) from rfl, hφ]
  exact me_142_0
/-! TaskDeskModel.task(II)I -/
def mb_143_0 (J : Nat → kx_F) (d : Nat) (C : kx_C) (x0 : Option Nat) (x1 : Int32) (x2 : Int32) (w : kx_H) : kx_O := x0.bind fun a1 => let w2 := hp_sI w 1800 a1 (0 : Int32);
  x0.bind fun a5 => kx_bi (C 144 [kx_r 9 (some a5), kx_i x1] w2) fun y4 w3 =>
  if y4 = 0 then (J 22 [(0, kx_r 9 x0)] [] w3)
  else (if x2 < 0 then (J 22 [(0, kx_r 9 x0)] [] w3)
    else (if x2 ≤ (5 : Int32) then (if x2 = 0 then (x0.bind fun a18 => (hp_R w3 1810 a18).bind fun a19 => if x1 < 0 ∨ hp_N w3 a19 ≤ x1.toNatClampNeg then none else some (.inl (some (.inl (hp_I w3 (2 * a19 + 1) x1.toNatClampNeg))), w3))
        else (if x2 = (1 : Int32) then (x0.bind fun a12 => (hp_R w3 1810 a12).bind fun a13 => if x1 < 0 ∨ hp_N w3 a13 ≤ x1.toNatClampNeg then none else if hp_I w3 (2 * a13 + 1) x1.toNatClampNeg = (2 : Int32) then (J 75 [(0, kx_r 9 x0), (1, kx_i x1)] [] w3)
            else (x0.bind fun a14 => (hp_R w3 1810 a14).bind fun a15 => if x1 < 0 ∨ hp_N w3 a15 ≤ x1.toNatClampNeg then none else if hp_I w3 (2 * a15 + 1) x1.toNatClampNeg = (3 : Int32) then (J 75 [(0, kx_r 9 x0), (1, kx_i x1)] [] w3)
              else (x0.bind fun a16 => (hp_R w3 1810 a16).bind fun a17 => if x1 < 0 ∨ hp_N w3 a17 ≤ x1.toNatClampNeg then none else if hp_I w3 (2 * a17 + 1) x1.toNatClampNeg = (6 : Int32) then (J 75 [(0, kx_r 9 x0), (1, kx_i x1)] [] w3)
                else (J 85 [] [kx_i ((-1) : Int32)] w3))))
          else (if (5 : Int32) ≤ x2 then (J 144 [(0, kx_r 9 x0), (1, kx_i x1), (3, kx_i (0 : Int32))] [] w3)
            else (if x2 = (2 : Int32) then (x0.bind fun a10 => (hp_R w3 1818 a10).bind fun a11 => if x1 < 0 ∨ hp_N w3 a11 ≤ x1.toNatClampNeg then none else J 141 [] [kx_i (hp_I w3 (2 * a11 + 1) x1.toNatClampNeg)] w3)
              else (if x2 = (3 : Int32) then (x0.bind fun a8 => (hp_R w3 1816 a8).bind fun a9 => if x1 < 0 ∨ hp_N w3 a9 ≤ x1.toNatClampNeg then none else if kx_b (hp_B w3 (2 * a9 + 1) x1.toNatClampNeg) = 0 then (J 141 [] [kx_i (0 : Int32)] w3)
                  else (J 141 [] [kx_i (1 : Int32)] w3))
                else (x0.bind fun a6 => (hp_R w3 1820 a6).bind fun a7 => if x1 < 0 ∨ hp_N w3 a7 ≤ x1.toNatClampNeg then none else if kx_b (hp_B w3 (2 * a7 + 1) x1.toNatClampNeg) = 0 then (J 141 [] [kx_i (0 : Int32)] w3)
                  else (J 141 [] [kx_i (1 : Int32)] w3)))))))
      else (J 22 [(0, kx_r 9 x0)] [] w3)))
theorem me_143_0 {f d : Nat} {C : kx_C} {x0 : Option Nat} {x1 : Int32} {x2 : Int32} {w : kx_H} : kx_ex (wm_143 d C) (f + 1) 0 [(0, kx_r 9 x0), (1, kx_i x1), (2, kx_i x2)] [] w = mb_143_0 (kx_ex (wm_143 d C) f) d C x0 x1 x2 w := Eq.trans rfl rfl
theorem mE_143 {φ d : Nat} (hφ : kx_fuel = φ + 1) {x0 : Option Nat} {x1 : Int32} {x2 : Int32} {w : kx_H} : kx_ev wx_M (d + 1) 143 [kx_r 9 x0, kx_i x1, kx_i x2] w = mb_143_0 (kx_ex (wm_143 d (kx_ev wx_M d)) φ) d (kx_ev wx_M d) x0 x1 x2 w := by
  show kx_ex (wx_M 143 d (kx_ev wx_M d)) kx_fuel 0 [(0, kx_r 9 x0), (1, kx_i x1), (2, kx_i x2)] [] w = _
  rw [show wx_M 143 d (kx_ev wx_M d) = wm_143 d (kx_ev wx_M d) from rfl, hφ]
  exact me_143_0
def mb_143_22 (J : Nat → kx_F) (d : Nat) (C : kx_C) (x0 : Option Nat) (w : kx_H) : kx_O := x0.bind fun a3 => kx_bi (C 91 [kx_r 9 (some a3), kx_i (1 : Int32)] w) fun y2 w1 =>
  some (.inl (some (.inl y2)), w1)
theorem me_143_22 {f d : Nat} {C : kx_C} {x0 : Option Nat} {w : kx_H} : kx_ex (wm_143 d C) (f + 1) 22 [(0, kx_r 9 x0)] [] w = mb_143_22 (kx_ex (wm_143 d C) f) d C x0 w := Eq.trans rfl rfl
def mb_143_75 (J : Nat → kx_F) (d : Nat) (C : kx_C) (x0 : Option Nat) (x1 : Int32) (w : kx_H) : kx_O := x0.bind fun a1 => (hp_R w 1812 a1).bind fun a2 => if x1 < 0 ∨ hp_N w a2 ≤ x1.toNatClampNeg then none else J 85 [] [kx_i (hp_I w (2 * a2 + 1) x1.toNatClampNeg)] w
theorem me_143_75 {f d : Nat} {C : kx_C} {x0 : Option Nat} {x1 : Int32} {w : kx_H} : kx_ex (wm_143 d C) (f + 1) 75 [(0, kx_r 9 x0), (1, kx_i x1)] [] w = mb_143_75 (kx_ex (wm_143 d C) f) d C x0 x1 w := Eq.trans rfl rfl
def mb_143_85 (J : Nat → kx_F) (d : Nat) (C : kx_C) (xs0 : Int32) (w : kx_H) : kx_O := some (.inl (some (.inl xs0)), w)
theorem me_143_85 {f d : Nat} {C : kx_C} {xs0 : Int32} {w : kx_H} : kx_ex (wm_143 d C) (f + 1) 85 [] [kx_i xs0] w = mb_143_85 (kx_ex (wm_143 d C) f) d C xs0 w := Eq.trans rfl rfl
def mb_143_141 (J : Nat → kx_F) (d : Nat) (C : kx_C) (xs0 : Int32) (w : kx_H) : kx_O := some (.inl (some (.inl xs0)), w)
theorem me_143_141 {f d : Nat} {C : kx_C} {xs0 : Int32} {w : kx_H} : kx_ex (wm_143 d C) (f + 1) 141 [] [kx_i xs0] w = mb_143_141 (kx_ex (wm_143 d C) f) d C xs0 w := Eq.trans rfl rfl
def mb_143_144 (J : Nat → kx_F) (d : Nat) (C : kx_C) (x0 : Option Nat) (x1 : Int32) (x3 : Int32) (w : kx_H) : kx_O := x0.bind fun a1 => if hp_I w 1822 a1 ≤ x3 then (some (.inl (some (.inl ((-1) : Int32))), w))
  else (x0.bind fun a2 => (hp_R w 1824 a2).bind fun a3 => if x3 < 0 ∨ hp_N w a3 ≤ x3.toNatClampNeg then none else if hp_I w (2 * a3 + 1) x3.toNatClampNeg = x1 then (some (.inl (some (.inl x3)), w))
    else (J 144 [(0, kx_r 9 x0), (1, kx_i x1), (3, kx_i (x3 + 1))] [] w))
theorem me_143_144 {f d : Nat} {C : kx_C} {x0 : Option Nat} {x1 : Int32} {x3 : Int32} {w : kx_H} : kx_ex (wm_143 d C) (f + 1) 144 [(0, kx_r 9 x0), (1, kx_i x1), (3, kx_i x3)] [] w = mb_143_144 (kx_ex (wm_143 d C) f) d C x0 x1 x3 w := Eq.trans rfl rfl
/-! TaskDeskModel.isTask(I)Z -/
def mb_144_0 (J : Nat → kx_F) (d : Nat) (C : kx_C) (x0 : Option Nat) (x1 : Int32) (w : kx_H) : kx_O := if x1 < 0 then (J 24 [] [] w)
  else (if (256 : Int32) ≤ x1 then (J 24 [] [] w)
    else (x0.bind fun a1 => (hp_R w 1808 a1).bind fun a2 => if x1 < 0 ∨ hp_N w a2 ≤ x1.toNatClampNeg then none else if kx_b (hp_B w (2 * a2 + 1) x1.toNatClampNeg) = 0 then (J 24 [] [] w)
      else (J 25 [] [kx_i (1 : Int32)] w)))
theorem me_144_0 {f d : Nat} {C : kx_C} {x0 : Option Nat} {x1 : Int32} {w : kx_H} : kx_ex (wm_144 d C) (f + 1) 0 [(0, kx_r 9 x0), (1, kx_i x1)] [] w = mb_144_0 (kx_ex (wm_144 d C) f) d C x0 x1 w := Eq.trans rfl rfl
theorem mE_144 {φ d : Nat} (hφ : kx_fuel = φ + 1) {x0 : Option Nat} {x1 : Int32} {w : kx_H} : kx_ev wx_M (d + 1) 144 [kx_r 9 x0, kx_i x1] w = mb_144_0 (kx_ex (wm_144 d (kx_ev wx_M d)) φ) d (kx_ev wx_M d) x0 x1 w := by
  show kx_ex (wx_M 144 d (kx_ev wx_M d)) kx_fuel 0 [(0, kx_r 9 x0), (1, kx_i x1)] [] w = _
  rw [show wx_M 144 d (kx_ev wx_M d) = wm_144 d (kx_ev wx_M d) from rfl, hφ]
  exact me_144_0
def mb_144_24 (J : Nat → kx_F) (d : Nat) (C : kx_C)  (w : kx_H) : kx_O := J 25 [] [kx_i (0 : Int32)] w
theorem me_144_24 {f d : Nat} {C : kx_C}  {w : kx_H} : kx_ex (wm_144 d C) (f + 1) 24 [] [] w = mb_144_24 (kx_ex (wm_144 d C) f) d C  w := Eq.trans rfl rfl
def mb_144_25 (J : Nat → kx_F) (d : Nat) (C : kx_C) (xs0 : Int32) (w : kx_H) : kx_O := if xs0 = 0 ∨ xs0 = 1 then some (.inl (some (.inl xs0)), w) else none
theorem me_144_25 {f d : Nat} {C : kx_C} {xs0 : Int32} {w : kx_H} : kx_ex (wm_144 d C) (f + 1) 25 [] [kx_i xs0] w = mb_144_25 (kx_ex (wm_144 d C) f) d C xs0 w := Eq.trans rfl rfl
/-! TaskDeskModel.outcome(I)J -/
def mb_145_0 (J : Nat → kx_F) (d : Nat) (C : kx_C) (x0 : Option Nat) (x1 : Int32) (w : kx_H) : kx_O := x0.bind fun a1 => let w2 := hp_sI w 1800 a1 (0 : Int32);
  x0.bind fun a5 => kx_bi (C 144 [kx_r 9 (some a5), kx_i x1] w2) fun y4 w3 =>
  if y4 = 0 then (x0.bind fun a8 => kx_bi (C 91 [kx_r 9 (some a8), kx_i (1 : Int32)] w3) fun y7 w6 =>
    J 28 [] [kx_l (Int32.toInt64 y7)] w6)
  else (x0.bind fun a9 => (hp_R w3 1814 a9).bind fun a10 => if x1 < 0 ∨ hp_N w3 a10 ≤ x1.toNatClampNeg then none else J 28 [] [kx_l (hp_L w3 (2 * a10 + 1) x1.toNatClampNeg)] w3)
theorem me_145_0 {f d : Nat} {C : kx_C} {x0 : Option Nat} {x1 : Int32} {w : kx_H} : kx_ex (wm_145 d C) (f + 1) 0 [(0, kx_r 9 x0), (1, kx_i x1)] [] w = mb_145_0 (kx_ex (wm_145 d C) f) d C x0 x1 w := Eq.trans rfl rfl
theorem mE_145 {φ d : Nat} (hφ : kx_fuel = φ + 1) {x0 : Option Nat} {x1 : Int32} {w : kx_H} : kx_ev wx_M (d + 1) 145 [kx_r 9 x0, kx_i x1] w = mb_145_0 (kx_ex (wm_145 d (kx_ev wx_M d)) φ) d (kx_ev wx_M d) x0 x1 w := by
  show kx_ex (wx_M 145 d (kx_ev wx_M d)) kx_fuel 0 [(0, kx_r 9 x0), (1, kx_i x1)] [] w = _
  rw [show wx_M 145 d (kx_ev wx_M d) = wm_145 d (kx_ev wx_M d) from rfl, hφ]
  exact me_145_0
def mb_145_28 (J : Nat → kx_F) (d : Nat) (C : kx_C) (xs0 : Int64) (w : kx_H) : kx_O := some (.inl (some (.inr (.inl xs0))), w)
theorem me_145_28 {f d : Nat} {C : kx_C} {xs0 : Int64} {w : kx_H} : kx_ex (wm_145 d C) (f + 1) 28 [] [kx_l xs0] w = mb_145_28 (kx_ex (wm_145 d C) f) d C xs0 w := Eq.trans rfl rfl
/-! TaskDeskModel.look(II)I -/
def mb_146_0 (J : Nat → kx_F) (d : Nat) (C : kx_C) (x0 : Option Nat) (x1 : Int32) (x2 : Int32) (w : kx_H) : kx_O := x0.bind fun a1 => let w2 := hp_sI w 1800 a1 (0 : Int32);
  x0.bind fun a5 => kx_bi (C 93 [kx_r 9 (some a5), kx_i x1] w2) fun y4 w3 =>
  if y4 = 0 then (J 22 [(0, kx_r 9 x0)] [] w3)
  else (if x2 < 0 then (J 22 [(0, kx_r 9 x0)] [] w3)
    else (if x2 ≤ (4 : Int32) then (if (2 : Int32) ≤ x2 then (if x2 = (4 : Int32) then (x0.bind fun a6 => (hp_R w3 1828 a6).bind fun a7 => if x1 < 0 ∨ hp_N w3 a7 ≤ x1.toNatClampNeg then none else if kx_b (hp_B w3 (2 * a7 + 1) x1.toNatClampNeg) = 0 then (J 71 [] [kx_i (0 : Int32)] w3)
            else (J 71 [] [kx_i (1 : Int32)] w3))
          else (J 77 [(0, kx_r 9 x0), (1, kx_i x1), (2, kx_i x2), (3, kx_i (0 : Int32)), (4, kx_i (0 : Int32))] [] w3))
        else (if x2 = 0 then (x0.bind fun a12 => kx_bi (C 95 [kx_r 9 (some a12), kx_i x1] w3) fun y11 w10 =>
            J 51 [] [kx_i y11] w10)
          else (x0.bind fun a8 => (hp_R w3 1830 a8).bind fun a9 => if x1 < 0 ∨ hp_N w3 a9 ≤ x1.toNatClampNeg then none else J 51 [] [kx_i (hp_I w3 (2 * a9 + 1) x1.toNatClampNeg)] w3)))
      else (J 22 [(0, kx_r 9 x0)] [] w3)))
theorem me_146_0 {f d : Nat} {C : kx_C} {x0 : Option Nat} {x1 : Int32} {x2 : Int32} {w : kx_H} : kx_ex (wm_146 d C) (f + 1) 0 [(0, kx_r 9 x0), (1, kx_i x1), (2, kx_i x2)] [] w = mb_146_0 (kx_ex (wm_146 d C) f) d C x0 x1 x2 w := Eq.trans rfl rfl
theorem mE_146 {φ d : Nat} (hφ : kx_fuel = φ + 1) {x0 : Option Nat} {x1 : Int32} {x2 : Int32} {w : kx_H} : kx_ev wx_M (d + 1) 146 [kx_r 9 x0, kx_i x1, kx_i x2] w = mb_146_0 (kx_ex (wm_146 d (kx_ev wx_M d)) φ) d (kx_ev wx_M d) x0 x1 x2 w := by
  show kx_ex (wx_M 146 d (kx_ev wx_M d)) kx_fuel 0 [(0, kx_r 9 x0), (1, kx_i x1), (2, kx_i x2)] [] w = _
  rw [show wx_M 146 d (kx_ev wx_M d) = wm_146 d (kx_ev wx_M d) from rfl, hφ]
  exact me_146_0
def mb_146_22 (J : Nat → kx_F) (d : Nat) (C : kx_C) (x0 : Option Nat) (w : kx_H) : kx_O := x0.bind fun a3 => kx_bi (C 91 [kx_r 9 (some a3), kx_i (1 : Int32)] w) fun y2 w1 =>
  some (.inl (some (.inl y2)), w1)
theorem me_146_22 {f d : Nat} {C : kx_C} {x0 : Option Nat} {w : kx_H} : kx_ex (wm_146 d C) (f + 1) 22 [(0, kx_r 9 x0)] [] w = mb_146_22 (kx_ex (wm_146 d C) f) d C x0 w := Eq.trans rfl rfl
def mb_146_51 (J : Nat → kx_F) (d : Nat) (C : kx_C) (xs0 : Int32) (w : kx_H) : kx_O := some (.inl (some (.inl xs0)), w)
theorem me_146_51 {f d : Nat} {C : kx_C} {xs0 : Int32} {w : kx_H} : kx_ex (wm_146 d C) (f + 1) 51 [] [kx_i xs0] w = mb_146_51 (kx_ex (wm_146 d C) f) d C xs0 w := Eq.trans rfl rfl
def mb_146_71 (J : Nat → kx_F) (d : Nat) (C : kx_C) (xs0 : Int32) (w : kx_H) : kx_O := some (.inl (some (.inl xs0)), w)
theorem me_146_71 {f d : Nat} {C : kx_C} {xs0 : Int32} {w : kx_H} : kx_ex (wm_146 d C) (f + 1) 71 [] [kx_i xs0] w = mb_146_71 (kx_ex (wm_146 d C) f) d C xs0 w := Eq.trans rfl rfl
def mb_146_77 (J : Nat → kx_F) (d : Nat) (C : kx_C) (x0 : Option Nat) (x1 : Int32) (x2 : Int32) (x3 : Int32) (x4 : Int32) (w : kx_H) : kx_O := x0.bind fun a1 => if hp_I w 1840 a1 ≤ x4 then (some (.inl (some (.inl x3)), w))
  else (x0.bind fun a2 => (hp_R w 1844 a2).bind fun a3 => if x4 < 0 ∨ hp_N w a3 ≤ x4.toNatClampNeg then none else if hp_I w (2 * a3 + 1) x4.toNatClampNeg = x1 then (x0.bind fun a4 => (hp_R w 1846 a4).bind fun a5 => if x4 < 0 ∨ hp_N w a5 ≤ x4.toNatClampNeg then none else if x2 = (2 : Int32) then (J 115 [(0, kx_r 9 x0), (1, kx_i x1), (2, kx_i x2), (4, kx_i x4)] [kx_i (1 : Int32), kx_i (kx_b (hp_B w (2 * a5 + 1) x4.toNatClampNeg)), kx_i x3] w)
      else (J 115 [(0, kx_r 9 x0), (1, kx_i x1), (2, kx_i x2), (4, kx_i x4)] [kx_i (0 : Int32), kx_i (kx_b (hp_B w (2 * a5 + 1) x4.toNatClampNeg)), kx_i x3] w))
    else (J 122 [(0, kx_r 9 x0), (1, kx_i x1), (2, kx_i x2), (4, kx_i x4)] [kx_i x3] w))
theorem me_146_77 {f d : Nat} {C : kx_C} {x0 : Option Nat} {x1 : Int32} {x2 : Int32} {x3 : Int32} {x4 : Int32} {w : kx_H} : kx_ex (wm_146 d C) (f + 1) 77 [(0, kx_r 9 x0), (1, kx_i x1), (2, kx_i x2), (3, kx_i x3), (4, kx_i x4)] [] w = mb_146_77 (kx_ex (wm_146 d C) f) d C x0 x1 x2 x3 x4 w := Eq.trans rfl rfl
def mb_146_115 (J : Nat → kx_F) (d : Nat) (C : kx_C) (x0 : Option Nat) (x1 : Int32) (x2 : Int32) (x4 : Int32) (xs0 : Int32) (xs1 : Int32) (xs2 : Int32) (w : kx_H) : kx_O := if xs1 = xs0 then (J 123 [(0, kx_r 9 x0), (1, kx_i x1), (2, kx_i x2), (4, kx_i x4)] [kx_i (1 : Int32), kx_i xs2] w)
  else (J 122 [(0, kx_r 9 x0), (1, kx_i x1), (2, kx_i x2), (4, kx_i x4)] [kx_i xs2] w)
theorem me_146_115 {f d : Nat} {C : kx_C} {x0 : Option Nat} {x1 : Int32} {x2 : Int32} {x4 : Int32} {xs0 : Int32} {xs1 : Int32} {xs2 : Int32} {w : kx_H} : kx_ex (wm_146 d C) (f + 1) 115 [(0, kx_r 9 x0), (1, kx_i x1), (2, kx_i x2), (4, kx_i x4)] [kx_i xs0, kx_i xs1, kx_i xs2] w = mb_146_115 (kx_ex (wm_146 d C) f) d C x0 x1 x2 x4 xs0 xs1 xs2 w := Eq.trans rfl rfl
def mb_146_122 (J : Nat → kx_F) (d : Nat) (C : kx_C) (x0 : Option Nat) (x1 : Int32) (x2 : Int32) (x4 : Int32) (xs0 : Int32) (w : kx_H) : kx_O := J 123 [(0, kx_r 9 x0), (1, kx_i x1), (2, kx_i x2), (4, kx_i x4)] [kx_i (0 : Int32), kx_i xs0] w
theorem me_146_122 {f d : Nat} {C : kx_C} {x0 : Option Nat} {x1 : Int32} {x2 : Int32} {x4 : Int32} {xs0 : Int32} {w : kx_H} : kx_ex (wm_146 d C) (f + 1) 122 [(0, kx_r 9 x0), (1, kx_i x1), (2, kx_i x2), (4, kx_i x4)] [kx_i xs0] w = mb_146_122 (kx_ex (wm_146 d C) f) d C x0 x1 x2 x4 xs0 w := Eq.trans rfl rfl
def mb_146_123 (J : Nat → kx_F) (d : Nat) (C : kx_C) (x0 : Option Nat) (x1 : Int32) (x2 : Int32) (x4 : Int32) (xs0 : Int32) (xs1 : Int32) (w : kx_H) : kx_O := J 77 [(0, kx_r 9 x0), (1, kx_i x1), (2, kx_i x2), (3, kx_i (xs1 + xs0)), (4, kx_i (x4 + 1))] [] w
theorem me_146_123 {f d : Nat} {C : kx_C} {x0 : Option Nat} {x1 : Int32} {x2 : Int32} {x4 : Int32} {xs0 : Int32} {xs1 : Int32} {w : kx_H} : kx_ex (wm_146 d C) (f + 1) 123 [(0, kx_r 9 x0), (1, kx_i x1), (2, kx_i x2), (4, kx_i x4)] [kx_i xs0, kx_i xs1] w = mb_146_123 (kx_ex (wm_146 d C) f) d C x0 x1 x2 x4 xs0 xs1 w := Eq.trans rfl rfl
/-! TaskDeskModel.watch(II)I -/
def mb_147_0 (J : Nat → kx_F) (d : Nat) (C : kx_C) (x0 : Option Nat) (x1 : Int32) (x2 : Int32) (w : kx_H) : kx_O := x0.bind fun a1 => let w2 := hp_sI w 1800 a1 (0 : Int32);
  x0.bind fun a5 => kx_bi (C 125 [kx_r 9 (some a5), kx_i x1] w2) fun y4 w3 =>
  if y4 = 0 then (J 22 [(0, kx_r 9 x0)] [] w3)
  else (if x2 < 0 then (J 22 [(0, kx_r 9 x0)] [] w3)
    else (if x2 ≤ (2 : Int32) then (if x2 = 0 then (x0.bind fun a11 => (hp_R w3 1862 a11).bind fun a12 => if x1 < 0 ∨ hp_N w3 a12 ≤ x1.toNatClampNeg then none else J 60 [] [kx_i (hp_I w3 (2 * a12 + 1) x1.toNatClampNeg)] w3)
        else (if x2 = (1 : Int32) then (x0.bind fun a9 => (hp_R w3 1864 a9).bind fun a10 => if x1 < 0 ∨ hp_N w3 a10 ≤ x1.toNatClampNeg then none else J 60 [] [kx_i (hp_I w3 (2 * a10 + 1) x1.toNatClampNeg)] w3)
          else (x0.bind fun a8 => kx_bi (C 141 [kx_r 9 (some a8), kx_i x1] w3) fun y7 w6 =>
            J 60 [] [kx_i y7] w6)))
      else (J 22 [(0, kx_r 9 x0)] [] w3)))
theorem me_147_0 {f d : Nat} {C : kx_C} {x0 : Option Nat} {x1 : Int32} {x2 : Int32} {w : kx_H} : kx_ex (wm_147 d C) (f + 1) 0 [(0, kx_r 9 x0), (1, kx_i x1), (2, kx_i x2)] [] w = mb_147_0 (kx_ex (wm_147 d C) f) d C x0 x1 x2 w := Eq.trans rfl rfl
theorem mE_147 {φ d : Nat} (hφ : kx_fuel = φ + 1) {x0 : Option Nat} {x1 : Int32} {x2 : Int32} {w : kx_H} : kx_ev wx_M (d + 1) 147 [kx_r 9 x0, kx_i x1, kx_i x2] w = mb_147_0 (kx_ex (wm_147 d (kx_ev wx_M d)) φ) d (kx_ev wx_M d) x0 x1 x2 w := by
  show kx_ex (wx_M 147 d (kx_ev wx_M d)) kx_fuel 0 [(0, kx_r 9 x0), (1, kx_i x1), (2, kx_i x2)] [] w = _
  rw [show wx_M 147 d (kx_ev wx_M d) = wm_147 d (kx_ev wx_M d) from rfl, hφ]
  exact me_147_0
def mb_147_22 (J : Nat → kx_F) (d : Nat) (C : kx_C) (x0 : Option Nat) (w : kx_H) : kx_O := x0.bind fun a3 => kx_bi (C 91 [kx_r 9 (some a3), kx_i (1 : Int32)] w) fun y2 w1 =>
  some (.inl (some (.inl y2)), w1)
theorem me_147_22 {f d : Nat} {C : kx_C} {x0 : Option Nat} {w : kx_H} : kx_ex (wm_147 d C) (f + 1) 22 [(0, kx_r 9 x0)] [] w = mb_147_22 (kx_ex (wm_147 d C) f) d C x0 w := Eq.trans rfl rfl
def mb_147_60 (J : Nat → kx_F) (d : Nat) (C : kx_C) (xs0 : Int32) (w : kx_H) : kx_O := some (.inl (some (.inl xs0)), w)
theorem me_147_60 {f d : Nat} {C : kx_C} {xs0 : Int32} {w : kx_H} : kx_ex (wm_147 d C) (f + 1) 60 [] [kx_i xs0] w = mb_147_60 (kx_ex (wm_147 d C) f) d C xs0 w := Eq.trans rfl rfl
/-! TaskDeskModel.clock()J -/
def mb_148_0 (J : Nat → kx_F) (d : Nat) (C : kx_C) (x0 : Option Nat) (w : kx_H) : kx_O := x0.bind fun a1 => let w2 := hp_sI w 1800 a1 (0 : Int32);
  x0.bind fun a3 => some (.inl (some (.inr (.inl (hp_L w2 1806 a3)))), w2)
theorem me_148_0 {f d : Nat} {C : kx_C} {x0 : Option Nat} {w : kx_H} : kx_ex (wm_148 d C) (f + 1) 0 [(0, kx_r 9 x0)] [] w = mb_148_0 (kx_ex (wm_148 d C) f) d C x0 w := Eq.trans rfl rfl
theorem mE_148 {φ d : Nat} (hφ : kx_fuel = φ + 1) {x0 : Option Nat} {w : kx_H} : kx_ev wx_M (d + 1) 148 [kx_r 9 x0] w = mb_148_0 (kx_ex (wm_148 d (kx_ev wx_M d)) φ) d (kx_ev wx_M d) x0 w := by
  show kx_ex (wx_M 148 d (kx_ev wx_M d)) kx_fuel 0 [(0, kx_r 9 x0)] [] w = _
  rw [show wx_M 148 d (kx_ev wx_M d) = wm_148 d (kx_ev wx_M d) from rfl, hφ]
  exact me_148_0
/-! TaskDeskModel.count(I)I -/
def mb_149_0 (J : Nat → kx_F) (d : Nat) (C : kx_C) (x0 : Option Nat) (x1 : Int32) (w : kx_H) : kx_O := x0.bind fun a1 => let w2 := hp_sI w 1800 a1 (0 : Int32);
  if x1 = 0 then (x0.bind fun a5 => kx_bi (C 150 [kx_r 9 (some a5)] w2) fun y4 w3 =>
    some (.inl (some (.inl y4)), w3))
  else if x1 = 1 then (x0.bind fun a6 => some (.inl (some (.inl (hp_I w2 1822 a6))), w2))
  else if x1 = 2 then (x0.bind fun a9 => kx_bi (C 151 [kx_r 9 (some a9)] w2) fun y8 w7 =>
    some (.inl (some (.inl y8)), w7))
  else if x1 = 3 then (x0.bind fun a10 => some (.inl (some (.inl (hp_I w2 1832 a10))), w2))
  else if x1 = 4 then (x0.bind fun a11 => some (.inl (some (.inl (hp_I w2 1860 a11))), w2))
  else if x1 = 5 then (x0.bind fun a12 => some (.inl (some (.inl (hp_I w2 1882 a12))), w2))
  else if x1 = 6 then (x0.bind fun a13 => some (.inl (some (.inl (hp_I w2 1852 a13))), w2))
  else if x1 = 7 then (x0.bind fun a14 => some (.inl (some (.inl (hp_I w2 1804 a14))), w2))
  else (some (.inl (some (.inl ((-1) : Int32))), w2))
theorem me_149_0 {f d : Nat} {C : kx_C} {x0 : Option Nat} {x1 : Int32} {w : kx_H} : kx_ex (wm_149 d C) (f + 1) 0 [(0, kx_r 9 x0), (1, kx_i x1)] [] w = mb_149_0 (kx_ex (wm_149 d C) f) d C x0 x1 w := Eq.trans rfl rfl
theorem mE_149 {φ d : Nat} (hφ : kx_fuel = φ + 1) {x0 : Option Nat} {x1 : Int32} {w : kx_H} : kx_ev wx_M (d + 1) 149 [kx_r 9 x0, kx_i x1] w = mb_149_0 (kx_ex (wm_149 d (kx_ev wx_M d)) φ) d (kx_ev wx_M d) x0 x1 w := by
  show kx_ex (wx_M 149 d (kx_ev wx_M d)) kx_fuel 0 [(0, kx_r 9 x0), (1, kx_i x1)] [] w = _
  rw [show wx_M 149 d (kx_ev wx_M d) = wm_149 d (kx_ev wx_M d) from rfl, hφ]
  exact me_149_0
/-! TaskDeskModel.living()I -/
def mb_150_0 (J : Nat → kx_F) (d : Nat) (C : kx_C) (x0 : Option Nat) (w : kx_H) : kx_O := J 4 [(0, kx_r 9 x0), (1, kx_i (0 : Int32)), (2, kx_i (0 : Int32))] [] w
theorem me_150_0 {f d : Nat} {C : kx_C} {x0 : Option Nat} {w : kx_H} : kx_ex (wm_150 d C) (f + 1) 0 [(0, kx_r 9 x0)] [] w = mb_150_0 (kx_ex (wm_150 d C) f) d C x0 w := Eq.trans rfl rfl
theorem mE_150 {φ d : Nat} (hφ : kx_fuel = φ + 1) {x0 : Option Nat} {w : kx_H} : kx_ev wx_M (d + 1) 150 [kx_r 9 x0] w = mb_150_0 (kx_ex (wm_150 d (kx_ev wx_M d)) φ) d (kx_ev wx_M d) x0 w := by
  show kx_ex (wx_M 150 d (kx_ev wx_M d)) kx_fuel 0 [(0, kx_r 9 x0)] [] w = _
  rw [show wx_M 150 d (kx_ev wx_M d) = wm_150 d (kx_ev wx_M d) from rfl, hφ]
  exact me_150_0
def mb_150_4 (J : Nat → kx_F) (d : Nat) (C : kx_C) (x0 : Option Nat) (x1 : Int32) (x2 : Int32) (w : kx_H) : kx_O := if (256 : Int32) ≤ x2 then (some (.inl (some (.inl x1)), w))
  else (x0.bind fun a1 => (hp_R w 1808 a1).bind fun a2 => if x2 < 0 ∨ hp_N w a2 ≤ x2.toNatClampNeg then none else if kx_b (hp_B w (2 * a2 + 1) x2.toNatClampNeg) = 0 then (J 26 [(0, kx_r 9 x0), (2, kx_i x2)] [kx_i (0 : Int32), kx_i x1] w)
    else (J 26 [(0, kx_r 9 x0), (2, kx_i x2)] [kx_i (1 : Int32), kx_i x1] w))
theorem me_150_4 {f d : Nat} {C : kx_C} {x0 : Option Nat} {x1 : Int32} {x2 : Int32} {w : kx_H} : kx_ex (wm_150 d C) (f + 1) 4 [(0, kx_r 9 x0), (1, kx_i x1), (2, kx_i x2)] [] w = mb_150_4 (kx_ex (wm_150 d C) f) d C x0 x1 x2 w := Eq.trans rfl rfl
def mb_150_26 (J : Nat → kx_F) (d : Nat) (C : kx_C) (x0 : Option Nat) (x2 : Int32) (xs0 : Int32) (xs1 : Int32) (w : kx_H) : kx_O := J 4 [(0, kx_r 9 x0), (1, kx_i (xs1 + xs0)), (2, kx_i (x2 + 1))] [] w
theorem me_150_26 {f d : Nat} {C : kx_C} {x0 : Option Nat} {x2 : Int32} {xs0 : Int32} {xs1 : Int32} {w : kx_H} : kx_ex (wm_150 d C) (f + 1) 26 [(0, kx_r 9 x0), (2, kx_i x2)] [kx_i xs0, kx_i xs1] w = mb_150_26 (kx_ex (wm_150 d C) f) d C x0 x2 xs0 xs1 w := Eq.trans rfl rfl
/-! TaskDeskModel.channels()I -/
def mb_151_0 (J : Nat → kx_F) (d : Nat) (C : kx_C) (x0 : Option Nat) (w : kx_H) : kx_O := J 4 [(0, kx_r 9 x0), (1, kx_i (0 : Int32)), (2, kx_i (0 : Int32))] [] w
theorem me_151_0 {f d : Nat} {C : kx_C} {x0 : Option Nat} {w : kx_H} : kx_ex (wm_151 d C) (f + 1) 0 [(0, kx_r 9 x0)] [] w = mb_151_0 (kx_ex (wm_151 d C) f) d C x0 w := Eq.trans rfl rfl
theorem mE_151 {φ d : Nat} (hφ : kx_fuel = φ + 1) {x0 : Option Nat} {w : kx_H} : kx_ev wx_M (d + 1) 151 [kx_r 9 x0] w = mb_151_0 (kx_ex (wm_151 d (kx_ev wx_M d)) φ) d (kx_ev wx_M d) x0 w := by
  show kx_ex (wx_M 151 d (kx_ev wx_M d)) kx_fuel 0 [(0, kx_r 9 x0)] [] w = _
  rw [show wx_M 151 d (kx_ev wx_M d) = wm_151 d (kx_ev wx_M d) from rfl, hφ]
  exact me_151_0
def mb_151_4 (J : Nat → kx_F) (d : Nat) (C : kx_C) (x0 : Option Nat) (x1 : Int32) (x2 : Int32) (w : kx_H) : kx_O := if (512 : Int32) ≤ x2 then (some (.inl (some (.inl x1)), w))
  else (x0.bind fun a1 => (hp_R w 1826 a1).bind fun a2 => if x2 < 0 ∨ hp_N w a2 ≤ x2.toNatClampNeg then none else if kx_b (hp_B w (2 * a2 + 1) x2.toNatClampNeg) = 0 then (J 26 [(0, kx_r 9 x0), (2, kx_i x2)] [kx_i (0 : Int32), kx_i x1] w)
    else (J 26 [(0, kx_r 9 x0), (2, kx_i x2)] [kx_i (1 : Int32), kx_i x1] w))
theorem me_151_4 {f d : Nat} {C : kx_C} {x0 : Option Nat} {x1 : Int32} {x2 : Int32} {w : kx_H} : kx_ex (wm_151 d C) (f + 1) 4 [(0, kx_r 9 x0), (1, kx_i x1), (2, kx_i x2)] [] w = mb_151_4 (kx_ex (wm_151 d C) f) d C x0 x1 x2 w := Eq.trans rfl rfl
def mb_151_26 (J : Nat → kx_F) (d : Nat) (C : kx_C) (x0 : Option Nat) (x2 : Int32) (xs0 : Int32) (xs1 : Int32) (w : kx_H) : kx_O := J 4 [(0, kx_r 9 x0), (1, kx_i (xs1 + xs0)), (2, kx_i (x2 + 1))] [] w
theorem me_151_26 {f d : Nat} {C : kx_C} {x0 : Option Nat} {x2 : Int32} {xs0 : Int32} {xs1 : Int32} {w : kx_H} : kx_ex (wm_151 d C) (f + 1) 26 [(0, kx_r 9 x0), (2, kx_i x2)] [kx_i xs0, kx_i xs1] w = mb_151_26 (kx_ex (wm_151 d C) f) d C x0 x2 xs0 xs1 w := Eq.trans rfl rfl
