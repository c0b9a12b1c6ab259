/-! the constructors, as plain functions over the heap -/
def mh_0_0 (J : Nat → kx_F) (d : Nat) (C : kx_C) (x0 : Option Nat) (w : kx_H) : kx_O := x0.bind fun _ => if (256 : Int32) < 0 ∨ 60000000 < (256 : Int32).toNatClampNeg then none else if hp_C w + 1 ≤ kx_cc ∧ hp_U w + (256 : Int32).toNatClampNeg ≤ kx_cs then (let w1 := hp_new w 102 (256 : Int32).toNatClampNeg (256 : Int32).toNatClampNeg;
  x0.bind fun a2 => let w3 := hp_sR w1 a2 0 (some (hp_X w));
  if hp_C w3 + 1 ≤ kx_cc ∧ hp_U w3 + 3 ≤ kx_cs then (let w4 := hp_new w3 5 0 3;
  (some (hp_X w3)).bind fun a7 => kx_bv (C 1 [kx_r 5 (some a7)] w4) fun w5 =>
  x0.bind fun a8 => let w9 := hp_sR w5 a8 2 (some (hp_X w3));
  if hp_C w9 + 1 ≤ kx_cc ∧ hp_U w9 + 2 ≤ kx_cs then (let w10 := hp_new w9 1 0 2;
  (some (hp_X w9)).bind fun a13 => kx_bv (C 2 [kx_r 1 (some a13)] w10) fun w11 =>
  x0.bind fun a14 => let w15 := hp_sR w11 a14 6 (some (hp_X w9));
  if (512 : Int32) < 0 ∨ 60000000 < (512 : Int32).toNatClampNeg then none else if hp_C w15 + 1 ≤ kx_cc ∧ hp_U w15 + (512 : Int32).toNatClampNeg ≤ kx_cs then (let w16 := hp_new w15 103 (512 : Int32).toNatClampNeg (512 : Int32).toNatClampNeg;
  x0.bind fun a17 => let w18 := hp_sR w16 a17 8 (some (hp_X w15));
  if hp_C w18 + 1 ≤ kx_cc ∧ hp_U w18 + 10 ≤ kx_cs then (let w19 := hp_new w18 2 0 10;
  (some (hp_X w18)).bind fun a22 => kx_bv (C 4 [kx_r 2 (some a22), kx_i ((-1) : Int32)] w19) fun w20 =>
  x0.bind fun a23 => let w24 := hp_sR w20 a23 9 (some (hp_X w18));
  if (16 : Int32) < 0 ∨ 60000000 < (16 : Int32).toNatClampNeg then none else if hp_C w24 + 1 ≤ kx_cc ∧ hp_U w24 + (16 : Int32).toNatClampNeg ≤ kx_cs then (let w25 := hp_new w24 104 (16 : Int32).toNatClampNeg (16 : Int32).toNatClampNeg;
  x0.bind fun a26 => let w27 := hp_sR w25 a26 13 (some (hp_X w24));
  if (256 : Int32) < 0 ∨ 60000000 < (256 : Int32).toNatClampNeg then none else if hp_C w27 + 1 ≤ kx_cc ∧ hp_U w27 + (256 : Int32).toNatClampNeg ≤ kx_cs then (let w28 := hp_new w27 105 (256 : Int32).toNatClampNeg (256 : Int32).toNatClampNeg;
  x0.bind fun a29 => let w30 := hp_sR w28 a29 16 (some (hp_X w27));
  J 79 [(0, kx_r 0 x0), (1, kx_i (0 : Int32))] [] w30) else none) else none) else none) else none) else none) else none) else none
theorem mhe_0_0 {f d : Nat} {C : kx_C} {x0 : Option Nat} {w : kx_H} : kx_ex (bm_0 d C) (f + 1) 0 [(0, kx_r 0 x0)] [] w = mh_0_0 (kx_ex (bm_0 d C) f) d C x0 w := Eq.trans rfl rfl
theorem mhE_0 {φ d : Nat} (hφ : kx_fuel = φ + 1) {x0 : Option Nat} {w : kx_H} : kx_ev kx_M (d + 1) 0 [kx_r 0 x0] w = mh_0_0 (kx_ex (bm_0 d (kx_ev kx_M d)) φ) d (kx_ev kx_M d) x0 w := by
  show kx_ex (kx_M 0 d (kx_ev kx_M d)) kx_fuel 0 [(0, kx_r 0 x0)] [] w = _
  rw [show kx_M 0 d (kx_ev kx_M d) = bm_0 d (kx_ev kx_M d) from rfl, hφ]
  exact mhe_0_0
def mh_0_79 (J : Nat → kx_F) (d : Nat) (C : kx_C) (x0 : Option Nat) (x1 : Int32) (w : kx_H) : kx_O := if (256 : Int32) ≤ x1 then (J 128 [(0, kx_r 0 x0), (1, kx_i (0 : Int32))] [] w)
  else (if hp_C w + 1 ≤ kx_cc ∧ hp_U w + 9 ≤ kx_cs then (let w1 := hp_new w 4 0 9;
    x0.bind fun a2 => (some (hp_X w)).bind fun a5 => kx_bv (C 5 [kx_r 4 (some a5), kx_r 2 (hp_R w1 a2 9)] w1) fun w3 =>
    if hp_C w3 + 1 ≤ kx_cc ∧ hp_U w3 + 10 ≤ kx_cs then (let w6 := hp_new w3 6 0 10;
    (some (hp_X w3)).bind fun a9 => kx_bv (C 6 [kx_r 6 (some a9), kx_i x1, kx_r 4 (some (hp_X w))] w6) fun w7 =>
    (some (hp_X w)).bind fun a10 => let w11 := hp_sR w7 a10 0 (some (hp_X w3));
    x0.bind fun a12 => (hp_R w11 a12 0).bind fun a13 => if x1 < 0 ∨ hp_N w11 a13 ≤ x1.toNatClampNeg then none else let w14 := hp_sR w11 a13 x1.toNatClampNeg (some (hp_X w3));
    J 79 [(0, kx_r 0 x0), (1, kx_i (x1 + 1))] [] w14) else none) else none)
theorem mhe_0_79 {f d : Nat} {C : kx_C} {x0 : Option Nat} {x1 : Int32} {w : kx_H} : kx_ex (bm_0 d C) (f + 1) 79 [(0, kx_r 0 x0), (1, kx_i x1)] [] w = mh_0_79 (kx_ex (bm_0 d C) f) d C x0 x1 w := Eq.trans rfl rfl
def mh_0_128 (J : Nat → kx_F) (d : Nat) (C : kx_C) (x0 : Option Nat) (x1 : Int32) (w : kx_H) : kx_O := if (512 : Int32) ≤ x1 then (J 157 [(0, kx_r 0 x0), (1, kx_i (0 : Int32))] [] w)
  else (x0.bind fun a1 => if hp_C w + 1 ≤ kx_cc ∧ hp_U w + 10 ≤ kx_cs then (let w2 := hp_new w 2 0 10;
    (some (hp_X w)).bind fun a5 => kx_bv (C 4 [kx_r 2 (some a5), kx_i x1] w2) fun w3 =>
    (hp_R w a1 8).bind fun a6 => if x1 < 0 ∨ hp_N w3 a6 ≤ x1.toNatClampNeg then none else let w7 := hp_sR w3 a6 x1.toNatClampNeg (some (hp_X w));
    J 128 [(0, kx_r 0 x0), (1, kx_i (x1 + 1))] [] w7) else none)
theorem mhe_0_128 {f d : Nat} {C : kx_C} {x0 : Option Nat} {x1 : Int32} {w : kx_H} : kx_ex (bm_0 d C) (f + 1) 128 [(0, kx_r 0 x0), (1, kx_i x1)] [] w = mh_0_128 (kx_ex (bm_0 d C) f) d C x0 x1 w := Eq.trans rfl rfl
def mh_0_157 (J : Nat → kx_F) (d : Nat) (C : kx_C) (x0 : Option Nat) (x1 : Int32) (w : kx_H) : kx_O := if (256 : Int32) ≤ x1 then (J 186 [(0, kx_r 0 x0), (1, kx_i (0 : Int32))] [] w)
  else (x0.bind fun a1 => if hp_C w + 1 ≤ kx_cc ∧ hp_U w + 6 ≤ kx_cs then (let w2 := hp_new w 3 0 6;
    (some (hp_X w)).bind fun a5 => kx_bv (C 7 [kx_r 3 (some a5), kx_i x1] w2) fun w3 =>
    (hp_R w a1 16).bind fun a6 => if x1 < 0 ∨ hp_N w3 a6 ≤ x1.toNatClampNeg then none else let w7 := hp_sR w3 a6 x1.toNatClampNeg (some (hp_X w));
    J 157 [(0, kx_r 0 x0), (1, kx_i (x1 + 1))] [] w7) else none)
theorem mhe_0_157 {f d : Nat} {C : kx_C} {x0 : Option Nat} {x1 : Int32} {w : kx_H} : kx_ex (bm_0 d C) (f + 1) 157 [(0, kx_r 0 x0), (1, kx_i x1)] [] w = mh_0_157 (kx_ex (bm_0 d C) f) d C x0 x1 w := Eq.trans rfl rfl
def mh_0_186 (J : Nat → kx_F) (d : Nat) (C : kx_C) (x0 : Option Nat) (x1 : Int32) (w : kx_H) : kx_O := if (512 : Int32) ≤ x1 then (x0.bind fun a1 => (hp_R w a1 0).bind fun a2 => if (0 : Int32) < 0 ∨ hp_N w a2 ≤ (0 : Int32).toNatClampNeg then none else (hp_R w a2 (0 : Int32).toNatClampNeg).bind fun a5 => kx_bv (C 11 [kx_r 6 (some a5)] w) fun w3 =>
    (hp_R w a2 (0 : Int32).toNatClampNeg).bind fun a6 => let w7 := hp_sI w3 a6 3 (0 : Int32);
    x0.bind fun a8 => let w9 := hp_sI w7 a8 1 (1 : Int32);
    x0.bind fun a10 => let w11 := hp_sR w9 a10 3 (hp_R w a2 (0 : Int32).toNatClampNeg);
    some (.inl none, w11))
  else (if hp_C w + 1 ≤ kx_cc ∧ hp_U w + 2 ≤ kx_cs then (let w12 := hp_new w 8 0 2;
    (some (hp_X w)).bind fun a15 => kx_bv (C 8 [kx_r 8 (some a15)] w12) fun w13 =>
    x0.bind fun a18 => kx_bv (C 9 [kx_r 0 (some a18), kx_r 8 (some (hp_X w))] w13) fun w16 =>
    if hp_C w16 + 1 ≤ kx_cc ∧ hp_U w16 + 9 ≤ kx_cs then (let w19 := hp_new w16 4 0 9;
    x0.bind fun a20 => (some (hp_X w16)).bind fun a23 => kx_bv (C 5 [kx_r 4 (some a23), kx_r 2 (hp_R w19 a20 9)] w19) fun w21 =>
    x0.bind fun a26 => kx_bv (C 10 [kx_r 0 (some a26), kx_r 4 (some (hp_X w16))] w21) fun w24 =>
    J 186 [(0, kx_r 0 x0), (1, kx_i (x1 + 1))] [] w24) else none) else none)
theorem mhe_0_186 {f d : Nat} {C : kx_C} {x0 : Option Nat} {x1 : Int32} {w : kx_H} : kx_ex (bm_0 d C) (f + 1) 186 [(0, kx_r 0 x0), (1, kx_i x1)] [] w = mh_0_186 (kx_ex (bm_0 d C) f) d C x0 x1 w := Eq.trans rfl rfl
def mh_1_0 (J : Nat → kx_F) (d : Nat) (C : kx_C) (x0 : Option Nat) (w : kx_H) : kx_O := x0.bind fun _ => some (.inl none, w)
theorem mhe_1_0 {f d : Nat} {C : kx_C} {x0 : Option Nat} {w : kx_H} : kx_ex (bm_1 d C) (f + 1) 0 [(0, kx_r 5 x0)] [] w = mh_1_0 (kx_ex (bm_1 d C) f) d C x0 w := Eq.trans rfl rfl
theorem mhE_1 {φ d : Nat} (hφ : kx_fuel = φ + 1) {x0 : Option Nat} {w : kx_H} : kx_ev kx_M (d + 1) 1 [kx_r 5 x0] w = mh_1_0 (kx_ex (bm_1 d (kx_ev kx_M d)) φ) d (kx_ev kx_M d) x0 w := by
  show kx_ex (kx_M 1 d (kx_ev kx_M d)) kx_fuel 0 [(0, kx_r 5 x0)] [] w = _
  rw [show kx_M 1 d (kx_ev kx_M d) = bm_1 d (kx_ev kx_M d) from rfl, hφ]
  exact mhe_1_0
def mh_2_0 (J : Nat → kx_F) (d : Nat) (C : kx_C) (x0 : Option Nat) (w : kx_H) : kx_O := x0.bind fun _ => J 6 [(0, kx_r 1 x0), (1, kx_i (0 : Int32))] [] w
theorem mhe_2_0 {f d : Nat} {C : kx_C} {x0 : Option Nat} {w : kx_H} : kx_ex (bm_2 d C) (f + 1) 0 [(0, kx_r 1 x0)] [] w = mh_2_0 (kx_ex (bm_2 d C) f) d C x0 w := Eq.trans rfl rfl
theorem mhE_2 {φ d : Nat} (hφ : kx_fuel = φ + 1) {x0 : Option Nat} {w : kx_H} : kx_ev kx_M (d + 1) 2 [kx_r 1 x0] w = mh_2_0 (kx_ex (bm_2 d (kx_ev kx_M d)) φ) d (kx_ev kx_M d) x0 w := by
  show kx_ex (kx_M 2 d (kx_ev kx_M d)) kx_fuel 0 [(0, kx_r 1 x0)] [] w = _
  rw [show kx_M 2 d (kx_ev kx_M d) = bm_2 d (kx_ev kx_M d) from rfl, hφ]
  exact mhe_2_0
def mh_2_6 (J : Nat → kx_F) (d : Nat) (C : kx_C) (x0 : Option Nat) (x1 : Int32) (w : kx_H) : kx_O := if (512 : Int32) ≤ x1 then (some (.inl none, w))
  else (if hp_C w + 1 ≤ kx_cc ∧ hp_U w + 4 ≤ kx_cs then (let w1 := hp_new w 7 0 4;
    (some (hp_X w)).bind fun a4 => kx_bv (C 3 [kx_r 7 (some a4)] w1) fun w2 =>
    x0.bind fun a5 => (some (hp_X w)).bind fun a6 => let w7 := hp_sR w2 a6 3 (hp_R w2 a5 1);
    x0.bind fun a8 => let w9 := hp_sR w7 a8 1 (some (hp_X w));
    J 6 [(0, kx_r 1 x0), (1, kx_i (x1 + 1))] [] w9) else none)
theorem mhe_2_6 {f d : Nat} {C : kx_C} {x0 : Option Nat} {x1 : Int32} {w : kx_H} : kx_ex (bm_2 d C) (f + 1) 6 [(0, kx_r 1 x0), (1, kx_i x1)] [] w = mh_2_6 (kx_ex (bm_2 d C) f) d C x0 x1 w := Eq.trans rfl rfl
def mh_3_0 (J : Nat → kx_F) (d : Nat) (C : kx_C) (x0 : Option Nat) (w : kx_H) : kx_O := x0.bind fun _ => some (.inl none, w)
theorem mhe_3_0 {f d : Nat} {C : kx_C} {x0 : Option Nat} {w : kx_H} : kx_ex (bm_3 d C) (f + 1) 0 [(0, kx_r 7 x0)] [] w = mh_3_0 (kx_ex (bm_3 d C) f) d C x0 w := Eq.trans rfl rfl
theorem mhE_3 {φ d : Nat} (hφ : kx_fuel = φ + 1) {x0 : Option Nat} {w : kx_H} : kx_ev kx_M (d + 1) 3 [kx_r 7 x0] w = mh_3_0 (kx_ex (bm_3 d (kx_ev kx_M d)) φ) d (kx_ev kx_M d) x0 w := by
  show kx_ex (kx_M 3 d (kx_ev kx_M d)) kx_fuel 0 [(0, kx_r 7 x0)] [] w = _
  rw [show kx_M 3 d (kx_ev kx_M d) = bm_3 d (kx_ev kx_M d) from rfl, hφ]
  exact mhe_3_0
def mh_4_0 (J : Nat → kx_F) (d : Nat) (C : kx_C) (x0 : Option Nat) (x1 : Int32) (w : kx_H) : kx_O := x0.bind fun _ => if hp_C w + 1 ≤ kx_cc ∧ hp_U w + 3 ≤ kx_cs then (let w1 := hp_new w 5 0 3;
  (some (hp_X w)).bind fun a4 => kx_bv (C 1 [kx_r 5 (some a4)] w1) fun w2 =>
  x0.bind fun a5 => let w6 := hp_sR w2 a5 1 (some (hp_X w));
  if hp_C w6 + 1 ≤ kx_cc ∧ hp_U w6 + 3 ≤ kx_cs then (let w7 := hp_new w6 5 0 3;
  (some (hp_X w6)).bind fun a10 => kx_bv (C 1 [kx_r 5 (some a10)] w7) fun w8 =>
  x0.bind fun a11 => let w12 := hp_sR w8 a11 2 (some (hp_X w6));
  x0.bind fun a13 => let w14 := hp_sI w12 a13 0 x1;
  some (.inl none, w14)) else none) else none
theorem mhe_4_0 {f d : Nat} {C : kx_C} {x0 : Option Nat} {x1 : Int32} {w : kx_H} : kx_ex (bm_4 d C) (f + 1) 0 [(0, kx_r 2 x0), (1, kx_i x1)] [] w = mh_4_0 (kx_ex (bm_4 d C) f) d C x0 x1 w := Eq.trans rfl rfl
theorem mhE_4 {φ d : Nat} (hφ : kx_fuel = φ + 1) {x0 : Option Nat} {x1 : Int32} {w : kx_H} : kx_ev kx_M (d + 1) 4 [kx_r 2 x0, kx_i x1] w = mh_4_0 (kx_ex (bm_4 d (kx_ev kx_M d)) φ) d (kx_ev kx_M d) x0 x1 w := by
  show kx_ex (kx_M 4 d (kx_ev kx_M d)) kx_fuel 0 [(0, kx_r 2 x0), (1, kx_i x1)] [] w = _
  rw [show kx_M 4 d (kx_ev kx_M d) = bm_4 d (kx_ev kx_M d) from rfl, hφ]
  exact mhe_4_0
def mh_5_0 (J : Nat → kx_F) (d : Nat) (C : kx_C) (x0 : Option Nat) (x1 : Option Nat) (w : kx_H) : kx_O := x0.bind fun _ => x0.bind fun a1 => let w2 := hp_sI w a1 4 ((-1) : Int32);
  x0.bind fun a3 => let w4 := hp_sR w2 a3 1 x1;
  some (.inl none, w4)
theorem mhe_5_0 {f d : Nat} {C : kx_C} {x0 : Option Nat} {x1 : Option Nat} {w : kx_H} : kx_ex (bm_5 d C) (f + 1) 0 [(0, kx_r 4 x0), (1, kx_r 2 x1)] [] w = mh_5_0 (kx_ex (bm_5 d C) f) d C x0 x1 w := Eq.trans rfl rfl
theorem mhE_5 {φ d : Nat} (hφ : kx_fuel = φ + 1) {x0 : Option Nat} {x1 : Option Nat} {w : kx_H} : kx_ev kx_M (d + 1) 5 [kx_r 4 x0, kx_r 2 x1] w = mh_5_0 (kx_ex (bm_5 d (kx_ev kx_M d)) φ) d (kx_ev kx_M d) x0 x1 w := by
  show kx_ex (kx_M 5 d (kx_ev kx_M d)) kx_fuel 0 [(0, kx_r 4 x0), (1, kx_r 2 x1)] [] w = _
  rw [show kx_M 5 d (kx_ev kx_M d) = bm_5 d (kx_ev kx_M d) from rfl, hφ]
  exact mhe_5_0
def mh_6_0 (J : Nat → kx_F) (d : Nat) (C : kx_C) (x0 : Option Nat) (x1 : Int32) (x2 : Option Nat) (w : kx_H) : kx_O := x0.bind fun _ => x0.bind fun a1 => let w2 := hp_sI w a1 0 x1;
  x0.bind fun a3 => let w4 := hp_sR w2 a3 1 x2;
  some (.inl none, w4)
theorem mhe_6_0 {f d : Nat} {C : kx_C} {x0 : Option Nat} {x1 : Int32} {x2 : Option Nat} {w : kx_H} : kx_ex (bm_6 d C) (f + 1) 0 [(0, kx_r 6 x0), (1, kx_i x1), (2, kx_r 4 x2)] [] w = mh_6_0 (kx_ex (bm_6 d C) f) d C x0 x1 x2 w := Eq.trans rfl rfl
theorem mhE_6 {φ d : Nat} (hφ : kx_fuel = φ + 1) {x0 : Option Nat} {x1 : Int32} {x2 : Option Nat} {w : kx_H} : kx_ev kx_M (d + 1) 6 [kx_r 6 x0, kx_i x1, kx_r 4 x2] w = mh_6_0 (kx_ex (bm_6 d (kx_ev kx_M d)) φ) d (kx_ev kx_M d) x0 x1 x2 w := by
  show kx_ex (kx_M 6 d (kx_ev kx_M d)) kx_fuel 0 [(0, kx_r 6 x0), (1, kx_i x1), (2, kx_r 4 x2)] [] w = _
  rw [show kx_M 6 d (kx_ev kx_M d) = bm_6 d (kx_ev kx_M d) from rfl, hφ]
  exact mhe_6_0
def mh_7_0 (J : Nat → kx_F) (d : Nat) (C : kx_C) (x0 : Option Nat) (x1 : Int32) (w : kx_H) : kx_O := x0.bind fun _ => if hp_C w + 1 ≤ kx_cc ∧ hp_U w + 3 ≤ kx_cs then (let w1 := hp_new w 5 0 3;
  (some (hp_X w)).bind fun a4 => kx_bv (C 1 [kx_r 5 (some a4)] w1) fun w2 =>
  x0.bind fun a5 => let w6 := hp_sR w2 a5 1 (some (hp_X w));
  if hp_C w6 + 1 ≤ kx_cc ∧ hp_U w6 + 3 ≤ kx_cs then (let w7 := hp_new w6 5 0 3;
  (some (hp_X w6)).bind fun a10 => kx_bv (C 1 [kx_r 5 (some a10)] w7) fun w8 =>
  x0.bind fun a11 => let w12 := hp_sR w8 a11 2 (some (hp_X w6));
  x0.bind fun a13 => let w14 := hp_sI w12 a13 0 x1;
  some (.inl none, w14)) else none) else none
theorem mhe_7_0 {f d : Nat} {C : kx_C} {x0 : Option Nat} {x1 : Int32} {w : kx_H} : kx_ex (bm_7 d C) (f + 1) 0 [(0, kx_r 3 x0), (1, kx_i x1)] [] w = mh_7_0 (kx_ex (bm_7 d C) f) d C x0 x1 w := Eq.trans rfl rfl
theorem mhE_7 {φ d : Nat} (hφ : kx_fuel = φ + 1) {x0 : Option Nat} {x1 : Int32} {w : kx_H} : kx_ev kx_M (d + 1) 7 [kx_r 3 x0, kx_i x1] w = mh_7_0 (kx_ex (bm_7 d (kx_ev kx_M d)) φ) d (kx_ev kx_M d) x0 x1 w := by
  show kx_ex (kx_M 7 d (kx_ev kx_M d)) kx_fuel 0 [(0, kx_r 3 x0), (1, kx_i x1)] [] w = _
  rw [show kx_M 7 d (kx_ev kx_M d) = bm_7 d (kx_ev kx_M d) from rfl, hφ]
  exact mhe_7_0
def mh_8_0 (J : Nat → kx_F) (d : Nat) (C : kx_C) (x0 : Option Nat) (w : kx_H) : kx_O := x0.bind fun _ => some (.inl none, w)
theorem mhe_8_0 {f d : Nat} {C : kx_C} {x0 : Option Nat} {w : kx_H} : kx_ex (bm_8 d C) (f + 1) 0 [(0, kx_r 8 x0)] [] w = mh_8_0 (kx_ex (bm_8 d C) f) d C x0 w := Eq.trans rfl rfl
theorem mhE_8 {φ d : Nat} (hφ : kx_fuel = φ + 1) {x0 : Option Nat} {w : kx_H} : kx_ev kx_M (d + 1) 8 [kx_r 8 x0] w = mh_8_0 (kx_ex (bm_8 d (kx_ev kx_M d)) φ) d (kx_ev kx_M d) x0 w := by
  show kx_ex (kx_M 8 d (kx_ev kx_M d)) kx_fuel 0 [(0, kx_r 8 x0)] [] w = _
  rw [show kx_M 8 d (kx_ev kx_M d) = bm_8 d (kx_ev kx_M d) from rfl, hφ]
  exact mhe_8_0
def mh_9_0 (J : Nat → kx_F) (d : Nat) (C : kx_C) (x0 : Option Nat) (x1 : Option Nat) (w : kx_H) : kx_O := x0.bind fun a1 => x1.bind fun a2 => let w3 := hp_sR w a2 1 (hp_R w a1 12);
  x0.bind fun a4 => let w5 := hp_sR w3 a4 12 x1;
  some (.inl none, w5)
theorem mhe_9_0 {f d : Nat} {C : kx_C} {x0 : Option Nat} {x1 : Option Nat} {w : kx_H} : kx_ex (bm_9 d C) (f + 1) 0 [(0, kx_r 0 x0), (1, kx_r 8 x1)] [] w = mh_9_0 (kx_ex (bm_9 d C) f) d C x0 x1 w := Eq.trans rfl rfl
theorem mhE_9 {φ d : Nat} (hφ : kx_fuel = φ + 1) {x0 : Option Nat} {x1 : Option Nat} {w : kx_H} : kx_ev kx_M (d + 1) 9 [kx_r 0 x0, kx_r 8 x1] w = mh_9_0 (kx_ex (bm_9 d (kx_ev kx_M d)) φ) d (kx_ev kx_M d) x0 x1 w := by
  show kx_ex (kx_M 9 d (kx_ev kx_M d)) kx_fuel 0 [(0, kx_r 0 x0), (1, kx_r 8 x1)] [] w = _
  rw [show kx_M 9 d (kx_ev kx_M d) = bm_9 d (kx_ev kx_M d) from rfl, hφ]
  exact mhe_9_0
def mh_10_0 (J : Nat → kx_F) (d : Nat) (C : kx_C) (x0 : Option Nat) (x1 : Option Nat) (w : kx_H) : kx_O := x0.bind fun a1 => x1.bind fun a2 => let w3 := hp_sR w a2 8 (hp_R w a1 15);
  x0.bind fun a4 => let w5 := hp_sR w3 a4 15 x1;
  some (.inl none, w5)
theorem mhe_10_0 {f d : Nat} {C : kx_C} {x0 : Option Nat} {x1 : Option Nat} {w : kx_H} : kx_ex (bm_10 d C) (f + 1) 0 [(0, kx_r 0 x0), (1, kx_r 4 x1)] [] w = mh_10_0 (kx_ex (bm_10 d C) f) d C x0 x1 w := Eq.trans rfl rfl
theorem mhE_10 {φ d : Nat} (hφ : kx_fuel = φ + 1) {x0 : Option Nat} {x1 : Option Nat} {w : kx_H} : kx_ev kx_M (d + 1) 10 [kx_r 0 x0, kx_r 4 x1] w = mh_10_0 (kx_ex (bm_10 d (kx_ev kx_M d)) φ) d (kx_ev kx_M d) x0 x1 w := by
  show kx_ex (kx_M 10 d (kx_ev kx_M d)) kx_fuel 0 [(0, kx_r 0 x0), (1, kx_r 4 x1)] [] w = _
  rw [show kx_M 10 d (kx_ev kx_M d) = bm_10 d (kx_ev kx_M d) from rfl, hφ]
  exact mhe_10_0
def mh_11_0 (J : Nat → kx_F) (d : Nat) (C : kx_C) (x0 : Option Nat) (w : kx_H) : kx_O := x0.bind fun a1 => kx_sb (1 : Int32) fun b9 => let w2 := hp_sB w a1 2 b9;
  x0.bind fun a3 => let w4 := hp_sI w2 a3 4 ((-1) : Int32);
    x0.bind fun a7 => kx_bv (C 12 [kx_r 6 (some a7), kx_l (0 : Int64), kx_i (0 : Int32), kx_i ((-1) : Int32), kx_i (0 : Int32)] w4) fun w5 =>
    some (.inl none, w5)
theorem mhe_11_0 {f d : Nat} {C : kx_C} {x0 : Option Nat} {w : kx_H} : kx_ex (bm_11 d C) (f + 1) 0 [(0, kx_r 6 x0)] [] w = mh_11_0 (kx_ex (bm_11 d C) f) d C x0 w := Eq.trans rfl rfl
theorem mhE_11 {φ d : Nat} (hφ : kx_fuel = φ + 1) {x0 : Option Nat} {w : kx_H} : kx_ev kx_M (d + 1) 11 [kx_r 6 x0] w = mh_11_0 (kx_ex (bm_11 d (kx_ev kx_M d)) φ) d (kx_ev kx_M d) x0 w := by
  show kx_ex (kx_M 11 d (kx_ev kx_M d)) kx_fuel 0 [(0, kx_r 6 x0)] [] w = _
  rw [show kx_M 11 d (kx_ev kx_M d) = bm_11 d (kx_ev kx_M d) from rfl, hφ]
  exact mhe_11_0
def mh_12_0 (J : Nat → kx_F) (d : Nat) (C : kx_C) (x0 : Option Nat) (x1 : Int64) (x3 : Int32) (x4 : Int32) (x5 : Int32) (w : kx_H) : kx_O := x0.bind fun a1 => let w2 := hp_sL w a1 6 x1;
  x0.bind fun a3 => kx_sb x3 fun b9 => let w4 := hp_sB w2 a3 7 b9;
  x0.bind fun a5 => let w6 := hp_sI w4 a5 8 x4;
    x0.bind fun a7 => kx_sb x5 fun b9 => let w8 := hp_sB w6 a7 9 b9;
    some (.inl none, w8)
theorem mhe_12_0 {f d : Nat} {C : kx_C} {x0 : Option Nat} {x1 : Int64} {x3 : Int32} {x4 : Int32} {x5 : Int32} {w : kx_H} : kx_ex (bm_12 d C) (f + 1) 0 [(0, kx_r 6 x0), (1, kx_l x1), (3, kx_i x3), (4, kx_i x4), (5, kx_i x5)] [] w = mh_12_0 (kx_ex (bm_12 d C) f) d C x0 x1 x3 x4 x5 w := Eq.trans rfl rfl
theorem mhE_12 {φ d : Nat} (hφ : kx_fuel = φ + 1) {x0 : Option Nat} {x1 : Int64} {x3 : Int32} {x4 : Int32} {x5 : Int32} {w : kx_H} : kx_ev kx_M (d + 1) 12 [kx_r 6 x0, kx_l x1, kx_i x3, kx_i x4, kx_i x5] w = mh_12_0 (kx_ex (bm_12 d (kx_ev kx_M d)) φ) d (kx_ev kx_M d) x0 x1 x3 x4 x5 w := by
  show kx_ex (kx_M 12 d (kx_ev kx_M d)) kx_fuel 0 [(0, kx_r 6 x0), (1, kx_l x1), (3, kx_i x3), (4, kx_i x4), (5, kx_i x5)] [] w = _
  rw [show kx_M 12 d (kx_ev kx_M d) = bm_12 d (kx_ev kx_M d) from rfl, hφ]
  exact mhe_12_0
