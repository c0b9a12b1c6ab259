/-! TaskDeskLaw.spawn(LTaskDesk;[J)I -/
def mb_152_0 (J : Nat → kx_F) (d : Nat) (C : kx_C) (x0 : Option Nat) (x1 : Option Nat) (w : kx_H) : kx_O := x0.bind fun a3 => kx_bic kH_152 (C 23 [kx_r 0 (some a3)] w) fun y2 w1 =>
  x1.bind fun a4 => if (0 : Int32) < 0 ∨ hp_N w1 a4 ≤ (0 : Int32).toNatClampNeg then none else let w5 := hp_sL w1 (2 * a4 + 1) (0 : Int32).toNatClampNeg (Int32.toInt64 y2);
  some (.inl (some (.inl (0 : Int32))), w5)
theorem me_152_0 {f d : Nat} {C : kx_C} {x0 : Option Nat} {x1 : Option Nat} {w : kx_H} : kx_ex (wm_152 d C) (f + 1) 0 [(0, kx_r 0 x0), (1, kx_r 100 x1)] [] w = mb_152_0 (kx_ex (wm_152 d C) f) d C x0 x1 w := Eq.trans rfl rfl
theorem mE_152 {φ d : Nat} (hφ : kx_fuel = φ + 1) {x0 : Option Nat} {x1 : Option Nat} {w : kx_H} : kx_ev wx_M (d + 1) 152 [kx_r 0 x0, kx_r 100 x1] w = mb_152_0 (kx_ex (wm_152 d (kx_ev wx_M d)) φ) d (kx_ev wx_M d) x0 x1 w := by
  show kx_ex (wx_M 152 d (kx_ev wx_M d)) kx_fuel 0 [(0, kx_r 0 x0), (1, kx_r 100 x1)] [] w = _
  rw [show wx_M 152 d (kx_ev wx_M d) = wm_152 d (kx_ev wx_M d) from rfl, hφ]
  exact me_152_0
/-! TaskDeskLaw.giveWay(LTaskDesk;[J)I -/
def mb_153_0 (J : Nat → kx_F) (d : Nat) (C : kx_C) (x0 : Option Nat) (x1 : Option Nat) (w : kx_H) : kx_O := x0.bind fun a3 => kx_bic kH_153 (C 29 [kx_r 0 (some a3)] w) fun y2 w1 =>
  x1.bind fun a4 => if (0 : Int32) < 0 ∨ hp_N w1 a4 ≤ (0 : Int32).toNatClampNeg then none else let w5 := hp_sL w1 (2 * a4 + 1) (0 : Int32).toNatClampNeg (Int32.toInt64 y2);
  some (.inl (some (.inl (0 : Int32))), w5)
theorem me_153_0 {f d : Nat} {C : kx_C} {x0 : Option Nat} {x1 : Option Nat} {w : kx_H} : kx_ex (wm_153 d C) (f + 1) 0 [(0, kx_r 0 x0), (1, kx_r 100 x1)] [] w = mb_153_0 (kx_ex (wm_153 d C) f) d C x0 x1 w := Eq.trans rfl rfl
theorem mE_153 {φ d : Nat} (hφ : kx_fuel = φ + 1) {x0 : Option Nat} {x1 : Option Nat} {w : kx_H} : kx_ev wx_M (d + 1) 153 [kx_r 0 x0, kx_r 100 x1] w = mb_153_0 (kx_ex (wm_153 d (kx_ev wx_M d)) φ) d (kx_ev wx_M d) x0 x1 w := by
  show kx_ex (wx_M 153 d (kx_ev wx_M d)) kx_fuel 0 [(0, kx_r 0 x0), (1, kx_r 100 x1)] [] w = _
  rw [show wx_M 153 d (kx_ev wx_M d) = wm_153 d (kx_ev wx_M d) from rfl, hφ]
  exact me_153_0
/-! TaskDeskLaw.finish(LTaskDesk;[J)I -/
def mb_154_0 (J : Nat → kx_F) (d : Nat) (C : kx_C) (x0 : Option Nat) (x1 : Option Nat) (w : kx_H) : kx_O := x0.bind fun a3 => kx_bic kH_154 (C 40 [kx_r 0 (some a3)] w) fun y2 w1 =>
  x1.bind fun a4 => if (0 : Int32) < 0 ∨ hp_N w1 a4 ≤ (0 : Int32).toNatClampNeg then none else let w5 := hp_sL w1 (2 * a4 + 1) (0 : Int32).toNatClampNeg (Int32.toInt64 y2);
  some (.inl (some (.inl (0 : Int32))), w5)
theorem me_154_0 {f d : Nat} {C : kx_C} {x0 : Option Nat} {x1 : Option Nat} {w : kx_H} : kx_ex (wm_154 d C) (f + 1) 0 [(0, kx_r 0 x0), (1, kx_r 100 x1)] [] w = mb_154_0 (kx_ex (wm_154 d C) f) d C x0 x1 w := Eq.trans rfl rfl
theorem mE_154 {φ d : Nat} (hφ : kx_fuel = φ + 1) {x0 : Option Nat} {x1 : Option Nat} {w : kx_H} : kx_ev wx_M (d + 1) 154 [kx_r 0 x0, kx_r 100 x1] w = mb_154_0 (kx_ex (wm_154 d (kx_ev wx_M d)) φ) d (kx_ev wx_M d) x0 x1 w := by
  show kx_ex (wx_M 154 d (kx_ev wx_M d)) kx_fuel 0 [(0, kx_r 0 x0), (1, kx_r 100 x1)] [] w = _
  rw [show wx_M 154 d (kx_ev wx_M d) = wm_154 d (kx_ev wx_M d) from rfl, hφ]
  exact me_154_0
/-! TaskDeskLaw.sleep(LTaskDesk;J[J)I -/
def mb_155_0 (J : Nat → kx_F) (d : Nat) (C : kx_C) (x0 : Option Nat) (x1 : Int64) (x3 : Option Nat) (w : kx_H) : kx_O := x0.bind fun a3 => kx_bic kH_155 (C 42 [kx_r 0 (some a3), kx_l x1] w) fun y2 w1 =>
  x3.bind fun a4 => if (0 : Int32) < 0 ∨ hp_N w1 a4 ≤ (0 : Int32).toNatClampNeg then none else let w5 := hp_sL w1 (2 * a4 + 1) (0 : Int32).toNatClampNeg (Int32.toInt64 y2);
  some (.inl (some (.inl (0 : Int32))), w5)
theorem me_155_0 {f d : Nat} {C : kx_C} {x0 : Option Nat} {x1 : Int64} {x3 : Option Nat} {w : kx_H} : kx_ex (wm_155 d C) (f + 1) 0 [(0, kx_r 0 x0), (1, kx_l x1), (3, kx_r 100 x3)] [] w = mb_155_0 (kx_ex (wm_155 d C) f) d C x0 x1 x3 w := Eq.trans rfl rfl
theorem mE_155 {φ d : Nat} (hφ : kx_fuel = φ + 1) {x0 : Option Nat} {x1 : Int64} {x3 : Option Nat} {w : kx_H} : kx_ev wx_M (d + 1) 155 [kx_r 0 x0, kx_l x1, kx_r 100 x3] w = mb_155_0 (kx_ex (wm_155 d (kx_ev wx_M d)) φ) d (kx_ev wx_M d) x0 x1 x3 w := by
  show kx_ex (wx_M 155 d (kx_ev wx_M d)) kx_fuel 0 [(0, kx_r 0 x0), (1, kx_l x1), (3, kx_r 100 x3)] [] w = _
  rw [show wx_M 155 d (kx_ev wx_M d) = wm_155 d (kx_ev wx_M d) from rfl, hφ]
  exact me_155_0
/-! TaskDeskLaw.channel(LTaskDesk;I[J)I -/
def mb_156_0 (J : Nat → kx_F) (d : Nat) (C : kx_C) (x0 : Option Nat) (x1 : Int32) (x2 : Option Nat) (w : kx_H) : kx_O := x0.bind fun a3 => kx_bic kH_156 (C 45 [kx_r 0 (some a3), kx_i x1] w) fun y2 w1 =>
  x2.bind fun a4 => if (0 : Int32) < 0 ∨ hp_N w1 a4 ≤ (0 : Int32).toNatClampNeg then none else let w5 := hp_sL w1 (2 * a4 + 1) (0 : Int32).toNatClampNeg (Int32.toInt64 y2);
  some (.inl (some (.inl (0 : Int32))), w5)
theorem me_156_0 {f d : Nat} {C : kx_C} {x0 : Option Nat} {x1 : Int32} {x2 : Option Nat} {w : kx_H} : kx_ex (wm_156 d C) (f + 1) 0 [(0, kx_r 0 x0), (1, kx_i x1), (2, kx_r 100 x2)] [] w = mb_156_0 (kx_ex (wm_156 d C) f) d C x0 x1 x2 w := Eq.trans rfl rfl
theorem mE_156 {φ d : Nat} (hφ : kx_fuel = φ + 1) {x0 : Option Nat} {x1 : Int32} {x2 : Option Nat} {w : kx_H} : kx_ev wx_M (d + 1) 156 [kx_r 0 x0, kx_i x1, kx_r 100 x2] w = mb_156_0 (kx_ex (wm_156 d (kx_ev wx_M d)) φ) d (kx_ev wx_M d) x0 x1 x2 w := by
  show kx_ex (wx_M 156 d (kx_ev wx_M d)) kx_fuel 0 [(0, kx_r 0 x0), (1, kx_i x1), (2, kx_r 100 x2)] [] w = _
  rw [show wx_M 156 d (kx_ev wx_M d) = wm_156 d (kx_ev wx_M d) from rfl, hφ]
  exact me_156_0
/-! TaskDeskLaw.alarm(LTaskDesk;IJ)I -/
def mb_157_0 (J : Nat → kx_F) (d : Nat) (C : kx_C) (x0 : Option Nat) (x1 : Int32) (x2 : Int64) (w : kx_H) : kx_O := x0.bind fun a3 => kx_bvc kH_157 (C 47 [kx_r 0 (some a3), kx_i x1, kx_l x2] w) fun w1 =>
  some (.inl (some (.inl (0 : Int32))), w1)
theorem me_157_0 {f d : Nat} {C : kx_C} {x0 : Option Nat} {x1 : Int32} {x2 : Int64} {w : kx_H} : kx_ex (wm_157 d C) (f + 1) 0 [(0, kx_r 0 x0), (1, kx_i x1), (2, kx_l x2)] [] w = mb_157_0 (kx_ex (wm_157 d C) f) d C x0 x1 x2 w := Eq.trans rfl rfl
theorem mE_157 {φ d : Nat} (hφ : kx_fuel = φ + 1) {x0 : Option Nat} {x1 : Int32} {x2 : Int64} {w : kx_H} : kx_ev wx_M (d + 1) 157 [kx_r 0 x0, kx_i x1, kx_l x2] w = mb_157_0 (kx_ex (wm_157 d (kx_ev wx_M d)) φ) d (kx_ev wx_M d) x0 x1 x2 w := by
  show kx_ex (wx_M 157 d (kx_ev wx_M d)) kx_fuel 0 [(0, kx_r 0 x0), (1, kx_i x1), (2, kx_l x2)] [] w = _
  rw [show wx_M 157 d (kx_ev wx_M d) = wm_157 d (kx_ev wx_M d) from rfl, hφ]
  exact me_157_0
/-! TaskDeskLaw.send(LTaskDesk;IJ[J)I -/
def mb_158_0 (J : Nat → kx_F) (d : Nat) (C : kx_C) (x0 : Option Nat) (x1 : Int32) (x2 : Int64) (x4 : Option Nat) (w : kx_H) : kx_O := x0.bind fun a3 => kx_bic kH_158 (C 48 [kx_r 0 (some a3), kx_i x1, kx_l x2] w) fun y2 w1 =>
  if y2 = 0 then (J 17 [] [kx_l (0 : Int64), kx_i (0 : Int32), kx_r 100 x4] w1)
  else (J 17 [] [kx_l (1 : Int64), kx_i (0 : Int32), kx_r 100 x4] w1)
theorem me_158_0 {f d : Nat} {C : kx_C} {x0 : Option Nat} {x1 : Int32} {x2 : Int64} {x4 : Option Nat} {w : kx_H} : kx_ex (wm_158 d C) (f + 1) 0 [(0, kx_r 0 x0), (1, kx_i x1), (2, kx_l x2), (4, kx_r 100 x4)] [] w = mb_158_0 (kx_ex (wm_158 d C) f) d C x0 x1 x2 x4 w := Eq.trans rfl rfl
theorem mE_158 {φ d : Nat} (hφ : kx_fuel = φ + 1) {x0 : Option Nat} {x1 : Int32} {x2 : Int64} {x4 : Option Nat} {w : kx_H} : kx_ev wx_M (d + 1) 158 [kx_r 0 x0, kx_i x1, kx_l x2, kx_r 100 x4] w = mb_158_0 (kx_ex (wm_158 d (kx_ev wx_M d)) φ) d (kx_ev wx_M d) x0 x1 x2 x4 w := by
  show kx_ex (wx_M 158 d (kx_ev wx_M d)) kx_fuel 0 [(0, kx_r 0 x0), (1, kx_i x1), (2, kx_l x2), (4, kx_r 100 x4)] [] w = _
  rw [show wx_M 158 d (kx_ev wx_M d) = wm_158 d (kx_ev wx_M d) from rfl, hφ]
  exact me_158_0
def mb_158_17 (J : Nat → kx_F) (d : Nat) (C : kx_C) (xs0 : Int64) (xs1 : Int32) (xs2 : Option Nat) (w : kx_H) : kx_O := xs2.bind fun a1 => if xs1 < 0 ∨ hp_N w a1 ≤ xs1.toNatClampNeg then none else let w2 := hp_sL w (2 * a1 + 1) xs1.toNatClampNeg xs0;
  some (.inl (some (.inl (0 : Int32))), w2)
theorem me_158_17 {f d : Nat} {C : kx_C} {xs0 : Int64} {xs1 : Int32} {xs2 : Option Nat} {w : kx_H} : kx_ex (wm_158 d C) (f + 1) 17 [] [kx_l xs0, kx_i xs1, kx_r 100 xs2] w = mb_158_17 (kx_ex (wm_158 d C) f) d C xs0 xs1 xs2 w := Eq.trans rfl rfl
/-! TaskDeskLaw.receive(LTaskDesk;I[J)I -/
def mb_159_0 (J : Nat → kx_F) (d : Nat) (C : kx_C) (x0 : Option Nat) (x1 : Int32) (x2 : Option Nat) (w : kx_H) : kx_O := x0.bind fun a3 => kx_bic kH_159 (C 50 [kx_r 0 (some a3), kx_i x1] w) fun y2 w1 =>
  if y2 = 0 then (J 15 [] [kx_l (0 : Int64), kx_i (0 : Int32), kx_r 100 x2] w1)
  else (J 15 [] [kx_l (1 : Int64), kx_i (0 : Int32), kx_r 100 x2] w1)
theorem me_159_0 {f d : Nat} {C : kx_C} {x0 : Option Nat} {x1 : Int32} {x2 : Option Nat} {w : kx_H} : kx_ex (wm_159 d C) (f + 1) 0 [(0, kx_r 0 x0), (1, kx_i x1), (2, kx_r 100 x2)] [] w = mb_159_0 (kx_ex (wm_159 d C) f) d C x0 x1 x2 w := Eq.trans rfl rfl
theorem mE_159 {φ d : Nat} (hφ : kx_fuel = φ + 1) {x0 : Option Nat} {x1 : Int32} {x2 : Option Nat} {w : kx_H} : kx_ev wx_M (d + 1) 159 [kx_r 0 x0, kx_i x1, kx_r 100 x2] w = mb_159_0 (kx_ex (wm_159 d (kx_ev wx_M d)) φ) d (kx_ev wx_M d) x0 x1 x2 w := by
  show kx_ex (wx_M 159 d (kx_ev wx_M d)) kx_fuel 0 [(0, kx_r 0 x0), (1, kx_i x1), (2, kx_r 100 x2)] [] w = _
  rw [show wx_M 159 d (kx_ev wx_M d) = wm_159 d (kx_ev wx_M d) from rfl, hφ]
  exact me_159_0
def mb_159_15 (J : Nat → kx_F) (d : Nat) (C : kx_C) (xs0 : Int64) (xs1 : Int32) (xs2 : Option Nat) (w : kx_H) : kx_O := xs2.bind fun a1 => if xs1 < 0 ∨ hp_N w a1 ≤ xs1.toNatClampNeg then none else let w2 := hp_sL w (2 * a1 + 1) xs1.toNatClampNeg xs0;
  some (.inl (some (.inl (0 : Int32))), w2)
theorem me_159_15 {f d : Nat} {C : kx_C} {xs0 : Int64} {xs1 : Int32} {xs2 : Option Nat} {w : kx_H} : kx_ex (wm_159 d C) (f + 1) 15 [] [kx_l xs0, kx_i xs1, kx_r 100 xs2] w = mb_159_15 (kx_ex (wm_159 d C) f) d C xs0 xs1 xs2 w := Eq.trans rfl rfl
/-! TaskDeskLaw.close(LTaskDesk;I)I -/
def mb_160_0 (J : Nat → kx_F) (d : Nat) (C : kx_C) (x0 : Option Nat) (x1 : Int32) (w : kx_H) : kx_O := x0.bind fun a3 => kx_bvc kH_160 (C 53 [kx_r 0 (some a3), kx_i x1] w) fun w1 =>
  some (.inl (some (.inl (0 : Int32))), w1)
theorem me_160_0 {f d : Nat} {C : kx_C} {x0 : Option Nat} {x1 : Int32} {w : kx_H} : kx_ex (wm_160 d C) (f + 1) 0 [(0, kx_r 0 x0), (1, kx_i x1)] [] w = mb_160_0 (kx_ex (wm_160 d C) f) d C x0 x1 w := Eq.trans rfl rfl
theorem mE_160 {φ d : Nat} (hφ : kx_fuel = φ + 1) {x0 : Option Nat} {x1 : Int32} {w : kx_H} : kx_ev wx_M (d + 1) 160 [kx_r 0 x0, kx_i x1] w = mb_160_0 (kx_ex (wm_160 d (kx_ev wx_M d)) φ) d (kx_ev wx_M d) x0 x1 w := by
  show kx_ex (wx_M 160 d (kx_ev wx_M d)) kx_fuel 0 [(0, kx_r 0 x0), (1, kx_i x1)] [] w = _
  rw [show wx_M 160 d (kx_ev wx_M d) = wm_160 d (kx_ev wx_M d) from rfl, hφ]
  exact me_160_0
/-! TaskDeskLaw.offer(LTaskDesk;IZJ[J)I -/
def mb_161_0 (J : Nat → kx_F) (d : Nat) (C : kx_C) (x0 : Option Nat) (x1 : Int32) (x2 : Int32) (x3 : Int64) (x5 : Option Nat) (w : kx_H) : kx_O := x0.bind fun a3 => kx_bic kH_161 (C 55 [kx_r 0 (some a3), kx_i x1, kx_i x2, kx_l x3] w) fun y2 w1 =>
  x5.bind fun a4 => if (0 : Int32) < 0 ∨ hp_N w1 a4 ≤ (0 : Int32).toNatClampNeg then none else let w5 := hp_sL w1 (2 * a4 + 1) (0 : Int32).toNatClampNeg (Int32.toInt64 y2);
  some (.inl (some (.inl (0 : Int32))), w5)
theorem me_161_0 {f d : Nat} {C : kx_C} {x0 : Option Nat} {x1 : Int32} {x2 : Int32} {x3 : Int64} {x5 : Option Nat} {w : kx_H} : kx_ex (wm_161 d C) (f + 1) 0 [(0, kx_r 0 x0), (1, kx_i x1), (2, kx_i x2), (3, kx_l x3), (5, kx_r 100 x5)] [] w = mb_161_0 (kx_ex (wm_161 d C) f) d C x0 x1 x2 x3 x5 w := Eq.trans rfl rfl
theorem mE_161 {φ d : Nat} (hφ : kx_fuel = φ + 1) {x0 : Option Nat} {x1 : Int32} {x2 : Int32} {x3 : Int64} {x5 : Option Nat} {w : kx_H} : kx_ev wx_M (d + 1) 161 [kx_r 0 x0, kx_i x1, kx_i x2, kx_l x3, kx_r 100 x5] w = mb_161_0 (kx_ex (wm_161 d (kx_ev wx_M d)) φ) d (kx_ev wx_M d) x0 x1 x2 x3 x5 w := by
  show kx_ex (wx_M 161 d (kx_ev wx_M d)) kx_fuel 0 [(0, kx_r 0 x0), (1, kx_i x1), (2, kx_i x2), (3, kx_l x3), (5, kx_r 100 x5)] [] w = _
  rw [show wx_M 161 d (kx_ev wx_M d) = wm_161 d (kx_ev wx_M d) from rfl, hφ]
  exact me_161_0
/-! TaskDeskLaw.choose(LTaskDesk;IZ[J)I -/
def mb_162_0 (J : Nat → kx_F) (d : Nat) (C : kx_C) (x0 : Option Nat) (x1 : Int32) (x2 : Int32) (x3 : Option Nat) (w : kx_H) : kx_O := x0.bind fun a3 => kx_bic kH_162 (C 56 [kx_r 0 (some a3), kx_i x1, kx_i x2] w) fun y2 w1 =>
  if y2 = 0 then (J 16 [] [kx_l (0 : Int64), kx_i (0 : Int32), kx_r 100 x3] w1)
  else (J 16 [] [kx_l (1 : Int64), kx_i (0 : Int32), kx_r 100 x3] w1)
theorem me_162_0 {f d : Nat} {C : kx_C} {x0 : Option Nat} {x1 : Int32} {x2 : Int32} {x3 : Option Nat} {w : kx_H} : kx_ex (wm_162 d C) (f + 1) 0 [(0, kx_r 0 x0), (1, kx_i x1), (2, kx_i x2), (3, kx_r 100 x3)] [] w = mb_162_0 (kx_ex (wm_162 d C) f) d C x0 x1 x2 x3 w := Eq.trans rfl rfl
theorem mE_162 {φ d : Nat} (hφ : kx_fuel = φ + 1) {x0 : Option Nat} {x1 : Int32} {x2 : Int32} {x3 : Option Nat} {w : kx_H} : kx_ev wx_M (d + 1) 162 [kx_r 0 x0, kx_i x1, kx_i x2, kx_r 100 x3] w = mb_162_0 (kx_ex (wm_162 d (kx_ev wx_M d)) φ) d (kx_ev wx_M d) x0 x1 x2 x3 w := by
  show kx_ex (wx_M 162 d (kx_ev wx_M d)) kx_fuel 0 [(0, kx_r 0 x0), (1, kx_i x1), (2, kx_i x2), (3, kx_r 100 x3)] [] w = _
  rw [show wx_M 162 d (kx_ev wx_M d) = wm_162 d (kx_ev wx_M d) from rfl, hφ]
  exact me_162_0
def mb_162_16 (J : Nat → kx_F) (d : Nat) (C : kx_C) (xs0 : Int64) (xs1 : Int32) (xs2 : Option Nat) (w : kx_H) : kx_O := xs2.bind fun a1 => if xs1 < 0 ∨ hp_N w a1 ≤ xs1.toNatClampNeg then none else let w2 := hp_sL w (2 * a1 + 1) xs1.toNatClampNeg xs0;
  some (.inl (some (.inl (0 : Int32))), w2)
theorem me_162_16 {f d : Nat} {C : kx_C} {xs0 : Int64} {xs1 : Int32} {xs2 : Option Nat} {w : kx_H} : kx_ex (wm_162 d C) (f + 1) 16 [] [kx_l xs0, kx_i xs1, kx_r 100 xs2] w = mb_162_16 (kx_ex (wm_162 d C) f) d C xs0 xs1 xs2 w := Eq.trans rfl rfl
/-! TaskDeskLaw.gate(LTaskDesk;II[J)I -/
def mb_163_0 (J : Nat → kx_F) (d : Nat) (C : kx_C) (x0 : Option Nat) (x1 : Int32) (x2 : Int32) (x3 : Option Nat) (w : kx_H) : kx_O := x0.bind fun a3 => kx_bic kH_163 (C 63 [kx_r 0 (some a3), kx_i x1, kx_i x2] w) fun y2 w1 =>
  x3.bind fun a4 => if (0 : Int32) < 0 ∨ hp_N w1 a4 ≤ (0 : Int32).toNatClampNeg then none else let w5 := hp_sL w1 (2 * a4 + 1) (0 : Int32).toNatClampNeg (Int32.toInt64 y2);
  some (.inl (some (.inl (0 : Int32))), w5)
theorem me_163_0 {f d : Nat} {C : kx_C} {x0 : Option Nat} {x1 : Int32} {x2 : Int32} {x3 : Option Nat} {w : kx_H} : kx_ex (wm_163 d C) (f + 1) 0 [(0, kx_r 0 x0), (1, kx_i x1), (2, kx_i x2), (3, kx_r 100 x3)] [] w = mb_163_0 (kx_ex (wm_163 d C) f) d C x0 x1 x2 x3 w := Eq.trans rfl rfl
theorem mE_163 {φ d : Nat} (hφ : kx_fuel = φ + 1) {x0 : Option Nat} {x1 : Int32} {x2 : Int32} {x3 : Option Nat} {w : kx_H} : kx_ev wx_M (d + 1) 163 [kx_r 0 x0, kx_i x1, kx_i x2, kx_r 100 x3] w = mb_163_0 (kx_ex (wm_163 d (kx_ev wx_M d)) φ) d (kx_ev wx_M d) x0 x1 x2 x3 w := by
  show kx_ex (wx_M 163 d (kx_ev wx_M d)) kx_fuel 0 [(0, kx_r 0 x0), (1, kx_i x1), (2, kx_i x2), (3, kx_r 100 x3)] [] w = _
  rw [show wx_M 163 d (kx_ev wx_M d) = wm_163 d (kx_ev wx_M d) from rfl, hφ]
  exact me_163_0
/-! TaskDeskLaw.enter(LTaskDesk;I[J)I -/
def mb_164_0 (J : Nat → kx_F) (d : Nat) (C : kx_C) (x0 : Option Nat) (x1 : Int32) (x2 : Option Nat) (w : kx_H) : kx_O := x0.bind fun a3 => kx_bic kH_164 (C 65 [kx_r 0 (some a3), kx_i x1] w) fun y2 w1 =>
  if y2 = 0 then (J 15 [] [kx_l (0 : Int64), kx_i (0 : Int32), kx_r 100 x2] w1)
  else (J 15 [] [kx_l (1 : Int64), kx_i (0 : Int32), kx_r 100 x2] w1)
theorem me_164_0 {f d : Nat} {C : kx_C} {x0 : Option Nat} {x1 : Int32} {x2 : Option Nat} {w : kx_H} : kx_ex (wm_164 d C) (f + 1) 0 [(0, kx_r 0 x0), (1, kx_i x1), (2, kx_r 100 x2)] [] w = mb_164_0 (kx_ex (wm_164 d C) f) d C x0 x1 x2 w := Eq.trans rfl rfl
theorem mE_164 {φ d : Nat} (hφ : kx_fuel = φ + 1) {x0 : Option Nat} {x1 : Int32} {x2 : Option Nat} {w : kx_H} : kx_ev wx_M (d + 1) 164 [kx_r 0 x0, kx_i x1, kx_r 100 x2] w = mb_164_0 (kx_ex (wm_164 d (kx_ev wx_M d)) φ) d (kx_ev wx_M d) x0 x1 x2 w := by
  show kx_ex (wx_M 164 d (kx_ev wx_M d)) kx_fuel 0 [(0, kx_r 0 x0), (1, kx_i x1), (2, kx_r 100 x2)] [] w = _
  rw [show wx_M 164 d (kx_ev wx_M d) = wm_164 d (kx_ev wx_M d) from rfl, hφ]
  exact me_164_0
def mb_164_15 (J : Nat → kx_F) (d : Nat) (C : kx_C) (xs0 : Int64) (xs1 : Int32) (xs2 : Option Nat) (w : kx_H) : kx_O := xs2.bind fun a1 => if xs1 < 0 ∨ hp_N w a1 ≤ xs1.toNatClampNeg then none else let w2 := hp_sL w (2 * a1 + 1) xs1.toNatClampNeg xs0;
  some (.inl (some (.inl (0 : Int32))), w2)
theorem me_164_15 {f d : Nat} {C : kx_C} {xs0 : Int64} {xs1 : Int32} {xs2 : Option Nat} {w : kx_H} : kx_ex (wm_164 d C) (f + 1) 15 [] [kx_l xs0, kx_i xs1, kx_r 100 xs2] w = mb_164_15 (kx_ex (wm_164 d C) f) d C xs0 xs1 xs2 w := Eq.trans rfl rfl
/-! TaskDeskLaw.read(LTaskDesk;I[J)I -/
def mb_165_0 (J : Nat → kx_F) (d : Nat) (C : kx_C) (x0 : Option Nat) (x1 : Int32) (x2 : Option Nat) (w : kx_H) : kx_O := x0.bind fun a3 => kx_bic kH_165 (C 71 [kx_r 0 (some a3), kx_i x1] w) fun y2 w1 =>
  if y2 = 0 then (J 15 [] [kx_l (0 : Int64), kx_i (0 : Int32), kx_r 100 x2] w1)
  else (J 15 [] [kx_l (1 : Int64), kx_i (0 : Int32), kx_r 100 x2] w1)
theorem me_165_0 {f d : Nat} {C : kx_C} {x0 : Option Nat} {x1 : Int32} {x2 : Option Nat} {w : kx_H} : kx_ex (wm_165 d C) (f + 1) 0 [(0, kx_r 0 x0), (1, kx_i x1), (2, kx_r 100 x2)] [] w = mb_165_0 (kx_ex (wm_165 d C) f) d C x0 x1 x2 w := Eq.trans rfl rfl
theorem mE_165 {φ d : Nat} (hφ : kx_fuel = φ + 1) {x0 : Option Nat} {x1 : Int32} {x2 : Option Nat} {w : kx_H} : kx_ev wx_M (d + 1) 165 [kx_r 0 x0, kx_i x1, kx_r 100 x2] w = mb_165_0 (kx_ex (wm_165 d (kx_ev wx_M d)) φ) d (kx_ev wx_M d) x0 x1 x2 w := by
  show kx_ex (wx_M 165 d (kx_ev wx_M d)) kx_fuel 0 [(0, kx_r 0 x0), (1, kx_i x1), (2, kx_r 100 x2)] [] w = _
  rw [show wx_M 165 d (kx_ev wx_M d) = wm_165 d (kx_ev wx_M d) from rfl, hφ]
  exact me_165_0
def mb_165_15 (J : Nat → kx_F) (d : Nat) (C : kx_C) (xs0 : Int64) (xs1 : Int32) (xs2 : Option Nat) (w : kx_H) : kx_O := xs2.bind fun a1 => if xs1 < 0 ∨ hp_N w a1 ≤ xs1.toNatClampNeg then none else let w2 := hp_sL w (2 * a1 + 1) xs1.toNatClampNeg xs0;
  some (.inl (some (.inl (0 : Int32))), w2)
theorem me_165_15 {f d : Nat} {C : kx_C} {xs0 : Int64} {xs1 : Int32} {xs2 : Option Nat} {w : kx_H} : kx_ex (wm_165 d C) (f + 1) 15 [] [kx_l xs0, kx_i xs1, kx_r 100 xs2] w = mb_165_15 (kx_ex (wm_165 d C) f) d C xs0 xs1 xs2 w := Eq.trans rfl rfl
/-! TaskDeskLaw.leave(LTaskDesk;I)I -/
def mb_166_0 (J : Nat → kx_F) (d : Nat) (C : kx_C) (x0 : Option Nat) (x1 : Int32) (w : kx_H) : kx_O := x0.bind fun a3 => kx_bvc kH_166 (C 72 [kx_r 0 (some a3), kx_i x1] w) fun w1 =>
  some (.inl (some (.inl (0 : Int32))), w1)
theorem me_166_0 {f d : Nat} {C : kx_C} {x0 : Option Nat} {x1 : Int32} {w : kx_H} : kx_ex (wm_166 d C) (f + 1) 0 [(0, kx_r 0 x0), (1, kx_i x1)] [] w = mb_166_0 (kx_ex (wm_166 d C) f) d C x0 x1 w := Eq.trans rfl rfl
theorem mE_166 {φ d : Nat} (hφ : kx_fuel = φ + 1) {x0 : Option Nat} {x1 : Int32} {w : kx_H} : kx_ev wx_M (d + 1) 166 [kx_r 0 x0, kx_i x1] w = mb_166_0 (kx_ex (wm_166 d (kx_ev wx_M d)) φ) d (kx_ev wx_M d) x0 x1 w := by
  show kx_ex (wx_M 166 d (kx_ev wx_M d)) kx_fuel 0 [(0, kx_r 0 x0), (1, kx_i x1)] [] w = _
  rw [show wx_M 166 d (kx_ev wx_M d) = wm_166 d (kx_ev wx_M d) from rfl, hφ]
  exact me_166_0
/-! TaskDeskLaw.change(LTaskDesk;II)I -/
def mb_167_0 (J : Nat → kx_F) (d : Nat) (C : kx_C) (x0 : Option Nat) (x1 : Int32) (x2 : Int32) (w : kx_H) : kx_O := x0.bind fun a3 => kx_bvc kH_167 (C 78 [kx_r 0 (some a3), kx_i x1, kx_i x2] w) fun w1 =>
  some (.inl (some (.inl (0 : Int32))), w1)
theorem me_167_0 {f d : Nat} {C : kx_C} {x0 : Option Nat} {x1 : Int32} {x2 : Int32} {w : kx_H} : kx_ex (wm_167 d C) (f + 1) 0 [(0, kx_r 0 x0), (1, kx_i x1), (2, kx_i x2)] [] w = mb_167_0 (kx_ex (wm_167 d C) f) d C x0 x1 x2 w := Eq.trans rfl rfl
theorem mE_167 {φ d : Nat} (hφ : kx_fuel = φ + 1) {x0 : Option Nat} {x1 : Int32} {x2 : Int32} {w : kx_H} : kx_ev wx_M (d + 1) 167 [kx_r 0 x0, kx_i x1, kx_i x2] w = mb_167_0 (kx_ex (wm_167 d (kx_ev wx_M d)) φ) d (kx_ev wx_M d) x0 x1 x2 w := by
  show kx_ex (wx_M 167 d (kx_ev wx_M d)) kx_fuel 0 [(0, kx_r 0 x0), (1, kx_i x1), (2, kx_i x2)] [] w = _
  rw [show wx_M 167 d (kx_ev wx_M d) = wm_167 d (kx_ev wx_M d) from rfl, hφ]
  exact me_167_0
/-! TaskDeskLaw.task(LTaskDesk;II[J)I -/
def mb_168_0 (J : Nat → kx_F) (d : Nat) (C : kx_C) (x0 : Option Nat) (x1 : Int32) (x2 : Int32) (x3 : Option Nat) (w : kx_H) : kx_O := x0.bind fun a3 => kx_bic kH_168 (C 82 [kx_r 0 (some a3), kx_i x1, kx_i x2] w) fun y2 w1 =>
  x3.bind fun a4 => if (0 : Int32) < 0 ∨ hp_N w1 a4 ≤ (0 : Int32).toNatClampNeg then none else let w5 := hp_sL w1 (2 * a4 + 1) (0 : Int32).toNatClampNeg (Int32.toInt64 y2);
  some (.inl (some (.inl (0 : Int32))), w5)
theorem me_168_0 {f d : Nat} {C : kx_C} {x0 : Option Nat} {x1 : Int32} {x2 : Int32} {x3 : Option Nat} {w : kx_H} : kx_ex (wm_168 d C) (f + 1) 0 [(0, kx_r 0 x0), (1, kx_i x1), (2, kx_i x2), (3, kx_r 100 x3)] [] w = mb_168_0 (kx_ex (wm_168 d C) f) d C x0 x1 x2 x3 w := Eq.trans rfl rfl
theorem mE_168 {φ d : Nat} (hφ : kx_fuel = φ + 1) {x0 : Option Nat} {x1 : Int32} {x2 : Int32} {x3 : Option Nat} {w : kx_H} : kx_ev wx_M (d + 1) 168 [kx_r 0 x0, kx_i x1, kx_i x2, kx_r 100 x3] w = mb_168_0 (kx_ex (wm_168 d (kx_ev wx_M d)) φ) d (kx_ev wx_M d) x0 x1 x2 x3 w := by
  show kx_ex (wx_M 168 d (kx_ev wx_M d)) kx_fuel 0 [(0, kx_r 0 x0), (1, kx_i x1), (2, kx_i x2), (3, kx_r 100 x3)] [] w = _
  rw [show wx_M 168 d (kx_ev wx_M d) = wm_168 d (kx_ev wx_M d) from rfl, hφ]
  exact me_168_0
/-! TaskDeskLaw.outcome(LTaskDesk;I[J)I -/
def mb_169_0 (J : Nat → kx_F) (d : Nat) (C : kx_C) (x0 : Option Nat) (x1 : Int32) (x2 : Option Nat) (w : kx_H) : kx_O := x0.bind fun a3 => kx_blc kH_169 (C 85 [kx_r 0 (some a3), kx_i x1] w) fun y2 w1 =>
  x2.bind fun a4 => if (0 : Int32) < 0 ∨ hp_N w1 a4 ≤ (0 : Int32).toNatClampNeg then none else let w5 := hp_sL w1 (2 * a4 + 1) (0 : Int32).toNatClampNeg y2;
  some (.inl (some (.inl (0 : Int32))), w5)
theorem me_169_0 {f d : Nat} {C : kx_C} {x0 : Option Nat} {x1 : Int32} {x2 : Option Nat} {w : kx_H} : kx_ex (wm_169 d C) (f + 1) 0 [(0, kx_r 0 x0), (1, kx_i x1), (2, kx_r 100 x2)] [] w = mb_169_0 (kx_ex (wm_169 d C) f) d C x0 x1 x2 w := Eq.trans rfl rfl
theorem mE_169 {φ d : Nat} (hφ : kx_fuel = φ + 1) {x0 : Option Nat} {x1 : Int32} {x2 : Option Nat} {w : kx_H} : kx_ev wx_M (d + 1) 169 [kx_r 0 x0, kx_i x1, kx_r 100 x2] w = mb_169_0 (kx_ex (wm_169 d (kx_ev wx_M d)) φ) d (kx_ev wx_M d) x0 x1 x2 w := by
  show kx_ex (wx_M 169 d (kx_ev wx_M d)) kx_fuel 0 [(0, kx_r 0 x0), (1, kx_i x1), (2, kx_r 100 x2)] [] w = _
  rw [show wx_M 169 d (kx_ev wx_M d) = wm_169 d (kx_ev wx_M d) from rfl, hφ]
  exact me_169_0
/-! TaskDeskLaw.look(LTaskDesk;II[J)I -/
def mb_170_0 (J : Nat → kx_F) (d : Nat) (C : kx_C) (x0 : Option Nat) (x1 : Int32) (x2 : Int32) (x3 : Option Nat) (w : kx_H) : kx_O := x0.bind fun a3 => kx_bic kH_170 (C 86 [kx_r 0 (some a3), kx_i x1, kx_i x2] w) fun y2 w1 =>
  x3.bind fun a4 => if (0 : Int32) < 0 ∨ hp_N w1 a4 ≤ (0 : Int32).toNatClampNeg then none else let w5 := hp_sL w1 (2 * a4 + 1) (0 : Int32).toNatClampNeg (Int32.toInt64 y2);
  some (.inl (some (.inl (0 : Int32))), w5)
theorem me_170_0 {f d : Nat} {C : kx_C} {x0 : Option Nat} {x1 : Int32} {x2 : Int32} {x3 : Option Nat} {w : kx_H} : kx_ex (wm_170 d C) (f + 1) 0 [(0, kx_r 0 x0), (1, kx_i x1), (2, kx_i x2), (3, kx_r 100 x3)] [] w = mb_170_0 (kx_ex (wm_170 d C) f) d C x0 x1 x2 x3 w := Eq.trans rfl rfl
theorem mE_170 {φ d : Nat} (hφ : kx_fuel = φ + 1) {x0 : Option Nat} {x1 : Int32} {x2 : Int32} {x3 : Option Nat} {w : kx_H} : kx_ev wx_M (d + 1) 170 [kx_r 0 x0, kx_i x1, kx_i x2, kx_r 100 x3] w = mb_170_0 (kx_ex (wm_170 d (kx_ev wx_M d)) φ) d (kx_ev wx_M d) x0 x1 x2 x3 w := by
  show kx_ex (wx_M 170 d (kx_ev wx_M d)) kx_fuel 0 [(0, kx_r 0 x0), (1, kx_i x1), (2, kx_i x2), (3, kx_r 100 x3)] [] w = _
  rw [show wx_M 170 d (kx_ev wx_M d) = wm_170 d (kx_ev wx_M d) from rfl, hφ]
  exact me_170_0
/-! TaskDeskLaw.watch(LTaskDesk;II[J)I -/
def mb_171_0 (J : Nat → kx_F) (d : Nat) (C : kx_C) (x0 : Option Nat) (x1 : Int32) (x2 : Int32) (x3 : Option Nat) (w : kx_H) : kx_O := x0.bind fun a3 => kx_bic kH_171 (C 87 [kx_r 0 (some a3), kx_i x1, kx_i x2] w) fun y2 w1 =>
  x3.bind fun a4 => if (0 : Int32) < 0 ∨ hp_N w1 a4 ≤ (0 : Int32).toNatClampNeg then none else let w5 := hp_sL w1 (2 * a4 + 1) (0 : Int32).toNatClampNeg (Int32.toInt64 y2);
  some (.inl (some (.inl (0 : Int32))), w5)
theorem me_171_0 {f d : Nat} {C : kx_C} {x0 : Option Nat} {x1 : Int32} {x2 : Int32} {x3 : Option Nat} {w : kx_H} : kx_ex (wm_171 d C) (f + 1) 0 [(0, kx_r 0 x0), (1, kx_i x1), (2, kx_i x2), (3, kx_r 100 x3)] [] w = mb_171_0 (kx_ex (wm_171 d C) f) d C x0 x1 x2 x3 w := Eq.trans rfl rfl
theorem mE_171 {φ d : Nat} (hφ : kx_fuel = φ + 1) {x0 : Option Nat} {x1 : Int32} {x2 : Int32} {x3 : Option Nat} {w : kx_H} : kx_ev wx_M (d + 1) 171 [kx_r 0 x0, kx_i x1, kx_i x2, kx_r 100 x3] w = mb_171_0 (kx_ex (wm_171 d (kx_ev wx_M d)) φ) d (kx_ev wx_M d) x0 x1 x2 x3 w := by
  show kx_ex (wx_M 171 d (kx_ev wx_M d)) kx_fuel 0 [(0, kx_r 0 x0), (1, kx_i x1), (2, kx_i x2), (3, kx_r 100 x3)] [] w = _
  rw [show wx_M 171 d (kx_ev wx_M d) = wm_171 d (kx_ev wx_M d) from rfl, hφ]
  exact me_171_0
/-! TaskDeskLaw.law([I)Z -/
def ml_23 (J : Nat → kx_F) (d : Nat) (C : kx_C) (x0 : Option Nat) (x1 : Option Nat) (x2 : Option Nat) (x3 : Option Nat) (x4 : Int32) (w : kx_H) : kx_O := x0.bind fun a1 => if (Int32.ofNat (hp_N w a1)) - (5 : Int32) < x4 then (if (1 : Int32) = 0 ∨ (1 : Int32) = 1 then some (.inl (some (.inl (1 : Int32))), w) else none)
  else (x0.bind fun a2 => if x4 < 0 ∨ hp_N w a2 ≤ x4.toNatClampNeg then none else if (hp_I w (2 * a2 + 1) x4.toNatClampNeg) &&& (31 : Int32) = 0 then (kx_bi (C 152 [kx_r 0 x1, kx_r 100 x3] w) fun y4 w3 =>
      x2.bind fun a7 => kx_bi (C 120 [kx_r 9 (some a7)] w3) fun y6 w5 =>
      x2.bind fun a10 => kx_bi (C 89 [kx_r 9 (some a10)] w5) fun y9 w8 =>
      if y9 = y4 then (if y4 = 0 then (x3.bind fun a11 => if (0 : Int32) < 0 ∨ hp_N w8 a11 ≤ (0 : Int32).toNatClampNeg then none else if lg_cmp (hp_L w8 (2 * a11 + 1) (0 : Int32).toNatClampNeg) (Int32.toInt64 y6) = 0 then (J 189 [(0, kx_r 98 x0), (1, kx_r 0 x1), (2, kx_r 9 x2), (3, kx_r 100 x3), (4, kx_i x4)] [] w8)
          else (if (0 : Int32) = 0 ∨ (0 : Int32) = 1 then some (.inl (some (.inl (0 : Int32))), w8) else none))
        else (J 189 [(0, kx_r 98 x0), (1, kx_r 0 x1), (2, kx_r 9 x2), (3, kx_r 100 x3), (4, kx_i x4)] [] w8))
      else (if (0 : Int32) = 0 ∨ (0 : Int32) = 1 then some (.inl (some (.inl (0 : Int32))), w8) else none))
    else if (hp_I w (2 * a2 + 1) x4.toNatClampNeg) &&& (31 : Int32) = 1 then (kx_bi (C 153 [kx_r 0 x1, kx_r 100 x3] w) fun y13 w12 =>
      x2.bind fun a16 => kx_bi (C 121 [kx_r 9 (some a16)] w12) fun y15 w14 =>
      x2.bind fun a19 => kx_bi (C 89 [kx_r 9 (some a19)] w14) fun y18 w17 =>
      if y18 = y13 then (if y13 = 0 then (x3.bind fun a20 => if (0 : Int32) < 0 ∨ hp_N w17 a20 ≤ (0 : Int32).toNatClampNeg then none else if lg_cmp (hp_L w17 (2 * a20 + 1) (0 : Int32).toNatClampNeg) (Int32.toInt64 y15) = 0 then (J 233 [(0, kx_r 98 x0), (1, kx_r 0 x1), (2, kx_r 9 x2), (3, kx_r 100 x3), (4, kx_i x4)] [] w17)
          else (if (0 : Int32) = 0 ∨ (0 : Int32) = 1 then some (.inl (some (.inl (0 : Int32))), w17) else none))
        else (J 233 [(0, kx_r 98 x0), (1, kx_r 0 x1), (2, kx_r 9 x2), (3, kx_r 100 x3), (4, kx_i x4)] [] w17))
      else (if (0 : Int32) = 0 ∨ (0 : Int32) = 1 then some (.inl (some (.inl (0 : Int32))), w17) else none))
    else if (hp_I w (2 * a2 + 1) x4.toNatClampNeg) &&& (31 : Int32) = 2 then (kx_bi (C 154 [kx_r 0 x1, kx_r 100 x3] w) fun y22 w21 =>
      x2.bind fun a25 => kx_bi (C 122 [kx_r 9 (some a25)] w21) fun y24 w23 =>
      x2.bind fun a28 => kx_bi (C 89 [kx_r 9 (some a28)] w23) fun y27 w26 =>
      if y27 = y22 then (if y22 = 0 then (x3.bind fun a29 => if (0 : Int32) < 0 ∨ hp_N w26 a29 ≤ (0 : Int32).toNatClampNeg then none else if lg_cmp (hp_L w26 (2 * a29 + 1) (0 : Int32).toNatClampNeg) (Int32.toInt64 y24) = 0 then (J 277 [(0, kx_r 98 x0), (1, kx_r 0 x1), (2, kx_r 9 x2), (3, kx_r 100 x3), (4, kx_i x4)] [] w26)
          else (if (0 : Int32) = 0 ∨ (0 : Int32) = 1 then some (.inl (some (.inl (0 : Int32))), w26) else none))
        else (J 277 [(0, kx_r 98 x0), (1, kx_r 0 x1), (2, kx_r 9 x2), (3, kx_r 100 x3), (4, kx_i x4)] [] w26))
      else (if (0 : Int32) = 0 ∨ (0 : Int32) = 1 then some (.inl (some (.inl (0 : Int32))), w26) else none))
    else if (hp_I w (2 * a2 + 1) x4.toNatClampNeg) &&& (31 : Int32) = 3 then (x0.bind fun a30 => if x4 + (1 : Int32) < 0 ∨ hp_N w a30 ≤ (x4 + (1 : Int32) : Int32).toNatClampNeg then none else x0.bind fun a31 => if x4 + (2 : Int32) < 0 ∨ hp_N w a31 ≤ (x4 + (2 : Int32) : Int32).toNatClampNeg then none else kx_bi (C 155 [kx_r 0 x1, kx_l (((Int32.toInt64 (hp_I w (2 * a30 + 1) (x4 + (1 : Int32) : Int32).toNatClampNeg)) <<< ((32 : Int32).toInt64 &&& 63)) ||| ((Int32.toInt64 (hp_I w (2 * a31 + 1) (x4 + (2 : Int32) : Int32).toNatClampNeg)) &&& (4294967295 : Int64))), kx_r 100 x3] w) fun y33 w32 =>
      x0.bind fun a34 => if x4 + (1 : Int32) < 0 ∨ hp_N w32 a34 ≤ (x4 + (1 : Int32) : Int32).toNatClampNeg then none else x0.bind fun a35 => if x4 + (2 : Int32) < 0 ∨ hp_N w32 a35 ≤ (x4 + (2 : Int32) : Int32).toNatClampNeg then none else x2.bind fun a38 => kx_bi (C 123 [kx_r 9 (some a38), kx_l (((Int32.toInt64 (hp_I w32 (2 * a34 + 1) (x4 + (1 : Int32) : Int32).toNatClampNeg)) <<< ((32 : Int32).toInt64 &&& 63)) ||| ((Int32.toInt64 (hp_I w32 (2 * a35 + 1) (x4 + (2 : Int32) : Int32).toNatClampNeg)) &&& (4294967295 : Int64)))] w32) fun y37 w36 =>
      x2.bind fun a41 => kx_bi (C 89 [kx_r 9 (some a41)] w36) fun y40 w39 =>
      if y40 = y33 then (if y33 = 0 then (x3.bind fun a42 => if (0 : Int32) < 0 ∨ hp_N w39 a42 ≤ (0 : Int32).toNatClampNeg then none else if lg_cmp (hp_L w39 (2 * a42 + 1) (0 : Int32).toNatClampNeg) (Int32.toInt64 y37) = 0 then (J 365 [(0, kx_r 98 x0), (1, kx_r 0 x1), (2, kx_r 9 x2), (3, kx_r 100 x3), (4, kx_i x4)] [] w39)
          else (if (0 : Int32) = 0 ∨ (0 : Int32) = 1 then some (.inl (some (.inl (0 : Int32))), w39) else none))
        else (J 365 [(0, kx_r 98 x0), (1, kx_r 0 x1), (2, kx_r 9 x2), (3, kx_r 100 x3), (4, kx_i x4)] [] w39))
      else (if (0 : Int32) = 0 ∨ (0 : Int32) = 1 then some (.inl (some (.inl (0 : Int32))), w39) else none))
    else if (hp_I w (2 * a2 + 1) x4.toNatClampNeg) &&& (31 : Int32) = 4 then (x0.bind fun a43 => if x4 + (1 : Int32) < 0 ∨ hp_N w a43 ≤ (x4 + (1 : Int32) : Int32).toNatClampNeg then none else kx_bi (C 156 [kx_r 0 x1, kx_i (hp_I w (2 * a43 + 1) (x4 + (1 : Int32) : Int32).toNatClampNeg), kx_r 100 x3] w) fun y45 w44 =>
      x0.bind fun a46 => if x4 + (1 : Int32) < 0 ∨ hp_N w44 a46 ≤ (x4 + (1 : Int32) : Int32).toNatClampNeg then none else x2.bind fun a49 => kx_bi (C 90 [kx_r 9 (some a49), kx_i (hp_I w44 (2 * a46 + 1) (x4 + (1 : Int32) : Int32).toNatClampNeg)] w44) fun y48 w47 =>
      x2.bind fun a52 => kx_bi (C 89 [kx_r 9 (some a52)] w47) fun y51 w50 =>
      if y51 = y45 then (if y45 = 0 then (x3.bind fun a53 => if (0 : Int32) < 0 ∨ hp_N w50 a53 ≤ (0 : Int32).toNatClampNeg then none else if lg_cmp (hp_L w50 (2 * a53 + 1) (0 : Int32).toNatClampNeg) (Int32.toInt64 y48) = 0 then (J 421 [(0, kx_r 98 x0), (1, kx_r 0 x1), (2, kx_r 9 x2), (3, kx_r 100 x3), (4, kx_i x4)] [] w50)
          else (if (0 : Int32) = 0 ∨ (0 : Int32) = 1 then some (.inl (some (.inl (0 : Int32))), w50) else none))
        else (J 421 [(0, kx_r 98 x0), (1, kx_r 0 x1), (2, kx_r 9 x2), (3, kx_r 100 x3), (4, kx_i x4)] [] w50))
      else (if (0 : Int32) = 0 ∨ (0 : Int32) = 1 then some (.inl (some (.inl (0 : Int32))), w50) else none))
    else if (hp_I w (2 * a2 + 1) x4.toNatClampNeg) &&& (31 : Int32) = 5 then (x0.bind fun a54 => if x4 + (1 : Int32) < 0 ∨ hp_N w a54 ≤ (x4 + (1 : Int32) : Int32).toNatClampNeg then none else x1.bind fun a57 => kx_bi (C 13 [kx_r 0 (some a57), kx_i (hp_I w (2 * a54 + 1) (x4 + (1 : Int32) : Int32).toNatClampNeg)] w) fun y56 w55 =>
      x0.bind fun a58 => if x4 + (1 : Int32) < 0 ∨ hp_N w55 a58 ≤ (x4 + (1 : Int32) : Int32).toNatClampNeg then none else x2.bind fun a61 => kx_bi (C 92 [kx_r 9 (some a61), kx_i (hp_I w55 (2 * a58 + 1) (x4 + (1 : Int32) : Int32).toNatClampNeg)] w55) fun y60 w59 =>
      if y56 = y60 then (J 1543 [(0, kx_r 98 x0), (1, kx_r 0 x1), (2, kx_r 9 x2), (3, kx_r 100 x3), (4, kx_i x4)] [] w59)
      else (if (0 : Int32) = 0 ∨ (0 : Int32) = 1 then some (.inl (some (.inl (0 : Int32))), w59) else none))
    else if (hp_I w (2 * a2 + 1) x4.toNatClampNeg) &&& (31 : Int32) = 6 then (x0.bind fun a62 => if x4 + (1 : Int32) < 0 ∨ hp_N w a62 ≤ (x4 + (1 : Int32) : Int32).toNatClampNeg then none else x0.bind fun a63 => if x4 + (2 : Int32) < 0 ∨ hp_N w a63 ≤ (x4 + (2 : Int32) : Int32).toNatClampNeg then none else x0.bind fun a64 => if x4 + (3 : Int32) < 0 ∨ hp_N w a64 ≤ (x4 + (3 : Int32) : Int32).toNatClampNeg then none else kx_bi (C 157 [kx_r 0 x1, kx_i (hp_I w (2 * a62 + 1) (x4 + (1 : Int32) : Int32).toNatClampNeg), kx_l (((Int32.toInt64 (hp_I w (2 * a63 + 1) (x4 + (2 : Int32) : Int32).toNatClampNeg)) <<< ((32 : Int32).toInt64 &&& 63)) ||| ((Int32.toInt64 (hp_I w (2 * a64 + 1) (x4 + (3 : Int32) : Int32).toNatClampNeg)) &&& (4294967295 : Int64)))] w) fun y66 w65 =>
      x0.bind fun a67 => if x4 + (1 : Int32) < 0 ∨ hp_N w65 a67 ≤ (x4 + (1 : Int32) : Int32).toNatClampNeg then none else x0.bind fun a68 => if x4 + (2 : Int32) < 0 ∨ hp_N w65 a68 ≤ (x4 + (2 : Int32) : Int32).toNatClampNeg then none else x0.bind fun a69 => if x4 + (3 : Int32) < 0 ∨ hp_N w65 a69 ≤ (x4 + (3 : Int32) : Int32).toNatClampNeg then none else x2.bind fun a72 => kx_bv (C 97 [kx_r 9 (some a72), kx_i (hp_I w65 (2 * a67 + 1) (x4 + (1 : Int32) : Int32).toNatClampNeg), kx_l (((Int32.toInt64 (hp_I w65 (2 * a68 + 1) (x4 + (2 : Int32) : Int32).toNatClampNeg)) <<< ((32 : Int32).toInt64 &&& 63)) ||| ((Int32.toInt64 (hp_I w65 (2 * a69 + 1) (x4 + (3 : Int32) : Int32).toNatClampNeg)) &&& (4294967295 : Int64)))] w65) fun w70 =>
      x2.bind fun a75 => kx_bi (C 89 [kx_r 9 (some a75)] w70) fun y74 w73 =>
      if y74 = y66 then (J 1543 [(0, kx_r 98 x0), (1, kx_r 0 x1), (2, kx_r 9 x2), (3, kx_r 100 x3), (4, kx_i x4)] [] w73)
      else (if (0 : Int32) = 0 ∨ (0 : Int32) = 1 then some (.inl (some (.inl (0 : Int32))), w73) else none))
    else if (hp_I w (2 * a2 + 1) x4.toNatClampNeg) &&& (31 : Int32) = 7 then (x0.bind fun a76 => if x4 + (1 : Int32) < 0 ∨ hp_N w a76 ≤ (x4 + (1 : Int32) : Int32).toNatClampNeg then none else x0.bind fun a77 => if x4 + (2 : Int32) < 0 ∨ hp_N w a77 ≤ (x4 + (2 : Int32) : Int32).toNatClampNeg then none else x0.bind fun a78 => if x4 + (3 : Int32) < 0 ∨ hp_N w a78 ≤ (x4 + (3 : Int32) : Int32).toNatClampNeg then none else kx_bi (C 158 [kx_r 0 x1, kx_i (hp_I w (2 * a76 + 1) (x4 + (1 : Int32) : Int32).toNatClampNeg), kx_l (((Int32.toInt64 (hp_I w (2 * a77 + 1) (x4 + (2 : Int32) : Int32).toNatClampNeg)) <<< ((32 : Int32).toInt64 &&& 63)) ||| ((Int32.toInt64 (hp_I w (2 * a78 + 1) (x4 + (3 : Int32) : Int32).toNatClampNeg)) &&& (4294967295 : Int64))), kx_r 100 x3] w) fun y80 w79 =>
      x0.bind fun a81 => if x4 + (1 : Int32) < 0 ∨ hp_N w79 a81 ≤ (x4 + (1 : Int32) : Int32).toNatClampNeg then none else x0.bind fun a82 => if x4 + (2 : Int32) < 0 ∨ hp_N w79 a82 ≤ (x4 + (2 : Int32) : Int32).toNatClampNeg then none else x0.bind fun a83 => if x4 + (3 : Int32) < 0 ∨ hp_N w79 a83 ≤ (x4 + (3 : Int32) : Int32).toNatClampNeg then none else x2.bind fun a86 => kx_bi (C 98 [kx_r 9 (some a86), kx_i (hp_I w79 (2 * a81 + 1) (x4 + (1 : Int32) : Int32).toNatClampNeg), kx_l (((Int32.toInt64 (hp_I w79 (2 * a82 + 1) (x4 + (2 : Int32) : Int32).toNatClampNeg)) <<< ((32 : Int32).toInt64 &&& 63)) ||| ((Int32.toInt64 (hp_I w79 (2 * a83 + 1) (x4 + (3 : Int32) : Int32).toNatClampNeg)) &&& (4294967295 : Int64)))] w79) fun y85 w84 =>
      x2.bind fun a89 => kx_bi (C 89 [kx_r 9 (some a89)] w84) fun y88 w87 =>
      if y88 = y80 then (if y80 = 0 then (x3.bind fun a90 => if (0 : Int32) < 0 ∨ hp_N w87 a90 ≤ (0 : Int32).toNatClampNeg then none else if y85 = 0 then (J 627 [(0, kx_r 98 x0), (1, kx_r 0 x1), (2, kx_r 9 x2), (3, kx_r 100 x3), (4, kx_i x4)] [kx_l (0 : Int64), kx_l (hp_L w87 (2 * a90 + 1) (0 : Int32).toNatClampNeg)] w87)
          else (J 627 [(0, kx_r 98 x0), (1, kx_r 0 x1), (2, kx_r 9 x2), (3, kx_r 100 x3), (4, kx_i x4)] [kx_l (1 : Int64), kx_l (hp_L w87 (2 * a90 + 1) (0 : Int32).toNatClampNeg)] w87))
        else (J 633 [(0, kx_r 98 x0), (1, kx_r 0 x1), (2, kx_r 9 x2), (3, kx_r 100 x3), (4, kx_i x4)] [] w87))
      else (if (0 : Int32) = 0 ∨ (0 : Int32) = 1 then some (.inl (some (.inl (0 : Int32))), w87) else none))
    else if (hp_I w (2 * a2 + 1) x4.toNatClampNeg) &&& (31 : Int32) = 8 then (x0.bind fun a91 => if x4 + (1 : Int32) < 0 ∨ hp_N w a91 ≤ (x4 + (1 : Int32) : Int32).toNatClampNeg then none else kx_bi (C 159 [kx_r 0 x1, kx_i (hp_I w (2 * a91 + 1) (x4 + (1 : Int32) : Int32).toNatClampNeg), kx_r 100 x3] w) fun y93 w92 =>
      x0.bind fun a94 => if x4 + (1 : Int32) < 0 ∨ hp_N w92 a94 ≤ (x4 + (1 : Int32) : Int32).toNatClampNeg then none else x2.bind fun a97 => kx_bi (C 112 [kx_r 9 (some a97), kx_i (hp_I w92 (2 * a94 + 1) (x4 + (1 : Int32) : Int32).toNatClampNeg)] w92) fun y96 w95 =>
      x2.bind fun a100 => kx_bi (C 89 [kx_r 9 (some a100)] w95) fun y99 w98 =>
      if y99 = y93 then (if y93 = 0 then (x3.bind fun a101 => if (0 : Int32) < 0 ∨ hp_N w98 a101 ≤ (0 : Int32).toNatClampNeg then none else if y96 = 0 then (J 690 [(0, kx_r 98 x0), (1, kx_r 0 x1), (2, kx_r 9 x2), (3, kx_r 100 x3), (4, kx_i x4)] [kx_l (0 : Int64), kx_l (hp_L w98 (2 * a101 + 1) (0 : Int32).toNatClampNeg)] w98)
          else (J 690 [(0, kx_r 98 x0), (1, kx_r 0 x1), (2, kx_r 9 x2), (3, kx_r 100 x3), (4, kx_i x4)] [kx_l (1 : Int64), kx_l (hp_L w98 (2 * a101 + 1) (0 : Int32).toNatClampNeg)] w98))
        else (J 696 [(0, kx_r 98 x0), (1, kx_r 0 x1), (2, kx_r 9 x2), (3, kx_r 100 x3), (4, kx_i x4)] [] w98))
      else (if (0 : Int32) = 0 ∨ (0 : Int32) = 1 then some (.inl (some (.inl (0 : Int32))), w98) else none))
    else if (hp_I w (2 * a2 + 1) x4.toNatClampNeg) &&& (31 : Int32) = 9 then (x0.bind fun a102 => if x4 + (1 : Int32) < 0 ∨ hp_N w a102 ≤ (x4 + (1 : Int32) : Int32).toNatClampNeg then none else kx_bi (C 160 [kx_r 0 x1, kx_i (hp_I w (2 * a102 + 1) (x4 + (1 : Int32) : Int32).toNatClampNeg)] w) fun y104 w103 =>
      x0.bind fun a105 => if x4 + (1 : Int32) < 0 ∨ hp_N w103 a105 ≤ (x4 + (1 : Int32) : Int32).toNatClampNeg then none else x2.bind fun a108 => kx_bv (C 115 [kx_r 9 (some a108), kx_i (hp_I w103 (2 * a105 + 1) (x4 + (1 : Int32) : Int32).toNatClampNeg)] w103) fun w106 =>
      x2.bind fun a111 => kx_bi (C 89 [kx_r 9 (some a111)] w106) fun y110 w109 =>
      if y110 = y104 then (J 1543 [(0, kx_r 98 x0), (1, kx_r 0 x1), (2, kx_r 9 x2), (3, kx_r 100 x3), (4, kx_i x4)] [] w109)
      else (if (0 : Int32) = 0 ∨ (0 : Int32) = 1 then some (.inl (some (.inl (0 : Int32))), w109) else none))
    else if (hp_I w (2 * a2 + 1) x4.toNatClampNeg) &&& (31 : Int32) = 10 then (x0.bind fun a112 => if x4 + (1 : Int32) < 0 ∨ hp_N w a112 ≤ (x4 + (1 : Int32) : Int32).toNatClampNeg then none else x0.bind fun a113 => if x4 + (2 : Int32) < 0 ∨ hp_N w a113 ≤ (x4 + (2 : Int32) : Int32).toNatClampNeg then none else if hp_I w (2 * a113 + 1) (x4 + (2 : Int32) : Int32).toNatClampNeg = 0 then (J 756 [(0, kx_r 98 x0), (1, kx_r 0 x1), (2, kx_r 9 x2), (3, kx_r 100 x3), (4, kx_i x4)] [kx_i (0 : Int32), kx_i (hp_I w (2 * a112 + 1) (x4 + (1 : Int32) : Int32).toNatClampNeg), kx_r 0 x1] w)
      else (J 756 [(0, kx_r 98 x0), (1, kx_r 0 x1), (2, kx_r 9 x2), (3, kx_r 100 x3), (4, kx_i x4)] [kx_i (1 : Int32), kx_i (hp_I w (2 * a112 + 1) (x4 + (1 : Int32) : Int32).toNatClampNeg), kx_r 0 x1] w))
    else if (hp_I w (2 * a2 + 1) x4.toNatClampNeg) &&& (31 : Int32) = 11 then (x0.bind fun a114 => if x4 + (1 : Int32) < 0 ∨ hp_N w a114 ≤ (x4 + (1 : Int32) : Int32).toNatClampNeg then none else x0.bind fun a115 => if x4 + (2 : Int32) < 0 ∨ hp_N w a115 ≤ (x4 + (2 : Int32) : Int32).toNatClampNeg then none else if hp_I w (2 * a115 + 1) (x4 + (2 : Int32) : Int32).toNatClampNeg = 0 then (J 884 [(0, kx_r 98 x0), (1, kx_r 0 x1), (2, kx_r 9 x2), (3, kx_r 100 x3), (4, kx_i x4)] [kx_i (0 : Int32), kx_i (hp_I w (2 * a114 + 1) (x4 + (1 : Int32) : Int32).toNatClampNeg), kx_r 0 x1] w)
      else (J 884 [(0, kx_r 98 x0), (1, kx_r 0 x1), (2, kx_r 9 x2), (3, kx_r 100 x3), (4, kx_i x4)] [kx_i (1 : Int32), kx_i (hp_I w (2 * a114 + 1) (x4 + (1 : Int32) : Int32).toNatClampNeg), kx_r 0 x1] w))
    else if (hp_I w (2 * a2 + 1) x4.toNatClampNeg) &&& (31 : Int32) = 12 then (x0.bind fun a116 => if x4 + (1 : Int32) < 0 ∨ hp_N w a116 ≤ (x4 + (1 : Int32) : Int32).toNatClampNeg then none else x0.bind fun a117 => if x4 + (2 : Int32) < 0 ∨ hp_N w a117 ≤ (x4 + (2 : Int32) : Int32).toNatClampNeg then none else kx_bi (C 163 [kx_r 0 x1, kx_i (hp_I w (2 * a116 + 1) (x4 + (1 : Int32) : Int32).toNatClampNeg), kx_i (hp_I w (2 * a117 + 1) (x4 + (2 : Int32) : Int32).toNatClampNeg), kx_r 100 x3] w) fun y119 w118 =>
      x0.bind fun a120 => if x4 + (1 : Int32) < 0 ∨ hp_N w118 a120 ≤ (x4 + (1 : Int32) : Int32).toNatClampNeg then none else x0.bind fun a121 => if x4 + (2 : Int32) < 0 ∨ hp_N w118 a121 ≤ (x4 + (2 : Int32) : Int32).toNatClampNeg then none else x2.bind fun a124 => kx_bi (C 124 [kx_r 9 (some a124), kx_i (hp_I w118 (2 * a120 + 1) (x4 + (1 : Int32) : Int32).toNatClampNeg), kx_i (hp_I w118 (2 * a121 + 1) (x4 + (2 : Int32) : Int32).toNatClampNeg)] w118) fun y123 w122 =>
      x2.bind fun a127 => kx_bi (C 89 [kx_r 9 (some a127)] w122) fun y126 w125 =>
      if y126 = y119 then (if y119 = 0 then (x3.bind fun a128 => if (0 : Int32) < 0 ∨ hp_N w125 a128 ≤ (0 : Int32).toNatClampNeg then none else if lg_cmp (hp_L w125 (2 * a128 + 1) (0 : Int32).toNatClampNeg) (Int32.toInt64 y123) = 0 then (J 1019 [(0, kx_r 98 x0), (1, kx_r 0 x1), (2, kx_r 9 x2), (3, kx_r 100 x3), (4, kx_i x4)] [] w125)
          else (if (0 : Int32) = 0 ∨ (0 : Int32) = 1 then some (.inl (some (.inl (0 : Int32))), w125) else none))
        else (J 1019 [(0, kx_r 98 x0), (1, kx_r 0 x1), (2, kx_r 9 x2), (3, kx_r 100 x3), (4, kx_i x4)] [] w125))
      else (if (0 : Int32) = 0 ∨ (0 : Int32) = 1 then some (.inl (some (.inl (0 : Int32))), w125) else none))
    else if (hp_I w (2 * a2 + 1) x4.toNatClampNeg) &&& (31 : Int32) = 13 then (x0.bind fun a129 => if x4 + (1 : Int32) < 0 ∨ hp_N w a129 ≤ (x4 + (1 : Int32) : Int32).toNatClampNeg then none else kx_bi (C 164 [kx_r 0 x1, kx_i (hp_I w (2 * a129 + 1) (x4 + (1 : Int32) : Int32).toNatClampNeg), kx_r 100 x3] w) fun y131 w130 =>
      x0.bind fun a132 => if x4 + (1 : Int32) < 0 ∨ hp_N w130 a132 ≤ (x4 + (1 : Int32) : Int32).toNatClampNeg then none else x2.bind fun a135 => kx_bi (C 126 [kx_r 9 (some a135), kx_i (hp_I w130 (2 * a132 + 1) (x4 + (1 : Int32) : Int32).toNatClampNeg)] w130) fun y134 w133 =>
      x2.bind fun a138 => kx_bi (C 89 [kx_r 9 (some a138)] w133) fun y137 w136 =>
      if y137 = y131 then (if y131 = 0 then (x3.bind fun a139 => if (0 : Int32) < 0 ∨ hp_N w136 a139 ≤ (0 : Int32).toNatClampNeg then none else if y134 = 0 then (J 1076 [(0, kx_r 98 x0), (1, kx_r 0 x1), (2, kx_r 9 x2), (3, kx_r 100 x3), (4, kx_i x4)] [kx_l (0 : Int64), kx_l (hp_L w136 (2 * a139 + 1) (0 : Int32).toNatClampNeg)] w136)
          else (J 1076 [(0, kx_r 98 x0), (1, kx_r 0 x1), (2, kx_r 9 x2), (3, kx_r 100 x3), (4, kx_i x4)] [kx_l (1 : Int64), kx_l (hp_L w136 (2 * a139 + 1) (0 : Int32).toNatClampNeg)] w136))
        else (J 1082 [(0, kx_r 98 x0), (1, kx_r 0 x1), (2, kx_r 9 x2), (3, kx_r 100 x3), (4, kx_i x4)] [] w136))
      else (if (0 : Int32) = 0 ∨ (0 : Int32) = 1 then some (.inl (some (.inl (0 : Int32))), w136) else none))
    else if (hp_I w (2 * a2 + 1) x4.toNatClampNeg) &&& (31 : Int32) = 14 then (x0.bind fun a140 => if x4 + (1 : Int32) < 0 ∨ hp_N w a140 ≤ (x4 + (1 : Int32) : Int32).toNatClampNeg then none else kx_bi (C 165 [kx_r 0 x1, kx_i (hp_I w (2 * a140 + 1) (x4 + (1 : Int32) : Int32).toNatClampNeg), kx_r 100 x3] w) fun y142 w141 =>
      x0.bind fun a143 => if x4 + (1 : Int32) < 0 ∨ hp_N w141 a143 ≤ (x4 + (1 : Int32) : Int32).toNatClampNeg then none else x2.bind fun a146 => kx_bi (C 133 [kx_r 9 (some a146), kx_i (hp_I w141 (2 * a143 + 1) (x4 + (1 : Int32) : Int32).toNatClampNeg)] w141) fun y145 w144 =>
      x2.bind fun a149 => kx_bi (C 89 [kx_r 9 (some a149)] w144) fun y148 w147 =>
      if y148 = y142 then (if y142 = 0 then (x3.bind fun a150 => if (0 : Int32) < 0 ∨ hp_N w147 a150 ≤ (0 : Int32).toNatClampNeg then none else if y145 = 0 then (J 1139 [(0, kx_r 98 x0), (1, kx_r 0 x1), (2, kx_r 9 x2), (3, kx_r 100 x3), (4, kx_i x4)] [kx_l (0 : Int64), kx_l (hp_L w147 (2 * a150 + 1) (0 : Int32).toNatClampNeg)] w147)
          else (J 1139 [(0, kx_r 98 x0), (1, kx_r 0 x1), (2, kx_r 9 x2), (3, kx_r 100 x3), (4, kx_i x4)] [kx_l (1 : Int64), kx_l (hp_L w147 (2 * a150 + 1) (0 : Int32).toNatClampNeg)] w147))
        else (J 1145 [(0, kx_r 98 x0), (1, kx_r 0 x1), (2, kx_r 9 x2), (3, kx_r 100 x3), (4, kx_i x4)] [] w147))
      else (if (0 : Int32) = 0 ∨ (0 : Int32) = 1 then some (.inl (some (.inl (0 : Int32))), w147) else none))
    else if (hp_I w (2 * a2 + 1) x4.toNatClampNeg) &&& (31 : Int32) = 15 then (x0.bind fun a151 => if x4 + (1 : Int32) < 0 ∨ hp_N w a151 ≤ (x4 + (1 : Int32) : Int32).toNatClampNeg then none else kx_bi (C 166 [kx_r 0 x1, kx_i (hp_I w (2 * a151 + 1) (x4 + (1 : Int32) : Int32).toNatClampNeg)] w) fun y153 w152 =>
      x0.bind fun a154 => if x4 + (1 : Int32) < 0 ∨ hp_N w152 a154 ≤ (x4 + (1 : Int32) : Int32).toNatClampNeg then none else x2.bind fun a157 => kx_bv (C 134 [kx_r 9 (some a157), kx_i (hp_I w152 (2 * a154 + 1) (x4 + (1 : Int32) : Int32).toNatClampNeg)] w152) fun w155 =>
      x2.bind fun a160 => kx_bi (C 89 [kx_r 9 (some a160)] w155) fun y159 w158 =>
      if y159 = y153 then (J 1543 [(0, kx_r 98 x0), (1, kx_r 0 x1), (2, kx_r 9 x2), (3, kx_r 100 x3), (4, kx_i x4)] [] w158)
      else (if (0 : Int32) = 0 ∨ (0 : Int32) = 1 then some (.inl (some (.inl (0 : Int32))), w158) else none))
    else if (hp_I w (2 * a2 + 1) x4.toNatClampNeg) &&& (31 : Int32) = 16 then (x0.bind fun a161 => if x4 + (1 : Int32) < 0 ∨ hp_N w a161 ≤ (x4 + (1 : Int32) : Int32).toNatClampNeg then none else x0.bind fun a162 => if x4 + (2 : Int32) < 0 ∨ hp_N w a162 ≤ (x4 + (2 : Int32) : Int32).toNatClampNeg then none else kx_bi (C 167 [kx_r 0 x1, kx_i (hp_I w (2 * a161 + 1) (x4 + (1 : Int32) : Int32).toNatClampNeg), kx_i (hp_I w (2 * a162 + 1) (x4 + (2 : Int32) : Int32).toNatClampNeg)] w) fun y164 w163 =>
      x0.bind fun a165 => if x4 + (1 : Int32) < 0 ∨ hp_N w163 a165 ≤ (x4 + (1 : Int32) : Int32).toNatClampNeg then none else x0.bind fun a166 => if x4 + (2 : Int32) < 0 ∨ hp_N w163 a166 ≤ (x4 + (2 : Int32) : Int32).toNatClampNeg then none else x2.bind fun a169 => kx_bv (C 140 [kx_r 9 (some a169), kx_i (hp_I w163 (2 * a165 + 1) (x4 + (1 : Int32) : Int32).toNatClampNeg), kx_i (hp_I w163 (2 * a166 + 1) (x4 + (2 : Int32) : Int32).toNatClampNeg)] w163) fun w167 =>
      x2.bind fun a172 => kx_bi (C 89 [kx_r 9 (some a172)] w167) fun y171 w170 =>
      if y171 = y164 then (J 1543 [(0, kx_r 98 x0), (1, kx_r 0 x1), (2, kx_r 9 x2), (3, kx_r 100 x3), (4, kx_i x4)] [] w170)
      else (if (0 : Int32) = 0 ∨ (0 : Int32) = 1 then some (.inl (some (.inl (0 : Int32))), w170) else none))
    else if (hp_I w (2 * a2 + 1) x4.toNatClampNeg) &&& (31 : Int32) = 17 then (x1.bind fun a175 => kx_bi (C 19 [kx_r 0 (some a175)] w) fun y174 w173 =>
      x2.bind fun a178 => kx_bi (C 142 [kx_r 9 (some a178)] w173) fun y177 w176 =>
      if y174 = y177 then (J 1543 [(0, kx_r 98 x0), (1, kx_r 0 x1), (2, kx_r 9 x2), (3, kx_r 100 x3), (4, kx_i x4)] [] w176)
      else (if (0 : Int32) = 0 ∨ (0 : Int32) = 1 then some (.inl (some (.inl (0 : Int32))), w176) else none))
    else if (hp_I w (2 * a2 + 1) x4.toNatClampNeg) &&& (31 : Int32) = 18 then (x0.bind fun a179 => if x4 + (1 : Int32) < 0 ∨ hp_N w a179 ≤ (x4 + (1 : Int32) : Int32).toNatClampNeg then none else x0.bind fun a180 => if x4 + (2 : Int32) < 0 ∨ hp_N w a180 ≤ (x4 + (2 : Int32) : Int32).toNatClampNeg then none else kx_bi (C 168 [kx_r 0 x1, kx_i (hp_I w (2 * a179 + 1) (x4 + (1 : Int32) : Int32).toNatClampNeg), kx_i (hp_I w (2 * a180 + 1) (x4 + (2 : Int32) : Int32).toNatClampNeg), kx_r 100 x3] w) fun y182 w181 =>
      x0.bind fun a183 => if x4 + (1 : Int32) < 0 ∨ hp_N w181 a183 ≤ (x4 + (1 : Int32) : Int32).toNatClampNeg then none else x0.bind fun a184 => if x4 + (2 : Int32) < 0 ∨ hp_N w181 a184 ≤ (x4 + (2 : Int32) : Int32).toNatClampNeg then none else x2.bind fun a187 => kx_bi (C 143 [kx_r 9 (some a187), kx_i (hp_I w181 (2 * a183 + 1) (x4 + (1 : Int32) : Int32).toNatClampNeg), kx_i (hp_I w181 (2 * a184 + 1) (x4 + (2 : Int32) : Int32).toNatClampNeg)] w181) fun y186 w185 =>
      x2.bind fun a190 => kx_bi (C 89 [kx_r 9 (some a190)] w185) fun y189 w188 =>
      if y189 = y182 then (if y182 = 0 then (x3.bind fun a191 => if (0 : Int32) < 0 ∨ hp_N w188 a191 ≤ (0 : Int32).toNatClampNeg then none else if lg_cmp (hp_L w188 (2 * a191 + 1) (0 : Int32).toNatClampNeg) (Int32.toInt64 y186) = 0 then (J 1310 [(0, kx_r 98 x0), (1, kx_r 0 x1), (2, kx_r 9 x2), (3, kx_r 100 x3), (4, kx_i x4)] [] w188)
          else (if (0 : Int32) = 0 ∨ (0 : Int32) = 1 then some (.inl (some (.inl (0 : Int32))), w188) else none))
        else (J 1310 [(0, kx_r 98 x0), (1, kx_r 0 x1), (2, kx_r 9 x2), (3, kx_r 100 x3), (4, kx_i x4)] [] w188))
      else (if (0 : Int32) = 0 ∨ (0 : Int32) = 1 then some (.inl (some (.inl (0 : Int32))), w188) else none))
    else if (hp_I w (2 * a2 + 1) x4.toNatClampNeg) &&& (31 : Int32) = 19 then (x0.bind fun a192 => if x4 + (1 : Int32) < 0 ∨ hp_N w a192 ≤ (x4 + (1 : Int32) : Int32).toNatClampNeg then none else kx_bi (C 169 [kx_r 0 x1, kx_i (hp_I w (2 * a192 + 1) (x4 + (1 : Int32) : Int32).toNatClampNeg), kx_r 100 x3] w) fun y194 w193 =>
      x0.bind fun a195 => if x4 + (1 : Int32) < 0 ∨ hp_N w193 a195 ≤ (x4 + (1 : Int32) : Int32).toNatClampNeg then none else x2.bind fun a198 => kx_bl (C 145 [kx_r 9 (some a198), kx_i (hp_I w193 (2 * a195 + 1) (x4 + (1 : Int32) : Int32).toNatClampNeg)] w193) fun y197 w196 =>
      x2.bind fun a201 => kx_bi (C 89 [kx_r 9 (some a201)] w196) fun y200 w199 =>
      if y200 = y194 then (if y194 = 0 then (x3.bind fun a202 => if (0 : Int32) < 0 ∨ hp_N w199 a202 ≤ (0 : Int32).toNatClampNeg then none else if lg_cmp (hp_L w199 (2 * a202 + 1) (0 : Int32).toNatClampNeg) y197 = 0 then (J 1365 [(0, kx_r 98 x0), (1, kx_r 0 x1), (2, kx_r 9 x2), (3, kx_r 100 x3), (4, kx_i x4)] [] w199)
          else (if (0 : Int32) = 0 ∨ (0 : Int32) = 1 then some (.inl (some (.inl (0 : Int32))), w199) else none))
        else (J 1365 [(0, kx_r 98 x0), (1, kx_r 0 x1), (2, kx_r 9 x2), (3, kx_r 100 x3), (4, kx_i x4)] [] w199))
      else (if (0 : Int32) = 0 ∨ (0 : Int32) = 1 then some (.inl (some (.inl (0 : Int32))), w199) else none))
    else if (hp_I w (2 * a2 + 1) x4.toNatClampNeg) &&& (31 : Int32) = 20 then (x0.bind fun a203 => if x4 + (1 : Int32) < 0 ∨ hp_N w a203 ≤ (x4 + (1 : Int32) : Int32).toNatClampNeg then none else x0.bind fun a204 => if x4 + (2 : Int32) < 0 ∨ hp_N w a204 ≤ (x4 + (2 : Int32) : Int32).toNatClampNeg then none else kx_bi (C 170 [kx_r 0 x1, kx_i (hp_I w (2 * a203 + 1) (x4 + (1 : Int32) : Int32).toNatClampNeg), kx_i (hp_I w (2 * a204 + 1) (x4 + (2 : Int32) : Int32).toNatClampNeg), kx_r 100 x3] w) fun y206 w205 =>
      x0.bind fun a207 => if x4 + (1 : Int32) < 0 ∨ hp_N w205 a207 ≤ (x4 + (1 : Int32) : Int32).toNatClampNeg then none else x0.bind fun a208 => if x4 + (2 : Int32) < 0 ∨ hp_N w205 a208 ≤ (x4 + (2 : Int32) : Int32).toNatClampNeg then none else x2.bind fun a211 => kx_bi (C 146 [kx_r 9 (some a211), kx_i (hp_I w205 (2 * a207 + 1) (x4 + (1 : Int32) : Int32).toNatClampNeg), kx_i (hp_I w205 (2 * a208 + 1) (x4 + (2 : Int32) : Int32).toNatClampNeg)] w205) fun y210 w209 =>
      x2.bind fun a214 => kx_bi (C 89 [kx_r 9 (some a214)] w209) fun y213 w212 =>
      if y213 = y206 then (if y206 = 0 then (x3.bind fun a215 => if (0 : Int32) < 0 ∨ hp_N w212 a215 ≤ (0 : Int32).toNatClampNeg then none else if lg_cmp (hp_L w212 (2 * a215 + 1) (0 : Int32).toNatClampNeg) (Int32.toInt64 y210) = 0 then (J 1433 [(0, kx_r 98 x0), (1, kx_r 0 x1), (2, kx_r 9 x2), (3, kx_r 100 x3), (4, kx_i x4)] [] w212)
          else (if (0 : Int32) = 0 ∨ (0 : Int32) = 1 then some (.inl (some (.inl (0 : Int32))), w212) else none))
        else (J 1433 [(0, kx_r 98 x0), (1, kx_r 0 x1), (2, kx_r 9 x2), (3, kx_r 100 x3), (4, kx_i x4)] [] w212))
      else (if (0 : Int32) = 0 ∨ (0 : Int32) = 1 then some (.inl (some (.inl (0 : Int32))), w212) else none))
    else if (hp_I w (2 * a2 + 1) x4.toNatClampNeg) &&& (31 : Int32) = 21 then (x0.bind fun a216 => if x4 + (1 : Int32) < 0 ∨ hp_N w a216 ≤ (x4 + (1 : Int32) : Int32).toNatClampNeg then none else x0.bind fun a217 => if x4 + (2 : Int32) < 0 ∨ hp_N w a217 ≤ (x4 + (2 : Int32) : Int32).toNatClampNeg then none else kx_bi (C 171 [kx_r 0 x1, kx_i (hp_I w (2 * a216 + 1) (x4 + (1 : Int32) : Int32).toNatClampNeg), kx_i (hp_I w (2 * a217 + 1) (x4 + (2 : Int32) : Int32).toNatClampNeg), kx_r 100 x3] w) fun y219 w218 =>
      x0.bind fun a220 => if x4 + (1 : Int32) < 0 ∨ hp_N w218 a220 ≤ (x4 + (1 : Int32) : Int32).toNatClampNeg then none else x0.bind fun a221 => if x4 + (2 : Int32) < 0 ∨ hp_N w218 a221 ≤ (x4 + (2 : Int32) : Int32).toNatClampNeg then none else x2.bind fun a224 => kx_bi (C 147 [kx_r 9 (some a224), kx_i (hp_I w218 (2 * a220 + 1) (x4 + (1 : Int32) : Int32).toNatClampNeg), kx_i (hp_I w218 (2 * a221 + 1) (x4 + (2 : Int32) : Int32).toNatClampNeg)] w218) fun y223 w222 =>
      x2.bind fun a227 => kx_bi (C 89 [kx_r 9 (some a227)] w222) fun y226 w225 =>
      if y226 = y219 then (if y219 = 0 then (x3.bind fun a228 => if (0 : Int32) < 0 ∨ hp_N w225 a228 ≤ (0 : Int32).toNatClampNeg then none else if lg_cmp (hp_L w225 (2 * a228 + 1) (0 : Int32).toNatClampNeg) (Int32.toInt64 y223) = 0 then (J 1501 [(0, kx_r 98 x0), (1, kx_r 0 x1), (2, kx_r 9 x2), (3, kx_r 100 x3), (4, kx_i x4)] [] w225)
          else (if (0 : Int32) = 0 ∨ (0 : Int32) = 1 then some (.inl (some (.inl (0 : Int32))), w225) else none))
        else (J 1501 [(0, kx_r 98 x0), (1, kx_r 0 x1), (2, kx_r 9 x2), (3, kx_r 100 x3), (4, kx_i x4)] [] w225))
      else (if (0 : Int32) = 0 ∨ (0 : Int32) = 1 then some (.inl (some (.inl (0 : Int32))), w225) else none))
    else if (hp_I w (2 * a2 + 1) x4.toNatClampNeg) &&& (31 : Int32) = 22 then (x1.bind fun a231 => kx_bl (C 20 [kx_r 0 (some a231)] w) fun y230 w229 =>
      x2.bind fun a234 => kx_bl (C 148 [kx_r 9 (some a234)] w229) fun y233 w232 =>
      if lg_cmp y230 y233 = 0 then (J 1543 [(0, kx_r 98 x0), (1, kx_r 0 x1), (2, kx_r 9 x2), (3, kx_r 100 x3), (4, kx_i x4)] [] w232)
      else (if (0 : Int32) = 0 ∨ (0 : Int32) = 1 then some (.inl (some (.inl (0 : Int32))), w232) else none))
    else if (hp_I w (2 * a2 + 1) x4.toNatClampNeg) &&& (31 : Int32) = 23 then (x0.bind fun a235 => if x4 + (1 : Int32) < 0 ∨ hp_N w a235 ≤ (x4 + (1 : Int32) : Int32).toNatClampNeg then none else x1.bind fun a238 => kx_bi (C 21 [kx_r 0 (some a238), kx_i (hp_I w (2 * a235 + 1) (x4 + (1 : Int32) : Int32).toNatClampNeg)] w) fun y237 w236 =>
      x0.bind fun a239 => if x4 + (1 : Int32) < 0 ∨ hp_N w236 a239 ≤ (x4 + (1 : Int32) : Int32).toNatClampNeg then none else x2.bind fun a242 => kx_bi (C 149 [kx_r 9 (some a242), kx_i (hp_I w236 (2 * a239 + 1) (x4 + (1 : Int32) : Int32).toNatClampNeg)] w236) fun y241 w240 =>
      if y237 = y241 then (J 1543 [(0, kx_r 98 x0), (1, kx_r 0 x1), (2, kx_r 9 x2), (3, kx_r 100 x3), (4, kx_i x4)] [] w240)
      else (if (0 : Int32) = 0 ∨ (0 : Int32) = 1 then some (.inl (some (.inl (0 : Int32))), w240) else none))
    else (J 1543 [(0, kx_r 98 x0), (1, kx_r 0 x1), (2, kx_r 9 x2), (3, kx_r 100 x3), (4, kx_i x4)] [] w))
theorem mle_23 {f d : Nat} {C : kx_C} {x0 : Option Nat} {x1 : Option Nat} {x2 : Option Nat} {x3 : Option Nat} {x4 : Int32} {w : kx_H} : kx_ex (wl_m d C) (f + 1) 23 [(0, kx_r 98 x0), (1, kx_r 0 x1), (2, kx_r 9 x2), (3, kx_r 100 x3), (4, kx_i x4)] [] w = ml_23 (kx_ex (wl_m d C) f) d C x0 x1 x2 x3 x4 w := Eq.trans rfl rfl
def ml_189 (J : Nat → kx_F) (d : Nat) (C : kx_C) (x0 : Option Nat) (x1 : Option Nat) (x2 : Option Nat) (x3 : Option Nat) (x4 : Int32) (w : kx_H) : kx_O := J 1543 [(0, kx_r 98 x0), (1, kx_r 0 x1), (2, kx_r 9 x2), (3, kx_r 100 x3), (4, kx_i x4)] [] w
theorem mle_189 {f d : Nat} {C : kx_C} {x0 : Option Nat} {x1 : Option Nat} {x2 : Option Nat} {x3 : Option Nat} {x4 : Int32} {w : kx_H} : kx_ex (wl_m d C) (f + 1) 189 [(0, kx_r 98 x0), (1, kx_r 0 x1), (2, kx_r 9 x2), (3, kx_r 100 x3), (4, kx_i x4)] [] w = ml_189 (kx_ex (wl_m d C) f) d C x0 x1 x2 x3 x4 w := Eq.trans rfl rfl
def ml_233 (J : Nat → kx_F) (d : Nat) (C : kx_C) (x0 : Option Nat) (x1 : Option Nat) (x2 : Option Nat) (x3 : Option Nat) (x4 : Int32) (w : kx_H) : kx_O := J 1543 [(0, kx_r 98 x0), (1, kx_r 0 x1), (2, kx_r 9 x2), (3, kx_r 100 x3), (4, kx_i x4)] [] w
theorem mle_233 {f d : Nat} {C : kx_C} {x0 : Option Nat} {x1 : Option Nat} {x2 : Option Nat} {x3 : Option Nat} {x4 : Int32} {w : kx_H} : kx_ex (wl_m d C) (f + 1) 233 [(0, kx_r 98 x0), (1, kx_r 0 x1), (2, kx_r 9 x2), (3, kx_r 100 x3), (4, kx_i x4)] [] w = ml_233 (kx_ex (wl_m d C) f) d C x0 x1 x2 x3 x4 w := Eq.trans rfl rfl
def ml_277 (J : Nat → kx_F) (d : Nat) (C : kx_C) (x0 : Option Nat) (x1 : Option Nat) (x2 : Option Nat) (x3 : Option Nat) (x4 : Int32) (w : kx_H) : kx_O := J 1543 [(0, kx_r 98 x0), (1, kx_r 0 x1), (2, kx_r 9 x2), (3, kx_r 100 x3), (4, kx_i x4)] [] w
theorem mle_277 {f d : Nat} {C : kx_C} {x0 : Option Nat} {x1 : Option Nat} {x2 : Option Nat} {x3 : Option Nat} {x4 : Int32} {w : kx_H} : kx_ex (wl_m d C) (f + 1) 277 [(0, kx_r 98 x0), (1, kx_r 0 x1), (2, kx_r 9 x2), (3, kx_r 100 x3), (4, kx_i x4)] [] w = ml_277 (kx_ex (wl_m d C) f) d C x0 x1 x2 x3 x4 w := Eq.trans rfl rfl
def ml_365 (J : Nat → kx_F) (d : Nat) (C : kx_C) (x0 : Option Nat) (x1 : Option Nat) (x2 : Option Nat) (x3 : Option Nat) (x4 : Int32) (w : kx_H) : kx_O := J 1543 [(0, kx_r 98 x0), (1, kx_r 0 x1), (2, kx_r 9 x2), (3, kx_r 100 x3), (4, kx_i x4)] [] w
theorem mle_365 {f d : Nat} {C : kx_C} {x0 : Option Nat} {x1 : Option Nat} {x2 : Option Nat} {x3 : Option Nat} {x4 : Int32} {w : kx_H} : kx_ex (wl_m d C) (f + 1) 365 [(0, kx_r 98 x0), (1, kx_r 0 x1), (2, kx_r 9 x2), (3, kx_r 100 x3), (4, kx_i x4)] [] w = ml_365 (kx_ex (wl_m d C) f) d C x0 x1 x2 x3 x4 w := Eq.trans rfl rfl
def ml_421 (J : Nat → kx_F) (d : Nat) (C : kx_C) (x0 : Option Nat) (x1 : Option Nat) (x2 : Option Nat) (x3 : Option Nat) (x4 : Int32) (w : kx_H) : kx_O := J 1543 [(0, kx_r 98 x0), (1, kx_r 0 x1), (2, kx_r 9 x2), (3, kx_r 100 x3), (4, kx_i x4)] [] w
theorem mle_421 {f d : Nat} {C : kx_C} {x0 : Option Nat} {x1 : Option Nat} {x2 : Option Nat} {x3 : Option Nat} {x4 : Int32} {w : kx_H} : kx_ex (wl_m d C) (f + 1) 421 [(0, kx_r 98 x0), (1, kx_r 0 x1), (2, kx_r 9 x2), (3, kx_r 100 x3), (4, kx_i x4)] [] w = ml_421 (kx_ex (wl_m d C) f) d C x0 x1 x2 x3 x4 w := Eq.trans rfl rfl
def ml_627 (J : Nat → kx_F) (d : Nat) (C : kx_C) (x0 : Option Nat) (x1 : Option Nat) (x2 : Option Nat) (x3 : Option Nat) (x4 : Int32) (xs0 : Int64) (xs1 : Int64) (w : kx_H) : kx_O := if lg_cmp xs1 xs0 = 0 then (J 633 [(0, kx_r 98 x0), (1, kx_r 0 x1), (2, kx_r 9 x2), (3, kx_r 100 x3), (4, kx_i x4)] [] w)
  else (if (0 : Int32) = 0 ∨ (0 : Int32) = 1 then some (.inl (some (.inl (0 : Int32))), w) else none)
theorem mle_627 {f d : Nat} {C : kx_C} {x0 : Option Nat} {x1 : Option Nat} {x2 : Option Nat} {x3 : Option Nat} {x4 : Int32} {xs0 : Int64} {xs1 : Int64} {w : kx_H} : kx_ex (wl_m d C) (f + 1) 627 [(0, kx_r 98 x0), (1, kx_r 0 x1), (2, kx_r 9 x2), (3, kx_r 100 x3), (4, kx_i x4)] [kx_l xs0, kx_l xs1] w = ml_627 (kx_ex (wl_m d C) f) d C x0 x1 x2 x3 x4 xs0 xs1 w := Eq.trans rfl rfl
def ml_633 (J : Nat → kx_F) (d : Nat) (C : kx_C) (x0 : Option Nat) (x1 : Option Nat) (x2 : Option Nat) (x3 : Option Nat) (x4 : Int32) (w : kx_H) : kx_O := J 1543 [(0, kx_r 98 x0), (1, kx_r 0 x1), (2, kx_r 9 x2), (3, kx_r 100 x3), (4, kx_i x4)] [] w
theorem mle_633 {f d : Nat} {C : kx_C} {x0 : Option Nat} {x1 : Option Nat} {x2 : Option Nat} {x3 : Option Nat} {x4 : Int32} {w : kx_H} : kx_ex (wl_m d C) (f + 1) 633 [(0, kx_r 98 x0), (1, kx_r 0 x1), (2, kx_r 9 x2), (3, kx_r 100 x3), (4, kx_i x4)] [] w = ml_633 (kx_ex (wl_m d C) f) d C x0 x1 x2 x3 x4 w := Eq.trans rfl rfl
def ml_690 (J : Nat → kx_F) (d : Nat) (C : kx_C) (x0 : Option Nat) (x1 : Option Nat) (x2 : Option Nat) (x3 : Option Nat) (x4 : Int32) (xs0 : Int64) (xs1 : Int64) (w : kx_H) : kx_O := if lg_cmp xs1 xs0 = 0 then (J 696 [(0, kx_r 98 x0), (1, kx_r 0 x1), (2, kx_r 9 x2), (3, kx_r 100 x3), (4, kx_i x4)] [] w)
  else (if (0 : Int32) = 0 ∨ (0 : Int32) = 1 then some (.inl (some (.inl (0 : Int32))), w) else none)
theorem mle_690 {f d : Nat} {C : kx_C} {x0 : Option Nat} {x1 : Option Nat} {x2 : Option Nat} {x3 : Option Nat} {x4 : Int32} {xs0 : Int64} {xs1 : Int64} {w : kx_H} : kx_ex (wl_m d C) (f + 1) 690 [(0, kx_r 98 x0), (1, kx_r 0 x1), (2, kx_r 9 x2), (3, kx_r 100 x3), (4, kx_i x4)] [kx_l xs0, kx_l xs1] w = ml_690 (kx_ex (wl_m d C) f) d C x0 x1 x2 x3 x4 xs0 xs1 w := Eq.trans rfl rfl
def ml_696 (J : Nat → kx_F) (d : Nat) (C : kx_C) (x0 : Option Nat) (x1 : Option Nat) (x2 : Option Nat) (x3 : Option Nat) (x4 : Int32) (w : kx_H) : kx_O := J 1543 [(0, kx_r 98 x0), (1, kx_r 0 x1), (2, kx_r 9 x2), (3, kx_r 100 x3), (4, kx_i x4)] [] w
theorem mle_696 {f d : Nat} {C : kx_C} {x0 : Option Nat} {x1 : Option Nat} {x2 : Option Nat} {x3 : Option Nat} {x4 : Int32} {w : kx_H} : kx_ex (wl_m d C) (f + 1) 696 [(0, kx_r 98 x0), (1, kx_r 0 x1), (2, kx_r 9 x2), (3, kx_r 100 x3), (4, kx_i x4)] [] w = ml_696 (kx_ex (wl_m d C) f) d C x0 x1 x2 x3 x4 w := Eq.trans rfl rfl
def ml_756 (J : Nat → kx_F) (d : Nat) (C : kx_C) (x0 : Option Nat) (x1 : Option Nat) (x2 : Option Nat) (x3 : Option Nat) (x4 : Int32) (xs0 : Int32) (xs1 : Int32) (xs2 : Option Nat) (w : kx_H) : kx_O := x0.bind fun a1 => if x4 + (3 : Int32) < 0 ∨ hp_N w a1 ≤ (x4 + (3 : Int32) : Int32).toNatClampNeg then none else x0.bind fun a2 => if x4 + (4 : Int32) < 0 ∨ hp_N w a2 ≤ (x4 + (4 : Int32) : Int32).toNatClampNeg then none else kx_bi (C 161 [kx_r 0 xs2, kx_i xs1, kx_i xs0, kx_l (((Int32.toInt64 (hp_I w (2 * a1 + 1) (x4 + (3 : Int32) : Int32).toNatClampNeg)) <<< ((32 : Int32).toInt64 &&& 63)) ||| ((Int32.toInt64 (hp_I w (2 * a2 + 1) (x4 + (4 : Int32) : Int32).toNatClampNeg)) &&& (4294967295 : Int64))), kx_r 100 x3] w) fun y4 w3 =>
  x0.bind fun a5 => if x4 + (1 : Int32) < 0 ∨ hp_N w3 a5 ≤ (x4 + (1 : Int32) : Int32).toNatClampNeg then none else x0.bind fun a6 => if x4 + (2 : Int32) < 0 ∨ hp_N w3 a6 ≤ (x4 + (2 : Int32) : Int32).toNatClampNeg then none else if hp_I w3 (2 * a6 + 1) (x4 + (2 : Int32) : Int32).toNatClampNeg = 0 then (J 805 [(0, kx_r 98 x0), (1, kx_r 0 x1), (2, kx_r 9 x2), (3, kx_r 100 x3), (4, kx_i x4), (5, kx_i y4)] [kx_i (0 : Int32), kx_i (hp_I w3 (2 * a5 + 1) (x4 + (1 : Int32) : Int32).toNatClampNeg), kx_r 9 x2] w3)
  else (J 805 [(0, kx_r 98 x0), (1, kx_r 0 x1), (2, kx_r 9 x2), (3, kx_r 100 x3), (4, kx_i x4), (5, kx_i y4)] [kx_i (1 : Int32), kx_i (hp_I w3 (2 * a5 + 1) (x4 + (1 : Int32) : Int32).toNatClampNeg), kx_r 9 x2] w3)
theorem mle_756 {f d : Nat} {C : kx_C} {x0 : Option Nat} {x1 : Option Nat} {x2 : Option Nat} {x3 : Option Nat} {x4 : Int32} {xs0 : Int32} {xs1 : Int32} {xs2 : Option Nat} {w : kx_H} : kx_ex (wl_m d C) (f + 1) 756 [(0, kx_r 98 x0), (1, kx_r 0 x1), (2, kx_r 9 x2), (3, kx_r 100 x3), (4, kx_i x4)] [kx_i xs0, kx_i xs1, kx_r 0 xs2] w = ml_756 (kx_ex (wl_m d C) f) d C x0 x1 x2 x3 x4 xs0 xs1 xs2 w := Eq.trans rfl rfl
def ml_805 (J : Nat → kx_F) (d : Nat) (C : kx_C) (x0 : Option Nat) (x1 : Option Nat) (x2 : Option Nat) (x3 : Option Nat) (x4 : Int32) (x5 : Int32) (xs0 : Int32) (xs1 : Int32) (xs2 : Option Nat) (w : kx_H) : kx_O := x0.bind fun a1 => if x4 + (3 : Int32) < 0 ∨ hp_N w a1 ≤ (x4 + (3 : Int32) : Int32).toNatClampNeg then none else x0.bind fun a2 => if x4 + (4 : Int32) < 0 ∨ hp_N w a2 ≤ (x4 + (4 : Int32) : Int32).toNatClampNeg then none else xs2.bind fun a5 => kx_bi (C 116 [kx_r 9 (some a5), kx_i xs1, kx_i xs0, kx_l (((Int32.toInt64 (hp_I w (2 * a1 + 1) (x4 + (3 : Int32) : Int32).toNatClampNeg)) <<< ((32 : Int32).toInt64 &&& 63)) ||| ((Int32.toInt64 (hp_I w (2 * a2 + 1) (x4 + (4 : Int32) : Int32).toNatClampNeg)) &&& (4294967295 : Int64)))] w) fun y4 w3 =>
  x2.bind fun a8 => kx_bi (C 89 [kx_r 9 (some a8)] w3) fun y7 w6 =>
  if y7 = x5 then (if x5 = 0 then (x3.bind fun a9 => if (0 : Int32) < 0 ∨ hp_N w6 a9 ≤ (0 : Int32).toNatClampNeg then none else if lg_cmp (hp_L w6 (2 * a9 + 1) (0 : Int32).toNatClampNeg) (Int32.toInt64 y4) = 0 then (J 860 [(0, kx_r 98 x0), (1, kx_r 0 x1), (2, kx_r 9 x2), (3, kx_r 100 x3), (4, kx_i x4)] [] w6)
      else (if (0 : Int32) = 0 ∨ (0 : Int32) = 1 then some (.inl (some (.inl (0 : Int32))), w6) else none))
    else (J 860 [(0, kx_r 98 x0), (1, kx_r 0 x1), (2, kx_r 9 x2), (3, kx_r 100 x3), (4, kx_i x4)] [] w6))
  else (if (0 : Int32) = 0 ∨ (0 : Int32) = 1 then some (.inl (some (.inl (0 : Int32))), w6) else none)
theorem mle_805 {f d : Nat} {C : kx_C} {x0 : Option Nat} {x1 : Option Nat} {x2 : Option Nat} {x3 : Option Nat} {x4 : Int32} {x5 : Int32} {xs0 : Int32} {xs1 : Int32} {xs2 : Option Nat} {w : kx_H} : kx_ex (wl_m d C) (f + 1) 805 [(0, kx_r 98 x0), (1, kx_r 0 x1), (2, kx_r 9 x2), (3, kx_r 100 x3), (4, kx_i x4), (5, kx_i x5)] [kx_i xs0, kx_i xs1, kx_r 9 xs2] w = ml_805 (kx_ex (wl_m d C) f) d C x0 x1 x2 x3 x4 x5 xs0 xs1 xs2 w := Eq.trans rfl rfl
def ml_860 (J : Nat → kx_F) (d : Nat) (C : kx_C) (x0 : Option Nat) (x1 : Option Nat) (x2 : Option Nat) (x3 : Option Nat) (x4 : Int32) (w : kx_H) : kx_O := J 1543 [(0, kx_r 98 x0), (1, kx_r 0 x1), (2, kx_r 9 x2), (3, kx_r 100 x3), (4, kx_i x4)] [] w
theorem mle_860 {f d : Nat} {C : kx_C} {x0 : Option Nat} {x1 : Option Nat} {x2 : Option Nat} {x3 : Option Nat} {x4 : Int32} {w : kx_H} : kx_ex (wl_m d C) (f + 1) 860 [(0, kx_r 98 x0), (1, kx_r 0 x1), (2, kx_r 9 x2), (3, kx_r 100 x3), (4, kx_i x4)] [] w = ml_860 (kx_ex (wl_m d C) f) d C x0 x1 x2 x3 x4 w := Eq.trans rfl rfl
def ml_884 (J : Nat → kx_F) (d : Nat) (C : kx_C) (x0 : Option Nat) (x1 : Option Nat) (x2 : Option Nat) (x3 : Option Nat) (x4 : Int32) (xs0 : Int32) (xs1 : Int32) (xs2 : Option Nat) (w : kx_H) : kx_O := kx_bi (C 162 [kx_r 0 xs2, kx_i xs1, kx_i xs0, kx_r 100 x3] w) fun y2 w1 =>
  x0.bind fun a3 => if x4 + (1 : Int32) < 0 ∨ hp_N w1 a3 ≤ (x4 + (1 : Int32) : Int32).toNatClampNeg then none else x0.bind fun a4 => if x4 + (2 : Int32) < 0 ∨ hp_N w1 a4 ≤ (x4 + (2 : Int32) : Int32).toNatClampNeg then none else if hp_I w1 (2 * a4 + 1) (x4 + (2 : Int32) : Int32).toNatClampNeg = 0 then (J 911 [(0, kx_r 98 x0), (1, kx_r 0 x1), (2, kx_r 9 x2), (3, kx_r 100 x3), (4, kx_i x4), (5, kx_i y2)] [kx_i (0 : Int32), kx_i (hp_I w1 (2 * a3 + 1) (x4 + (1 : Int32) : Int32).toNatClampNeg), kx_r 9 x2] w1)
  else (J 911 [(0, kx_r 98 x0), (1, kx_r 0 x1), (2, kx_r 9 x2), (3, kx_r 100 x3), (4, kx_i x4), (5, kx_i y2)] [kx_i (1 : Int32), kx_i (hp_I w1 (2 * a3 + 1) (x4 + (1 : Int32) : Int32).toNatClampNeg), kx_r 9 x2] w1)
theorem mle_884 {f d : Nat} {C : kx_C} {x0 : Option Nat} {x1 : Option Nat} {x2 : Option Nat} {x3 : Option Nat} {x4 : Int32} {xs0 : Int32} {xs1 : Int32} {xs2 : Option Nat} {w : kx_H} : kx_ex (wl_m d C) (f + 1) 884 [(0, kx_r 98 x0), (1, kx_r 0 x1), (2, kx_r 9 x2), (3, kx_r 100 x3), (4, kx_i x4)] [kx_i xs0, kx_i xs1, kx_r 0 xs2] w = ml_884 (kx_ex (wl_m d C) f) d C x0 x1 x2 x3 x4 xs0 xs1 xs2 w := Eq.trans rfl rfl
def ml_911 (J : Nat → kx_F) (d : Nat) (C : kx_C) (x0 : Option Nat) (x1 : Option Nat) (x2 : Option Nat) (x3 : Option Nat) (x4 : Int32) (x5 : Int32) (xs0 : Int32) (xs1 : Int32) (xs2 : Option Nat) (w : kx_H) : kx_O := xs2.bind fun a3 => kx_bi (C 117 [kx_r 9 (some a3), kx_i xs1, kx_i xs0] w) fun y2 w1 =>
  x2.bind fun a6 => kx_bi (C 89 [kx_r 9 (some a6)] w1) fun y5 w4 =>
  if y5 = x5 then (if x5 = 0 then (x3.bind fun a7 => if (0 : Int32) < 0 ∨ hp_N w4 a7 ≤ (0 : Int32).toNatClampNeg then none else if y2 = 0 then (J 945 [(0, kx_r 98 x0), (1, kx_r 0 x1), (2, kx_r 9 x2), (3, kx_r 100 x3), (4, kx_i x4)] [kx_l (0 : Int64), kx_l (hp_L w4 (2 * a7 + 1) (0 : Int32).toNatClampNeg)] w4)
      else (J 945 [(0, kx_r 98 x0), (1, kx_r 0 x1), (2, kx_r 9 x2), (3, kx_r 100 x3), (4, kx_i x4)] [kx_l (1 : Int64), kx_l (hp_L w4 (2 * a7 + 1) (0 : Int32).toNatClampNeg)] w4))
    else (J 951 [(0, kx_r 98 x0), (1, kx_r 0 x1), (2, kx_r 9 x2), (3, kx_r 100 x3), (4, kx_i x4)] [] w4))
  else (if (0 : Int32) = 0 ∨ (0 : Int32) = 1 then some (.inl (some (.inl (0 : Int32))), w4) else none)
theorem mle_911 {f d : Nat} {C : kx_C} {x0 : Option Nat} {x1 : Option Nat} {x2 : Option Nat} {x3 : Option Nat} {x4 : Int32} {x5 : Int32} {xs0 : Int32} {xs1 : Int32} {xs2 : Option Nat} {w : kx_H} : kx_ex (wl_m d C) (f + 1) 911 [(0, kx_r 98 x0), (1, kx_r 0 x1), (2, kx_r 9 x2), (3, kx_r 100 x3), (4, kx_i x4), (5, kx_i x5)] [kx_i xs0, kx_i xs1, kx_r 9 xs2] w = ml_911 (kx_ex (wl_m d C) f) d C x0 x1 x2 x3 x4 x5 xs0 xs1 xs2 w := Eq.trans rfl rfl
def ml_945 (J : Nat → kx_F) (d : Nat) (C : kx_C) (x0 : Option Nat) (x1 : Option Nat) (x2 : Option Nat) (x3 : Option Nat) (x4 : Int32) (xs0 : Int64) (xs1 : Int64) (w : kx_H) : kx_O := if lg_cmp xs1 xs0 = 0 then (J 951 [(0, kx_r 98 x0), (1, kx_r 0 x1), (2, kx_r 9 x2), (3, kx_r 100 x3), (4, kx_i x4)] [] w)
  else (if (0 : Int32) = 0 ∨ (0 : Int32) = 1 then some (.inl (some (.inl (0 : Int32))), w) else none)
theorem mle_945 {f d : Nat} {C : kx_C} {x0 : Option Nat} {x1 : Option Nat} {x2 : Option Nat} {x3 : Option Nat} {x4 : Int32} {xs0 : Int64} {xs1 : Int64} {w : kx_H} : kx_ex (wl_m d C) (f + 1) 945 [(0, kx_r 98 x0), (1, kx_r 0 x1), (2, kx_r 9 x2), (3, kx_r 100 x3), (4, kx_i x4)] [kx_l xs0, kx_l xs1] w = ml_945 (kx_ex (wl_m d C) f) d C x0 x1 x2 x3 x4 xs0 xs1 w := Eq.trans rfl rfl
def ml_951 (J : Nat → kx_F) (d : Nat) (C : kx_C) (x0 : Option Nat) (x1 : Option Nat) (x2 : Option Nat) (x3 : Option Nat) (x4 : Int32) (w : kx_H) : kx_O := J 1543 [(0, kx_r 98 x0), (1, kx_r 0 x1), (2, kx_r 9 x2), (3, kx_r 100 x3), (4, kx_i x4)] [] w
theorem mle_951 {f d : Nat} {C : kx_C} {x0 : Option Nat} {x1 : Option Nat} {x2 : Option Nat} {x3 : Option Nat} {x4 : Int32} {w : kx_H} : kx_ex (wl_m d C) (f + 1) 951 [(0, kx_r 98 x0), (1, kx_r 0 x1), (2, kx_r 9 x2), (3, kx_r 100 x3), (4, kx_i x4)] [] w = ml_951 (kx_ex (wl_m d C) f) d C x0 x1 x2 x3 x4 w := Eq.trans rfl rfl
def ml_1019 (J : Nat → kx_F) (d : Nat) (C : kx_C) (x0 : Option Nat) (x1 : Option Nat) (x2 : Option Nat) (x3 : Option Nat) (x4 : Int32) (w : kx_H) : kx_O := J 1543 [(0, kx_r 98 x0), (1, kx_r 0 x1), (2, kx_r 9 x2), (3, kx_r 100 x3), (4, kx_i x4)] [] w
theorem mle_1019 {f d : Nat} {C : kx_C} {x0 : Option Nat} {x1 : Option Nat} {x2 : Option Nat} {x3 : Option Nat} {x4 : Int32} {w : kx_H} : kx_ex (wl_m d C) (f + 1) 1019 [(0, kx_r 98 x0), (1, kx_r 0 x1), (2, kx_r 9 x2), (3, kx_r 100 x3), (4, kx_i x4)] [] w = ml_1019 (kx_ex (wl_m d C) f) d C x0 x1 x2 x3 x4 w := Eq.trans rfl rfl
def ml_1076 (J : Nat → kx_F) (d : Nat) (C : kx_C) (x0 : Option Nat) (x1 : Option Nat) (x2 : Option Nat) (x3 : Option Nat) (x4 : Int32) (xs0 : Int64) (xs1 : Int64) (w : kx_H) : kx_O := if lg_cmp xs1 xs0 = 0 then (J 1082 [(0, kx_r 98 x0), (1, kx_r 0 x1), (2, kx_r 9 x2), (3, kx_r 100 x3), (4, kx_i x4)] [] w)
  else (if (0 : Int32) = 0 ∨ (0 : Int32) = 1 then some (.inl (some (.inl (0 : Int32))), w) else none)
theorem mle_1076 {f d : Nat} {C : kx_C} {x0 : Option Nat} {x1 : Option Nat} {x2 : Option Nat} {x3 : Option Nat} {x4 : Int32} {xs0 : Int64} {xs1 : Int64} {w : kx_H} : kx_ex (wl_m d C) (f + 1) 1076 [(0, kx_r 98 x0), (1, kx_r 0 x1), (2, kx_r 9 x2), (3, kx_r 100 x3), (4, kx_i x4)] [kx_l xs0, kx_l xs1] w = ml_1076 (kx_ex (wl_m d C) f) d C x0 x1 x2 x3 x4 xs0 xs1 w := Eq.trans rfl rfl
def ml_1082 (J : Nat → kx_F) (d : Nat) (C : kx_C) (x0 : Option Nat) (x1 : Option Nat) (x2 : Option Nat) (x3 : Option Nat) (x4 : Int32) (w : kx_H) : kx_O := J 1543 [(0, kx_r 98 x0), (1, kx_r 0 x1), (2, kx_r 9 x2), (3, kx_r 100 x3), (4, kx_i x4)] [] w
theorem mle_1082 {f d : Nat} {C : kx_C} {x0 : Option Nat} {x1 : Option Nat} {x2 : Option Nat} {x3 : Option Nat} {x4 : Int32} {w : kx_H} : kx_ex (wl_m d C) (f + 1) 1082 [(0, kx_r 98 x0), (1, kx_r 0 x1), (2, kx_r 9 x2), (3, kx_r 100 x3), (4, kx_i x4)] [] w = ml_1082 (kx_ex (wl_m d C) f) d C x0 x1 x2 x3 x4 w := Eq.trans rfl rfl
def ml_1139 (J : Nat → kx_F) (d : Nat) (C : kx_C) (x0 : Option Nat) (x1 : Option Nat) (x2 : Option Nat) (x3 : Option Nat) (x4 : Int32) (xs0 : Int64) (xs1 : Int64) (w : kx_H) : kx_O := if lg_cmp xs1 xs0 = 0 then (J 1145 [(0, kx_r 98 x0), (1, kx_r 0 x1), (2, kx_r 9 x2), (3, kx_r 100 x3), (4, kx_i x4)] [] w)
  else (if (0 : Int32) = 0 ∨ (0 : Int32) = 1 then some (.inl (some (.inl (0 : Int32))), w) else none)
theorem mle_1139 {f d : Nat} {C : kx_C} {x0 : Option Nat} {x1 : Option Nat} {x2 : Option Nat} {x3 : Option Nat} {x4 : Int32} {xs0 : Int64} {xs1 : Int64} {w : kx_H} : kx_ex (wl_m d C) (f + 1) 1139 [(0, kx_r 98 x0), (1, kx_r 0 x1), (2, kx_r 9 x2), (3, kx_r 100 x3), (4, kx_i x4)] [kx_l xs0, kx_l xs1] w = ml_1139 (kx_ex (wl_m d C) f) d C x0 x1 x2 x3 x4 xs0 xs1 w := Eq.trans rfl rfl
def ml_1145 (J : Nat → kx_F) (d : Nat) (C : kx_C) (x0 : Option Nat) (x1 : Option Nat) (x2 : Option Nat) (x3 : Option Nat) (x4 : Int32) (w : kx_H) : kx_O := J 1543 [(0, kx_r 98 x0), (1, kx_r 0 x1), (2, kx_r 9 x2), (3, kx_r 100 x3), (4, kx_i x4)] [] w
theorem mle_1145 {f d : Nat} {C : kx_C} {x0 : Option Nat} {x1 : Option Nat} {x2 : Option Nat} {x3 : Option Nat} {x4 : Int32} {w : kx_H} : kx_ex (wl_m d C) (f + 1) 1145 [(0, kx_r 98 x0), (1, kx_r 0 x1), (2, kx_r 9 x2), (3, kx_r 100 x3), (4, kx_i x4)] [] w = ml_1145 (kx_ex (wl_m d C) f) d C x0 x1 x2 x3 x4 w := Eq.trans rfl rfl
def ml_1310 (J : Nat → kx_F) (d : Nat) (C : kx_C) (x0 : Option Nat) (x1 : Option Nat) (x2 : Option Nat) (x3 : Option Nat) (x4 : Int32) (w : kx_H) : kx_O := J 1543 [(0, kx_r 98 x0), (1, kx_r 0 x1), (2, kx_r 9 x2), (3, kx_r 100 x3), (4, kx_i x4)] [] w
theorem mle_1310 {f d : Nat} {C : kx_C} {x0 : Option Nat} {x1 : Option Nat} {x2 : Option Nat} {x3 : Option Nat} {x4 : Int32} {w : kx_H} : kx_ex (wl_m d C) (f + 1) 1310 [(0, kx_r 98 x0), (1, kx_r 0 x1), (2, kx_r 9 x2), (3, kx_r 100 x3), (4, kx_i x4)] [] w = ml_1310 (kx_ex (wl_m d C) f) d C x0 x1 x2 x3 x4 w := Eq.trans rfl rfl
def ml_1365 (J : Nat → kx_F) (d : Nat) (C : kx_C) (x0 : Option Nat) (x1 : Option Nat) (x2 : Option Nat) (x3 : Option Nat) (x4 : Int32) (w : kx_H) : kx_O := J 1543 [(0, kx_r 98 x0), (1, kx_r 0 x1), (2, kx_r 9 x2), (3, kx_r 100 x3), (4, kx_i x4)] [] w
theorem mle_1365 {f d : Nat} {C : kx_C} {x0 : Option Nat} {x1 : Option Nat} {x2 : Option Nat} {x3 : Option Nat} {x4 : Int32} {w : kx_H} : kx_ex (wl_m d C) (f + 1) 1365 [(0, kx_r 98 x0), (1, kx_r 0 x1), (2, kx_r 9 x2), (3, kx_r 100 x3), (4, kx_i x4)] [] w = ml_1365 (kx_ex (wl_m d C) f) d C x0 x1 x2 x3 x4 w := Eq.trans rfl rfl
def ml_1433 (J : Nat → kx_F) (d : Nat) (C : kx_C) (x0 : Option Nat) (x1 : Option Nat) (x2 : Option Nat) (x3 : Option Nat) (x4 : Int32) (w : kx_H) : kx_O := J 1543 [(0, kx_r 98 x0), (1, kx_r 0 x1), (2, kx_r 9 x2), (3, kx_r 100 x3), (4, kx_i x4)] [] w
theorem mle_1433 {f d : Nat} {C : kx_C} {x0 : Option Nat} {x1 : Option Nat} {x2 : Option Nat} {x3 : Option Nat} {x4 : Int32} {w : kx_H} : kx_ex (wl_m d C) (f + 1) 1433 [(0, kx_r 98 x0), (1, kx_r 0 x1), (2, kx_r 9 x2), (3, kx_r 100 x3), (4, kx_i x4)] [] w = ml_1433 (kx_ex (wl_m d C) f) d C x0 x1 x2 x3 x4 w := Eq.trans rfl rfl
def ml_1501 (J : Nat → kx_F) (d : Nat) (C : kx_C) (x0 : Option Nat) (x1 : Option Nat) (x2 : Option Nat) (x3 : Option Nat) (x4 : Int32) (w : kx_H) : kx_O := J 1543 [(0, kx_r 98 x0), (1, kx_r 0 x1), (2, kx_r 9 x2), (3, kx_r 100 x3), (4, kx_i x4)] [] w
theorem mle_1501 {f d : Nat} {C : kx_C} {x0 : Option Nat} {x1 : Option Nat} {x2 : Option Nat} {x3 : Option Nat} {x4 : Int32} {w : kx_H} : kx_ex (wl_m d C) (f + 1) 1501 [(0, kx_r 98 x0), (1, kx_r 0 x1), (2, kx_r 9 x2), (3, kx_r 100 x3), (4, kx_i x4)] [] w = ml_1501 (kx_ex (wl_m d C) f) d C x0 x1 x2 x3 x4 w := Eq.trans rfl rfl
def ml_1543 (J : Nat → kx_F) (d : Nat) (C : kx_C) (x0 : Option Nat) (x1 : Option Nat) (x2 : Option Nat) (x3 : Option Nat) (x4 : Int32) (w : kx_H) : kx_O := J 23 [(0, kx_r 98 x0), (1, kx_r 0 x1), (2, kx_r 9 x2), (3, kx_r 100 x3), (4, kx_i (x4 + 5))] [] w
theorem mle_1543 {f d : Nat} {C : kx_C} {x0 : Option Nat} {x1 : Option Nat} {x2 : Option Nat} {x3 : Option Nat} {x4 : Int32} {w : kx_H} : kx_ex (wl_m d C) (f + 1) 1543 [(0, kx_r 98 x0), (1, kx_r 0 x1), (2, kx_r 9 x2), (3, kx_r 100 x3), (4, kx_i x4)] [] w = ml_1543 (kx_ex (wl_m d C) f) d C x0 x1 x2 x3 x4 w := Eq.trans rfl rfl
