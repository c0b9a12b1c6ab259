/-! small numbers, and what is read behind a write -/
def i32 (n : Nat) : Int32 := Int32.ofNat n
theorem i32_add (n k : Nat) : i32 n + i32 k = i32 (n + k) := (Int32.ofNat_add n k).symm
theorem i32_add1 (n : Nat) : i32 n + 1 = i32 (n + 1) := (Int32.ofNat_add n 1).symm
theorem i32_sub {n k : Nat} (h : k ≤ n) : i32 n - i32 k = i32 (n - k) := (Int32.ofNat_sub n k h).symm
theorem i32_sub1 (n : Nat) : i32 (n + 1) - 1 = i32 n := i32_sub (n := n + 1) (k := 1) (by omega)
theorem i32_nat {n : Nat} (h : n < 1000000000) : (i32 n).toNatClampNeg = n := Int32.toNatClampNeg_ofNat_of_lt (by omega)
theorem i32_lt {a b : Nat} (ha : a < 1000000000) (hb : b < 1000000000) : (i32 a < i32 b) = (a < b) := propext (Int32.ofNat_lt_iff_lt (by omega) (by omega))
theorem i32_le {a b : Nat} (ha : a < 1000000000) (hb : b < 1000000000) : (i32 a ≤ i32 b) = (a ≤ b) := propext (Int32.ofNat_le_iff_le (by omega) (by omega))
theorem i32_inj {a b : Nat} (ha : a < 1000000000) (hb : b < 1000000000) (h : i32 a = i32 b) : a = b := by
  have := congrArg Int32.toNatClampNeg h
  rwa [i32_nat ha, i32_nat hb] at this
theorem i32_eq {a b : Nat} (ha : a < 1000000000) (hb : b < 1000000000) : (i32 a = i32 b) = (a = b) := propext ⟨i32_inj ha hb, fun h => by rw [h]⟩
theorem i32_neg {n : Nat} (h : n < 1000000000) : (i32 n < 0) = False := by
  have := i32_lt (a := n) (b := 0) h (by omega)
  rw [show i32 0 = 0 from rfl] at this
  rw [this]
  simp
theorem i32_ge {n : Nat} (h : n < 1000000000) : (0 ≤ i32 n) = True := by
  have := i32_le (a := 0) (b := n) (by omega) h
  rw [show i32 0 = 0 from rfl] at this
  rw [this]
  simp
theorem i32_m1 {n : Nat} (h : n < 1000000000) : (i32 n = -1) = False := by
  refine propext ⟨fun e => ?_, False.elim⟩
  have h1 := i32_neg h
  rw [e] at h1
  have : ((-1 : Int32) < 0) := by decide
  rw [h1] at this
  exact this
theorem i32_ix {n k : Nat} (h : n < k) (hk : k < 1000000000) : (i32 n < 0 ∨ k ≤ (i32 n).toNatClampNeg) = False := by
  rw [i32_neg (by omega), i32_nat (by omega)]
  simp
  exact h
theorem i32_jx {n k : Nat} (h : n < k) (hk : k < 1000000000) : (i32 n < 0 ∨ k ≤ n) = False := by
  rw [i32_neg (by omega)]
  simp
  exact h
/-- an int at least 0 -/
theorem i32_of {x : Int32} (h : ¬ x < 0) : x = i32 x.toNatClampNeg ∧ x.toNatClampNeg < 2147483648 := by
  have h0 : 0 ≤ x := by
    rw [Int32.le_iff_toInt_le]
    rw [Int32.lt_iff_toInt_lt] at h
    exact Int.not_lt.mp h
  exact ⟨(Int32.ofNat_toNatClampNeg x h0).symm, Int32.toNatClampNeg_lt x⟩
theorem i32_of_lt {x : Int32} {n : Nat} (hn : n < 1000000000) (h : ¬ x < 0) (h2 : x < i32 n) : ∃ k, k < n ∧ x = i32 k := by
  obtain ⟨e, hb⟩ := i32_of h
  refine ⟨x.toNatClampNeg, ?_, e⟩
  rw [e] at h2
  exact (Int32.ofNat_lt_iff_lt (by omega) (by omega)).mp h2
theorem kx_b_0 (b : Bool) : (kx_b b = 0) = (b = false) := by cases b <;> simp [kx_b]
theorem kx_b_1 (b : Bool) : (kx_b b = 1) = (b = true) := by cases b <;> simp [kx_b]
theorem kx_b_inj (a b : Bool) : (kx_b a = kx_b b) = (a = b) := by cases a <;> cases b <;> simp [kx_b]
theorem kx_b_z (b : Bool) : (kx_b b = 0 ∨ kx_b b = 1) = True := by cases b <;> simp [kx_b]
theorem kx_sb_b (b : Bool) (f : Bool → kx_O) : kx_sb (kx_b b) f = f b := by cases b <;> simp [kx_b, kx_sb]
theorem kx_sb_0 (f : Bool → kx_O) : kx_sb 0 f = f false := Eq.trans rfl rfl
theorem kx_sb_1 (f : Bool → kx_O) : kx_sb 1 f = f true := Eq.trans rfl rfl
theorem kx_b_f : kx_b false = 0 := rfl
theorem kx_b_t : kx_b true = 1 := rfl
theorem hI_I (w : kx_H) (a k b j : Nat) (v : Int32) : hp_I (hp_sI w a k v) b j = if b = a ∧ j = k then v else hp_I w b j := Eq.trans rfl rfl
theorem hI_L (w : kx_H) (a k : Nat) (v : Int64) : hp_I (hp_sL w a k v) = hp_I w := Eq.trans rfl rfl
theorem hI_R (w : kx_H) (a k : Nat) (v : Option Nat) : hp_I (hp_sR w a k v) = hp_I w := Eq.trans rfl rfl
theorem hI_B (w : kx_H) (a k : Nat) (v : Bool) : hp_I (hp_sB w a k v) = hp_I w := Eq.trans rfl rfl
theorem hI_b (w : kx_H) (k n : Nat) : hp_I (hp_bump w k n) = hp_I w := Eq.trans rfl rfl
theorem hL_I (w : kx_H) (a k : Nat) (v : Int32) : hp_L (hp_sI w a k v) = hp_L w := Eq.trans rfl rfl
theorem hL_L (w : kx_H) (a k b j : Nat) (v : Int64) : hp_L (hp_sL w a k v) b j = if b = a ∧ j = k then v else hp_L w b j := Eq.trans rfl rfl
theorem hL_R (w : kx_H) (a k : Nat) (v : Option Nat) : hp_L (hp_sR w a k v) = hp_L w := Eq.trans rfl rfl
theorem hL_B (w : kx_H) (a k : Nat) (v : Bool) : hp_L (hp_sB w a k v) = hp_L w := Eq.trans rfl rfl
theorem hL_b (w : kx_H) (k n : Nat) : hp_L (hp_bump w k n) = hp_L w := Eq.trans rfl rfl
theorem hR_I (w : kx_H) (a k : Nat) (v : Int32) : hp_R (hp_sI w a k v) = hp_R w := Eq.trans rfl rfl
theorem hR_L (w : kx_H) (a k : Nat) (v : Int64) : hp_R (hp_sL w a k v) = hp_R w := Eq.trans rfl rfl
theorem hR_R (w : kx_H) (a k b j : Nat) (v : Option Nat) : hp_R (hp_sR w a k v) b j = if b = a ∧ j = k then v else hp_R w b j := Eq.trans rfl rfl
theorem hR_B (w : kx_H) (a k : Nat) (v : Bool) : hp_R (hp_sB w a k v) = hp_R w := Eq.trans rfl rfl
theorem hR_b (w : kx_H) (k n : Nat) : hp_R (hp_bump w k n) = hp_R w := Eq.trans rfl rfl
theorem hB_I (w : kx_H) (a k : Nat) (v : Int32) : hp_B (hp_sI w a k v) = hp_B w := Eq.trans rfl rfl
theorem hB_L (w : kx_H) (a k : Nat) (v : Int64) : hp_B (hp_sL w a k v) = hp_B w := Eq.trans rfl rfl
theorem hB_R (w : kx_H) (a k : Nat) (v : Option Nat) : hp_B (hp_sR w a k v) = hp_B w := Eq.trans rfl rfl
theorem hB_B (w : kx_H) (a k b j : Nat) (v : Bool) : hp_B (hp_sB w a k v) b j = if b = a ∧ j = k then v else hp_B w b j := Eq.trans rfl rfl
theorem hB_b (w : kx_H) (k n : Nat) : hp_B (hp_bump w k n) = hp_B w := Eq.trans rfl rfl
theorem hN_I (w : kx_H) (a k : Nat) (v : Int32) : hp_N (hp_sI w a k v) = hp_N w := Eq.trans rfl rfl
theorem hN_L (w : kx_H) (a k : Nat) (v : Int64) : hp_N (hp_sL w a k v) = hp_N w := Eq.trans rfl rfl
theorem hN_R (w : kx_H) (a k : Nat) (v : Option Nat) : hp_N (hp_sR w a k v) = hp_N w := Eq.trans rfl rfl
theorem hN_B (w : kx_H) (a k : Nat) (v : Bool) : hp_N (hp_sB w a k v) = hp_N w := Eq.trans rfl rfl
theorem hN_b (w : kx_H) (k n : Nat) : hp_N (hp_bump w k n) = hp_N w := Eq.trans rfl rfl
theorem hT_I (w : kx_H) (a k : Nat) (v : Int32) : hp_T (hp_sI w a k v) = hp_T w := Eq.trans rfl rfl
theorem hT_L (w : kx_H) (a k : Nat) (v : Int64) : hp_T (hp_sL w a k v) = hp_T w := Eq.trans rfl rfl
theorem hT_R (w : kx_H) (a k : Nat) (v : Option Nat) : hp_T (hp_sR w a k v) = hp_T w := Eq.trans rfl rfl
theorem hT_B (w : kx_H) (a k : Nat) (v : Bool) : hp_T (hp_sB w a k v) = hp_T w := Eq.trans rfl rfl
theorem hT_b (w : kx_H) (k n : Nat) : hp_T (hp_bump w k n) = hp_T w := Eq.trans rfl rfl
theorem hX_I (w : kx_H) (a k : Nat) (v : Int32) : hp_X (hp_sI w a k v) = hp_X w := Eq.trans rfl rfl
theorem hX_L (w : kx_H) (a k : Nat) (v : Int64) : hp_X (hp_sL w a k v) = hp_X w := Eq.trans rfl rfl
theorem hX_R (w : kx_H) (a k : Nat) (v : Option Nat) : hp_X (hp_sR w a k v) = hp_X w := Eq.trans rfl rfl
theorem hX_B (w : kx_H) (a k : Nat) (v : Bool) : hp_X (hp_sB w a k v) = hp_X w := Eq.trans rfl rfl
theorem hX_b (w : kx_H) (k n : Nat) : hp_X (hp_bump w k n) = hp_X w := Eq.trans rfl rfl
theorem hC_I (w : kx_H) (a k : Nat) (v : Int32) : hp_C (hp_sI w a k v) = hp_C w := Eq.trans rfl rfl
theorem hC_L (w : kx_H) (a k : Nat) (v : Int64) : hp_C (hp_sL w a k v) = hp_C w := Eq.trans rfl rfl
theorem hC_R (w : kx_H) (a k : Nat) (v : Option Nat) : hp_C (hp_sR w a k v) = hp_C w := Eq.trans rfl rfl
theorem hC_B (w : kx_H) (a k : Nat) (v : Bool) : hp_C (hp_sB w a k v) = hp_C w := Eq.trans rfl rfl
theorem hU_I (w : kx_H) (a k : Nat) (v : Int32) : hp_U (hp_sI w a k v) = hp_U w := Eq.trans rfl rfl
theorem hU_L (w : kx_H) (a k : Nat) (v : Int64) : hp_U (hp_sL w a k v) = hp_U w := Eq.trans rfl rfl
theorem hU_R (w : kx_H) (a k : Nat) (v : Option Nat) : hp_U (hp_sR w a k v) = hp_U w := Eq.trans rfl rfl
theorem hU_B (w : kx_H) (a k : Nat) (v : Bool) : hp_U (hp_sB w a k v) = hp_U w := Eq.trans rfl rfl
theorem hC_b (w : kx_H) (k n : Nat) : hp_C (hp_bump w k n) = hp_C w + k := Eq.trans rfl rfl
theorem hU_b (w : kx_H) (k n : Nat) : hp_U (hp_bump w k n) = hp_U w + n := Eq.trans rfl rfl
theorem bv_n {w : kx_H} {k : kx_H → kx_O} : kx_bv (some (.inl none, w)) k = k w := Eq.trans rfl rfl
theorem bv_e {e : Nat} {w : kx_H} {k : kx_H → kx_O} : kx_bv (some (.inr e, w)) k = some (.inr e, w) := Eq.trans rfl rfl
theorem bi_n {x : Int32} {w : kx_H} {k : Int32 → kx_H → kx_O} : kx_bi (some (.inl (some (.inl x)), w)) k = k x w := Eq.trans rfl rfl
theorem bi_e {e : Nat} {w : kx_H} {k : Int32 → kx_H → kx_O} : kx_bi (some (.inr e, w)) k = some (.inr e, w) := Eq.trans rfl rfl
theorem bl_n {x : Int64} {w : kx_H} {k : Int64 → kx_H → kx_O} : kx_bl (some (.inl (some (.inr (.inl x))), w)) k = k x w := Eq.trans rfl rfl
theorem bl_e {e : Nat} {w : kx_H} {k : Int64 → kx_H → kx_O} : kx_bl (some (.inr e, w)) k = some (.inr e, w) := Eq.trans rfl rfl
theorem br_n {c : Nat} {x : Option Nat} {w : kx_H} {k : Option Nat → kx_H → kx_O} : kx_br c (some (.inl (some (.inr (.inr (c, x)))), w)) k = k x w := by
  show (bif Nat.beq c c then k x w else none) = k x w
  rw [Nat.beq_refl]
  rfl
theorem br_e {c e : Nat} {w : kx_H} {k : Option Nat → kx_H → kx_O} : kx_br c (some (.inr e, w)) k = some (.inr e, w) := Eq.trans rfl rfl
theorem ob_s {a : Nat} {f : Nat → kx_O} : (some a : Option Nat).bind f = f a := Eq.trans rfl rfl
theorem thd_ok {d e : Nat} {l : kx_L} {w : kx_H} (hd : 4 ≤ d) (h1 : hp_C w + 1 ≤ kx_cc) (h2 : hp_U w + 6 ≤ kx_cs) : kx_thd kx_cc kx_cs d e l [] w = some (.inr e, hp_bump w 1 6) := by
  unfold kx_thd
  rw [show Nat.ble 4 d = true from Nat.ble_eq_true_of_le hd]
  show (if hp_C w + 1 ≤ kx_cc ∧ hp_U w + 6 ≤ kx_cs then (some (Sum.inr e, hp_bump w 1 6) : kx_O) else none) = _
  rw [if_pos ⟨h1, h2⟩]
theorem kx_fu : ∃ ψ, kx_fuel = ψ + 1 + 1 + 1 + 1 + 1 + 1 + 1 + 1 + 1 + 1 + 1 := ⟨999989, rfl⟩
/-- .. and for loops of n rounds -/
theorem kx_fl (n : Nat) (h : n ≤ 900000) : ∃ ψ, kx_fuel = ψ + n + 1 := ⟨999999 - n, by unfold kx_fuel; omega⟩
