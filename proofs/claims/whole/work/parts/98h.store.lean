/-! making cells, over the store -/
def hp_nw (w : kx_H) (t n s : Nat) : kx_H := (fun b => if b = hp_X w then some t else hp_T w b, hp_I w, hp_L w, hp_R w, hp_B w, fun b => if b = hp_X w then n else hp_N w b, hp_X w + 1, hp_C w + 1, hp_U w + s)
section NW
variable (w : kx_H) (t n s : Nat)
theorem hI_n : hp_I (hp_nw w t n s) = hp_I w := Eq.trans rfl rfl
theorem hL_n : hp_L (hp_nw w t n s) = hp_L w := Eq.trans rfl rfl
theorem hR_n : hp_R (hp_nw w t n s) = hp_R w := Eq.trans rfl rfl
theorem hB_n : hp_B (hp_nw w t n s) = hp_B w := Eq.trans rfl rfl
theorem hT_n (b : Nat) : hp_T (hp_nw w t n s) b = if b = hp_X w then some t else hp_T w b := Eq.trans rfl rfl
theorem hN_n (b : Nat) : hp_N (hp_nw w t n s) b = if b = hp_X w then n else hp_N w b := Eq.trans rfl rfl
theorem hX_n : hp_X (hp_nw w t n s) = hp_X w + 1 := Eq.trans rfl rfl
theorem hC_n : hp_C (hp_nw w t n s) = hp_C w + 1 := Eq.trans rfl rfl
theorem hU_n : hp_U (hp_nw w t n s) = hp_U w + s := Eq.trans rfl rfl
end NW
/-- nothing is in the cells to come -/
def ZF (w : kx_H) : Prop := (∀ a, hp_X w ≤ a → hp_T w a = none) ∧ (∀ a, hp_X w ≤ a → ∀ k, hp_I w (2 * a + 1) k = 0 ∧ hp_I w (2 * k) a = 0) ∧ (∀ a, hp_X w ≤ a → ∀ k, hp_L w (2 * a + 1) k = 0 ∧ hp_L w (2 * k) a = 0) ∧ (∀ a, hp_X w ≤ a → ∀ k, hp_R w (2 * a + 1) k = none ∧ hp_R w (2 * k) a = none) ∧ (∀ a, hp_X w ≤ a → ∀ k, hp_B w (2 * a + 1) k = false ∧ hp_B w (2 * k) a = false)
def ZS (w : kx_H) : Prop := ZF w ∧ kz_W (hp_T w) w
section ZSS
variable {w : kx_H} {a t k n s i K : Nat}
theorem kzk_c {T T' : Nat → Option Nat} {a k : Nat} (h : T' a = T a) : kz_k T' a k = kz_k T a k := by unfold kz_k; rw [h]
theorem kzx_c {T T' : Nat → Option Nat} {a k : Nat} (h : T' a = T a) : kz_x T' a k = kz_x T a k := by unfold kz_x; rw [h]
theorem ZF.lt (Z : ZF w) (h : hp_T w a = some t) : a < hp_X w := by
  apply Nat.lt_of_not_le
  intro h'
  rw [Z.1 a h'] at h
  cases h
theorem en_I (Z : ZF w) (t n s : Nat) : (fun b j => if b = hp_X w then (0 : Int32) else hp_I (kz_e w) b j) = fun b j => hp_I w (kz_k (hp_T (hp_nw w t n s)) b j) (kz_x (hp_T (hp_nw w t n s)) b j) := by
  funext b j
  by_cases hb : b = hp_X w
  · have hT : hp_T (hp_nw w t n s) b = some t := by rw [hT_n, if_pos hb]
    have z := Z.2.1 b (by omega)
    rw [if_pos hb]
    by_cases ht : t < 98
    · rw [(kz_ko hT ht).1, (kz_ko hT ht).2]
      exact (z _).2.symm
    · rw [(kz_ka hT (by omega)).1, (kz_ka hT (by omega)).2]
      exact (z _).1.symm
  · have hT : hp_T (hp_nw w t n s) b = hp_T w b := by rw [hT_n, if_neg hb]
    rw [if_neg hb, kzk_c hT, kzx_c hT]
    rfl
theorem en_L (Z : ZF w) (t n s : Nat) : (fun b j => if b = hp_X w then (0 : Int64) else hp_L (kz_e w) b j) = fun b j => hp_L w (kz_k (hp_T (hp_nw w t n s)) b j) (kz_x (hp_T (hp_nw w t n s)) b j) := by
  funext b j
  by_cases hb : b = hp_X w
  · have hT : hp_T (hp_nw w t n s) b = some t := by rw [hT_n, if_pos hb]
    have z := Z.2.2.1 b (by omega)
    rw [if_pos hb]
    by_cases ht : t < 98
    · rw [(kz_ko hT ht).1, (kz_ko hT ht).2]
      exact (z _).2.symm
    · rw [(kz_ka hT (by omega)).1, (kz_ka hT (by omega)).2]
      exact (z _).1.symm
  · have hT : hp_T (hp_nw w t n s) b = hp_T w b := by rw [hT_n, if_neg hb]
    rw [if_neg hb, kzk_c hT, kzx_c hT]
    rfl
theorem en_R (Z : ZF w) (t n s : Nat) : (fun b j => if b = hp_X w then (none : Option Nat) else hp_R (kz_e w) b j) = fun b j => hp_R w (kz_k (hp_T (hp_nw w t n s)) b j) (kz_x (hp_T (hp_nw w t n s)) b j) := by
  funext b j
  by_cases hb : b = hp_X w
  · have hT : hp_T (hp_nw w t n s) b = some t := by rw [hT_n, if_pos hb]
    have z := Z.2.2.2.1 b (by omega)
    rw [if_pos hb]
    by_cases ht : t < 98
    · rw [(kz_ko hT ht).1, (kz_ko hT ht).2]
      exact (z _).2.symm
    · rw [(kz_ka hT (by omega)).1, (kz_ka hT (by omega)).2]
      exact (z _).1.symm
  · have hT : hp_T (hp_nw w t n s) b = hp_T w b := by rw [hT_n, if_neg hb]
    rw [if_neg hb, kzk_c hT, kzx_c hT]
    rfl
theorem en_B (Z : ZF w) (t n s : Nat) : (fun b j => if b = hp_X w then (false : Bool) else hp_B (kz_e w) b j) = fun b j => hp_B w (kz_k (hp_T (hp_nw w t n s)) b j) (kz_x (hp_T (hp_nw w t n s)) b j) := by
  funext b j
  by_cases hb : b = hp_X w
  · have hT : hp_T (hp_nw w t n s) b = some t := by rw [hT_n, if_pos hb]
    have z := Z.2.2.2.2 b (by omega)
    rw [if_pos hb]
    by_cases ht : t < 98
    · rw [(kz_ko hT ht).1, (kz_ko hT ht).2]
      exact (z _).2.symm
    · rw [(kz_ka hT (by omega)).1, (kz_ka hT (by omega)).2]
      exact (z _).1.symm
  · have hT : hp_T (hp_nw w t n s) b = hp_T w b := by rw [hT_n, if_neg hb]
    rw [if_neg hb, kzk_c hT, kzx_c hT]
    rfl
theorem en_w (Z : ZF w) (t n s : Nat) : hp_new (kz_e w) t n s = kz_e (hp_nw w t n s) := by
  have e1 := en_I Z t n s
  have e2 := en_L Z t n s
  have e3 := en_R Z t n s
  have e4 := en_B Z t n s
  show ((fun b => if b = hp_X w then some t else hp_T w b, (fun b j => if b = hp_X w then (0 : Int32) else hp_I (kz_e w) b j), (fun b j => if b = hp_X w then (0 : Int64) else hp_L (kz_e w) b j), (fun b j => if b = hp_X w then (none : Option Nat) else hp_R (kz_e w) b j), (fun b j => if b = hp_X w then false else hp_B (kz_e w) b j), (fun b => if b = hp_X w then n else hp_N w b), hp_X w + 1, hp_C w + 1, hp_U w + s) : kx_H) = _
  rw [e1, e2, e3, e4]
  rfl
theorem es_I {v : Int32} (h : hp_T w a = some t) (ht : t < 98) (hK : K = 2 * (100 * t + k)) : hp_sI (kz_e w) a k v = kz_e (hp_sI w K a v) := by
  rw [kz_sI, (kz_ko h ht).1, (kz_ko h ht).2, hK]
theorem ea_I {v : Int32} (h : hp_T w a = some t) (ht : 98 ≤ t) (hK : K = 2 * a + 1) : hp_sI (kz_e w) a k v = kz_e (hp_sI w K k v) := by
  rw [kz_sI, (kz_ka h ht).1, (kz_ka h ht).2, hK]
theorem er_I (h : hp_T w a = some t) (ht : t < 98) (hK : K = 2 * (100 * t + k)) : hp_I (kz_e w) a k = hp_I w K a := by
  show hp_I w (kz_k (hp_T w) a k) (kz_x (hp_T w) a k) = _
  rw [(kz_ko h ht).1, (kz_ko h ht).2, hK]
theorem ex_I (h : hp_T w a = some t) (ht : 98 ≤ t) (hK : K = 2 * a + 1) : hp_I (kz_e w) a k = hp_I w K k := by
  show hp_I w (kz_k (hp_T w) a k) (kz_x (hp_T w) a k) = _
  rw [(kz_ka h ht).1, (kz_ka h ht).2, hK]
theorem es_L {v : Int64} (h : hp_T w a = some t) (ht : t < 98) (hK : K = 2 * (100 * t + k)) : hp_sL (kz_e w) a k v = kz_e (hp_sL w K a v) := by
  rw [kz_sL, (kz_ko h ht).1, (kz_ko h ht).2, hK]
theorem ea_L {v : Int64} (h : hp_T w a = some t) (ht : 98 ≤ t) (hK : K = 2 * a + 1) : hp_sL (kz_e w) a k v = kz_e (hp_sL w K k v) := by
  rw [kz_sL, (kz_ka h ht).1, (kz_ka h ht).2, hK]
theorem er_L (h : hp_T w a = some t) (ht : t < 98) (hK : K = 2 * (100 * t + k)) : hp_L (kz_e w) a k = hp_L w K a := by
  show hp_L w (kz_k (hp_T w) a k) (kz_x (hp_T w) a k) = _
  rw [(kz_ko h ht).1, (kz_ko h ht).2, hK]
theorem ex_L (h : hp_T w a = some t) (ht : 98 ≤ t) (hK : K = 2 * a + 1) : hp_L (kz_e w) a k = hp_L w K k := by
  show hp_L w (kz_k (hp_T w) a k) (kz_x (hp_T w) a k) = _
  rw [(kz_ka h ht).1, (kz_ka h ht).2, hK]
theorem es_R {v : Option Nat} (h : hp_T w a = some t) (ht : t < 98) (hK : K = 2 * (100 * t + k)) : hp_sR (kz_e w) a k v = kz_e (hp_sR w K a v) := by
  rw [kz_sR, (kz_ko h ht).1, (kz_ko h ht).2, hK]
theorem ea_R {v : Option Nat} (h : hp_T w a = some t) (ht : 98 ≤ t) (hK : K = 2 * a + 1) : hp_sR (kz_e w) a k v = kz_e (hp_sR w K k v) := by
  rw [kz_sR, (kz_ka h ht).1, (kz_ka h ht).2, hK]
theorem er_R (h : hp_T w a = some t) (ht : t < 98) (hK : K = 2 * (100 * t + k)) : hp_R (kz_e w) a k = hp_R w K a := by
  show hp_R w (kz_k (hp_T w) a k) (kz_x (hp_T w) a k) = _
  rw [(kz_ko h ht).1, (kz_ko h ht).2, hK]
theorem ex_R (h : hp_T w a = some t) (ht : 98 ≤ t) (hK : K = 2 * a + 1) : hp_R (kz_e w) a k = hp_R w K k := by
  show hp_R w (kz_k (hp_T w) a k) (kz_x (hp_T w) a k) = _
  rw [(kz_ka h ht).1, (kz_ka h ht).2, hK]
theorem es_B {v : Bool} (h : hp_T w a = some t) (ht : t < 98) (hK : K = 2 * (100 * t + k)) : hp_sB (kz_e w) a k v = kz_e (hp_sB w K a v) := by
  rw [kz_sB, (kz_ko h ht).1, (kz_ko h ht).2, hK]
theorem ea_B {v : Bool} (h : hp_T w a = some t) (ht : 98 ≤ t) (hK : K = 2 * a + 1) : hp_sB (kz_e w) a k v = kz_e (hp_sB w K k v) := by
  rw [kz_sB, (kz_ka h ht).1, (kz_ka h ht).2, hK]
theorem er_B (h : hp_T w a = some t) (ht : t < 98) (hK : K = 2 * (100 * t + k)) : hp_B (kz_e w) a k = hp_B w K a := by
  show hp_B w (kz_k (hp_T w) a k) (kz_x (hp_T w) a k) = _
  rw [(kz_ko h ht).1, (kz_ko h ht).2, hK]
theorem ex_B (h : hp_T w a = some t) (ht : 98 ≤ t) (hK : K = 2 * a + 1) : hp_B (kz_e w) a k = hp_B w K k := by
  show hp_B w (kz_k (hp_T w) a k) (kz_x (hp_T w) a k) = _
  rw [(kz_ka h ht).1, (kz_ka h ht).2, hK]
theorem ZF.sI {v : Int32} (Z : ZF w) (ha : a < hp_X w) (hK : K % 2 = 0) : ZF (hp_sI w K a v) := ⟨Z.1, fun b hb j => ⟨by rw [hI_I, if_neg (by intro e; have e1 := e.1; omega)]; exact (Z.2.1 b hb j).1, by rw [hI_I, if_neg (by intro e; have e2 := e.2; change hp_X w ≤ b at hb; omega)]; exact (Z.2.1 b hb j).2⟩, Z.2.2.1, Z.2.2.2.1, Z.2.2.2.2⟩
theorem ZF.aI {v : Int32} (Z : ZF w) (ha : a < hp_X w) (hK : K = 2 * a + 1) : ZF (hp_sI w K i v) := ⟨Z.1, fun b hb j => ⟨by rw [hI_I, if_neg (by intro e; have e1 := e.1; change hp_X w ≤ b at hb; omega)]; exact (Z.2.1 b hb j).1, by rw [hI_I, if_neg (by intro e; have e1 := e.1; omega)]; exact (Z.2.1 b hb j).2⟩, Z.2.2.1, Z.2.2.2.1, Z.2.2.2.2⟩
theorem ZS.sI {v : Int32} (Z : ZS w) (h : hp_T w a = some t) (hK : K % 2 = 0) : ZS (hp_sI w K a v) := ⟨Z.1.sI (Z.1.lt h) hK, Z.2⟩
theorem ZS.aI {v : Int32} (Z : ZS w) (h : hp_T w a = some t) (hK : K = 2 * a + 1) : ZS (hp_sI w K i v) := ⟨Z.1.aI (Z.1.lt h) hK, Z.2⟩
theorem ZF.sL {v : Int64} (Z : ZF w) (ha : a < hp_X w) (hK : K % 2 = 0) : ZF (hp_sL w K a v) := ⟨Z.1, Z.2.1, fun b hb j => ⟨by rw [hL_L, if_neg (by intro e; have e1 := e.1; omega)]; exact (Z.2.2.1 b hb j).1, by rw [hL_L, if_neg (by intro e; have e2 := e.2; change hp_X w ≤ b at hb; omega)]; exact (Z.2.2.1 b hb j).2⟩, Z.2.2.2.1, Z.2.2.2.2⟩
theorem ZF.aL {v : Int64} (Z : ZF w) (ha : a < hp_X w) (hK : K = 2 * a + 1) : ZF (hp_sL w K i v) := ⟨Z.1, Z.2.1, fun b hb j => ⟨by rw [hL_L, if_neg (by intro e; have e1 := e.1; change hp_X w ≤ b at hb; omega)]; exact (Z.2.2.1 b hb j).1, by rw [hL_L, if_neg (by intro e; have e1 := e.1; omega)]; exact (Z.2.2.1 b hb j).2⟩, Z.2.2.2.1, Z.2.2.2.2⟩
theorem ZS.sL {v : Int64} (Z : ZS w) (h : hp_T w a = some t) (hK : K % 2 = 0) : ZS (hp_sL w K a v) := ⟨Z.1.sL (Z.1.lt h) hK, Z.2⟩
theorem ZS.aL {v : Int64} (Z : ZS w) (h : hp_T w a = some t) (hK : K = 2 * a + 1) : ZS (hp_sL w K i v) := ⟨Z.1.aL (Z.1.lt h) hK, Z.2⟩
theorem ZF.sR {v : Option Nat} (Z : ZF w) (ha : a < hp_X w) (hK : K % 2 = 0) : ZF (hp_sR w K a v) := ⟨Z.1, Z.2.1, Z.2.2.1, fun b hb j => ⟨by rw [hR_R, if_neg (by intro e; have e1 := e.1; omega)]; exact (Z.2.2.2.1 b hb j).1, by rw [hR_R, if_neg (by intro e; have e2 := e.2; change hp_X w ≤ b at hb; omega)]; exact (Z.2.2.2.1 b hb j).2⟩, Z.2.2.2.2⟩
theorem ZF.aR {v : Option Nat} (Z : ZF w) (ha : a < hp_X w) (hK : K = 2 * a + 1) : ZF (hp_sR w K i v) := ⟨Z.1, Z.2.1, Z.2.2.1, fun b hb j => ⟨by rw [hR_R, if_neg (by intro e; have e1 := e.1; change hp_X w ≤ b at hb; omega)]; exact (Z.2.2.2.1 b hb j).1, by rw [hR_R, if_neg (by intro e; have e1 := e.1; omega)]; exact (Z.2.2.2.1 b hb j).2⟩, Z.2.2.2.2⟩
theorem ZF.sB {v : Bool} (Z : ZF w) (ha : a < hp_X w) (hK : K % 2 = 0) : ZF (hp_sB w K a v) := ⟨Z.1, Z.2.1, Z.2.2.1, Z.2.2.2.1, fun b hb j => ⟨by rw [hB_B, if_neg (by intro e; have e1 := e.1; omega)]; exact (Z.2.2.2.2 b hb j).1, by rw [hB_B, if_neg (by intro e; have e2 := e.2; change hp_X w ≤ b at hb; omega)]; exact (Z.2.2.2.2 b hb j).2⟩⟩
theorem ZF.aB {v : Bool} (Z : ZF w) (ha : a < hp_X w) (hK : K = 2 * a + 1) : ZF (hp_sB w K i v) := ⟨Z.1, Z.2.1, Z.2.2.1, Z.2.2.2.1, fun b hb j => ⟨by rw [hB_B, if_neg (by intro e; have e1 := e.1; change hp_X w ≤ b at hb; omega)]; exact (Z.2.2.2.2 b hb j).1, by rw [hB_B, if_neg (by intro e; have e1 := e.1; omega)]; exact (Z.2.2.2.2 b hb j).2⟩⟩
theorem ZS.sB {v : Bool} (Z : ZS w) (h : hp_T w a = some t) (hK : K % 2 = 0) : ZS (hp_sB w K a v) := ⟨Z.1.sB (Z.1.lt h) hK, Z.2⟩
theorem ZS.aB {v : Bool} (Z : ZS w) (h : hp_T w a = some t) (hK : K = 2 * a + 1) : ZS (hp_sB w K i v) := ⟨Z.1.aB (Z.1.lt h) hK, Z.2⟩
theorem ZF.nw (Z : ZF w) : ZF (hp_nw w t n s) := by
  refine ⟨fun b hb => ?_, fun b hb => Z.2.1 b ?_, fun b hb => Z.2.2.1 b ?_, fun b hb => Z.2.2.2.1 b ?_, fun b hb => Z.2.2.2.2 b ?_⟩
  · rw [hX_n] at hb
    rw [hT_n, if_neg (by omega)]
    exact Z.1 b (by omega)
  all_goals (rw [hX_n] at hb; omega)
theorem ZS.nw (Z : ZS w) : ZS (hp_nw w t n s) := by
  refine ⟨Z.1.nw, rfl, fun a t' k b hT ht hf hR => ?_, fun a t' k b hT ht hf hR => ?_⟩
  · rw [hR_n] at hR
    have hax : a ≠ hp_X w := fun e => by
      rw [e, (Z.1.2.2.2.1 (hp_X w) (by omega) _).2] at hR
      cases hR
    rw [hT_n, if_neg hax] at hT
    have h := Z.2.2.1 a t' k b hT ht hf hR
    have := Z.1.lt h
    rw [hT_n, if_neg (by omega)]
    exact h
  · rw [hR_n] at hR
    have hax : a ≠ hp_X w := fun e => by
      rw [e, (Z.1.2.2.2.1 (hp_X w) (by omega) _).1] at hR
      cases hR
    rw [hT_n, if_neg hax] at hT
    have h := Z.2.2.2 a t' k b hT ht hf hR
    have := Z.1.lt h
    rw [hT_n, if_neg (by omega)]
    exact h
theorem ZS.sR {v : Option Nat} (Z : ZS w) (h : hp_T w a = some t) (ht : t < 98) (hK : K = 2 * (100 * t + k)) (hk : k < 100) (hv : ∀ b, v = some b → hp_T w b = some (kx_ft t k).2) : ZS (hp_sR w K a v) := by
  refine ⟨Z.1.sR (Z.1.lt h) (by omega), rfl, fun a' t' k' b hT ht' hf hR => ?_, fun a' t' k' b hT ht' hf hR => ?_⟩
  · rw [hR_R] at hR
    by_cases e : 2 * (100 * t' + k') = K ∧ a' = a
    · rw [if_pos e] at hR
      have hT' : hp_T w a' = some t' := hT
      rw [e.2, h] at hT'
      have e2 : t = t' := Option.some.inj hT'
      have e3 : k' = k := by omega
      subst e2 e3
      exact hv b hR
    · rw [if_neg e] at hR
      exact Z.2.2.1 a' t' k' b hT ht' hf hR
  · rw [hR_R, if_neg (by omega)] at hR
    exact Z.2.2.2 a' t' k' b hT ht' hf hR
theorem ZS.aR {v : Option Nat} (Z : ZS w) (h : hp_T w a = some t) (ht : 98 ≤ t) (hK : K = 2 * a + 1) (hv : ∀ b, v = some b → hp_T w b = some (kx_ak t).2) : ZS (hp_sR w K i v) := by
  refine ⟨Z.1.aR (Z.1.lt h) hK, rfl, fun a' t' k' b hT ht' hf hR => ?_, fun a' t' k' b hT ht' hf hR => ?_⟩
  · rw [hR_R, if_neg (by omega)] at hR
    exact Z.2.2.1 a' t' k' b hT ht' hf hR
  · rw [hR_R] at hR
    by_cases e : 2 * a' + 1 = K ∧ k' = i
    · rw [if_pos e] at hR
      have hT' : hp_T w a' = some t' := hT
      have e1 : a' = a := by omega
      rw [e1, h] at hT'
      have e2 : t = t' := Option.some.inj hT'
      subst e2
      exact hv b hR
    · rw [if_neg e] at hR
      exact Z.2.2.2 a' t' k' b hT ht' hf hR
end ZSS
