/-! The store by (class, field) and cell: a heap as it is read out of such a store. -/
def kz_k (T : Nat → Option Nat) (a k : Nat) : Nat := match T a with
  | some t => bif Nat.blt t 98 then 2 * (100 * t + k) else 2 * a + 1
  | none => 2 * a + 1
def kz_x (T : Nat → Option Nat) (a k : Nat) : Nat := match T a with
  | some t => bif Nat.blt t 98 then a else k
  | none => k
def kz_e (w : kx_H) : kx_H := (hp_T w, fun a k => hp_I w (kz_k (hp_T w) a k) (kz_x (hp_T w) a k), fun a k => hp_L w (kz_k (hp_T w) a k) (kz_x (hp_T w) a k), fun a k => hp_R w (kz_k (hp_T w) a k) (kz_x (hp_T w) a k), fun a k => hp_B w (kz_k (hp_T w) a k) (kz_x (hp_T w) a k), hp_N w, hp_X w, hp_C w, hp_U w)
theorem kz_inj (T : Nat → Option Nat) (a k b j : Nat) : (kz_k T b j = kz_k T a k ∧ kz_x T b j = kz_x T a k) ↔ (b = a ∧ j = k) := by
  constructor
  · intro ⟨h1, h2⟩
    unfold kz_k at h1
    unfold kz_x at h2
    cases hb : T b with
    | none =>
      rw [hb] at h1 h2
      cases ha : T a with
      | none =>
        rw [ha] at h1 h2
        dsimp only at h1 h2
        omega
      | some t =>
        rw [ha] at h1 h2
        dsimp only at h1 h2
        cases ht : Nat.blt t 98 with
        | true =>
          rw [ht] at h1 h2
          simp only [cond_true] at h1 h2
          omega
        | false =>
          rw [ht] at h1 h2
          simp only [cond_false] at h1 h2
          omega
    | some u =>
      rw [hb] at h1 h2
      dsimp only at h1 h2
      cases hu : Nat.blt u 98 with
      | true =>
        rw [hu] at h1 h2
        simp only [cond_true] at h1 h2
        cases ha : T a with
        | none =>
          rw [ha] at h1 h2
          dsimp only at h1 h2
          omega
        | some t =>
          rw [ha] at h1 h2
          dsimp only at h1 h2
          cases ht : Nat.blt t 98 with
          | true =>
            rw [ht] at h1 h2
            simp only [cond_true] at h1 h2
            subst h2
            rw [hb] at ha
            cases ha
            omega
          | false =>
            rw [ht] at h1 h2
            simp only [cond_false] at h1 h2
            omega
      | false =>
        rw [hu] at h1 h2
        simp only [cond_false] at h1 h2
        cases ha : T a with
        | none =>
          rw [ha] at h1 h2
          dsimp only at h1 h2
          omega
        | some t =>
          rw [ha] at h1 h2
          dsimp only at h1 h2
          cases ht : Nat.blt t 98 with
          | true =>
            rw [ht] at h1 h2
            simp only [cond_true] at h1 h2
            omega
          | false =>
            rw [ht] at h1 h2
            simp only [cond_false] at h1 h2
            omega
  · rintro ⟨rfl, rfl⟩
    exact ⟨rfl, rfl⟩
theorem kz_sI (w : kx_H) (a k : Nat) (v : Int32) : hp_sI (kz_e w) a k v = kz_e (hp_sI w (kz_k (hp_T w) a k) (kz_x (hp_T w) a k) v) := by
  have h : (fun b j => if b = a ∧ j = k then v else hp_I w (kz_k (hp_T w) b j) (kz_x (hp_T w) b j)) = (fun b j => if kz_k (hp_T w) b j = kz_k (hp_T w) a k ∧ kz_x (hp_T w) b j = kz_x (hp_T w) a k then v else hp_I w (kz_k (hp_T w) b j) (kz_x (hp_T w) b j)) := by
    funext b j
    by_cases hq : b = a ∧ j = k
    · rw [if_pos hq, if_pos ((kz_inj _ _ _ _ _).mpr hq)]
    · rw [if_neg hq, if_neg (fun z => hq ((kz_inj _ _ _ _ _).mp z))]
  exact congrArg (fun f => ((hp_T w, f, hp_L (kz_e w), hp_R (kz_e w), hp_B (kz_e w), hp_N w, hp_X w, hp_C w, hp_U w) : kx_H)) h
theorem kz_sL (w : kx_H) (a k : Nat) (v : Int64) : hp_sL (kz_e w) a k v = kz_e (hp_sL w (kz_k (hp_T w) a k) (kz_x (hp_T w) a k) v) := by
  have h : (fun b j => if b = a ∧ j = k then v else hp_L w (kz_k (hp_T w) b j) (kz_x (hp_T w) b j)) = (fun b j => if kz_k (hp_T w) b j = kz_k (hp_T w) a k ∧ kz_x (hp_T w) b j = kz_x (hp_T w) a k then v else hp_L w (kz_k (hp_T w) b j) (kz_x (hp_T w) b j)) := by
    funext b j
    by_cases hq : b = a ∧ j = k
    · rw [if_pos hq, if_pos ((kz_inj _ _ _ _ _).mpr hq)]
    · rw [if_neg hq, if_neg (fun z => hq ((kz_inj _ _ _ _ _).mp z))]
  exact congrArg (fun f => ((hp_T w, hp_I (kz_e w), f, hp_R (kz_e w), hp_B (kz_e w), hp_N w, hp_X w, hp_C w, hp_U w) : kx_H)) h
theorem kz_sR (w : kx_H) (a k : Nat) (v : Option Nat) : hp_sR (kz_e w) a k v = kz_e (hp_sR w (kz_k (hp_T w) a k) (kz_x (hp_T w) a k) v) := by
  have h : (fun b j => if b = a ∧ j = k then v else hp_R w (kz_k (hp_T w) b j) (kz_x (hp_T w) b j)) = (fun b j => if kz_k (hp_T w) b j = kz_k (hp_T w) a k ∧ kz_x (hp_T w) b j = kz_x (hp_T w) a k then v else hp_R w (kz_k (hp_T w) b j) (kz_x (hp_T w) b j)) := by
    funext b j
    by_cases hq : b = a ∧ j = k
    · rw [if_pos hq, if_pos ((kz_inj _ _ _ _ _).mpr hq)]
    · rw [if_neg hq, if_neg (fun z => hq ((kz_inj _ _ _ _ _).mp z))]
  exact congrArg (fun f => ((hp_T w, hp_I (kz_e w), hp_L (kz_e w), f, hp_B (kz_e w), hp_N w, hp_X w, hp_C w, hp_U w) : kx_H)) h
theorem kz_sB (w : kx_H) (a k : Nat) (v : Bool) : hp_sB (kz_e w) a k v = kz_e (hp_sB w (kz_k (hp_T w) a k) (kz_x (hp_T w) a k) v) := by
  have h : (fun b j => if b = a ∧ j = k then v else hp_B w (kz_k (hp_T w) b j) (kz_x (hp_T w) b j)) = (fun b j => if kz_k (hp_T w) b j = kz_k (hp_T w) a k ∧ kz_x (hp_T w) b j = kz_x (hp_T w) a k then v else hp_B w (kz_k (hp_T w) b j) (kz_x (hp_T w) b j)) := by
    funext b j
    by_cases hq : b = a ∧ j = k
    · rw [if_pos hq, if_pos ((kz_inj _ _ _ _ _).mpr hq)]
    · rw [if_neg hq, if_neg (fun z => hq ((kz_inj _ _ _ _ _).mp z))]
  exact congrArg (fun f => ((hp_T w, hp_I (kz_e w), hp_L (kz_e w), hp_R (kz_e w), f, hp_N w, hp_X w, hp_C w, hp_U w) : kx_H)) h
theorem kz_ko {T : Nat → Option Nat} {a t k : Nat} (h : T a = some t) (ht : t < 98) : kz_k T a k = 2 * (100 * t + k) ∧ kz_x T a k = a := by
  unfold kz_k kz_x
  rw [h]
  have e : Nat.blt t 98 = true := Nat.ble_eq_true_of_le ht
  dsimp only
  rw [e]
  exact ⟨rfl, rfl⟩
theorem kz_ka {T : Nat → Option Nat} {a t k : Nat} (h : T a = some t) (ht : 98 ≤ t) : kz_k T a k = 2 * a + 1 ∧ kz_x T a k = k := by
  unfold kz_k kz_x
  rw [h]
  have e : Nat.blt t 98 = false := by
    cases hz : Nat.blt t 98 with
    | false => rfl
    | true => exact absurd (Nat.le_of_ble_eq_true hz) (by omega)
  dsimp only
  rw [e]
  exact ⟨rfl, rfl⟩
def kz_ok (T : Nat → Option Nat) (v : kx_V) : Prop := match v with
  | .inr (.inr x) => ∀ a, x.2 = some a → T a = some x.1
  | _ => True
def kz_W (T : Nat → Option Nat) (w : kx_H) : Prop := hp_T w = T ∧ (∀ a t k b, T a = some t → t < 98 → (kx_ft t k).1 = 2 → hp_R w (2 * (100 * t + k)) a = some b → T b = some (kx_ft t k).2) ∧ (∀ a t k b, T a = some t → 98 < t → (kx_ak t).1 = 2 → hp_R w (2 * a + 1) k = some b → T b = some (kx_ak t).2)
/-- what the store's function answers, the heap's answers -/
def kZr (T : Nat → Option Nat) (F G : kx_O) : Prop := ∀ r w', G = some (r, w') → F = some (r, kz_e w') ∧ kz_W T w' ∧ ∀ v, r = .inl (some v) → kz_ok T v
def kZ (T : Nat → Option Nat) (F G : kx_F) : Prop := ∀ l st w, (∀ q ∈ l, kz_ok T q.2) → (∀ v ∈ st, kz_ok T v) → kz_W T w → kZr T (F l st (kz_e w)) (G l st w)
def kZC (T : Nat → Option Nat) (C C' : kx_C) : Prop := ∀ n as w, (∀ v ∈ as, kz_ok T v) → kz_W T w → kZr T (C n as (kz_e w)) (C' n as w)
def wx_gI (t p : Nat) (k : kx_F) : kx_F := fun l st h => match st with
  | .inr (.inr x) :: r => bif Nat.beq x.1 t then x.2.bind (fun a => k l (.inl (hp_I h (2 * (100 * t + p)) a) :: r) h) else none
  | _ => none
def wx_gL (t p : Nat) (k : kx_F) : kx_F := fun l st h => match st with
  | .inr (.inr x) :: r => bif Nat.beq x.1 t then x.2.bind (fun a => k l (.inr (.inl (hp_L h (2 * (100 * t + p)) a)) :: r) h) else none
  | _ => none
def wx_gB (t p : Nat) (k : kx_F) : kx_F := fun l st h => match st with
  | .inr (.inr x) :: r => bif Nat.beq x.1 t then x.2.bind (fun a => k l (.inl (kx_b (hp_B h (2 * (100 * t + p)) a)) :: r) h) else none
  | _ => none
def wx_gR (t p c : Nat) (k : kx_F) : kx_F := fun l st h => match st with
  | .inr (.inr x) :: r => bif Nat.beq x.1 t then x.2.bind (fun a => k l (.inr (.inr (c, hp_R h (2 * (100 * t + p)) a)) :: r) h) else none
  | _ => none
def wx_pI (t p : Nat) (k : kx_F) : kx_F := fun l st h => match st with
  | .inl v :: .inr (.inr x) :: r => bif Nat.beq x.1 t then x.2.bind (fun a => k l r (hp_sI h (2 * (100 * t + p)) a v)) else none
  | _ => none
def wx_pL (t p : Nat) (k : kx_F) : kx_F := fun l st h => match st with
  | .inr (.inl v) :: .inr (.inr x) :: r => bif Nat.beq x.1 t then x.2.bind (fun a => k l r (hp_sL h (2 * (100 * t + p)) a v)) else none
  | _ => none
def wx_pR (t p c : Nat) (k : kx_F) : kx_F := fun l st h => match st with
  | .inr (.inr v) :: .inr (.inr x) :: r => bif (Nat.beq x.1 t && Nat.beq v.1 c) then x.2.bind (fun a => k l r (hp_sR h (2 * (100 * t + p)) a v.2)) else none
  | _ => none
def wx_pB (t p : Nat) (k : kx_F) : kx_F := fun l st h => match st with
  | .inl v :: .inr (.inr x) :: r => bif Nat.beq x.1 t then x.2.bind (fun a => if v = 0 then k l r (hp_sB h (2 * (100 * t + p)) a false) else if v = 1 then k l r (hp_sB h (2 * (100 * t + p)) a true) else none) else none
  | _ => none
def wx_aI (t : Nat) (k : kx_F) : kx_F := fun l st h => match st with
  | .inl i :: .inr (.inr x) :: r => bif Nat.beq x.1 t then x.2.bind (fun a => if i < 0 ∨ hp_N h a ≤ i.toNatClampNeg then none else k l (.inl (hp_I h (2 * a + 1) i.toNatClampNeg) :: r) h) else none
  | _ => none
def wx_aL (t : Nat) (k : kx_F) : kx_F := fun l st h => match st with
  | .inl i :: .inr (.inr x) :: r => bif Nat.beq x.1 t then x.2.bind (fun a => if i < 0 ∨ hp_N h a ≤ i.toNatClampNeg then none else k l (.inr (.inl (hp_L h (2 * a + 1) i.toNatClampNeg)) :: r) h) else none
  | _ => none
def wx_aR (t c : Nat) (k : kx_F) : kx_F := fun l st h => match st with
  | .inl i :: .inr (.inr x) :: r => bif Nat.beq x.1 t then x.2.bind (fun a => if i < 0 ∨ hp_N h a ≤ i.toNatClampNeg then none else k l (.inr (.inr (c, hp_R h (2 * a + 1) i.toNatClampNeg)) :: r) h) else none
  | _ => none
def wx_aB (t : Nat) (k : kx_F) : kx_F := fun l st h => match st with
  | .inl i :: .inr (.inr x) :: r => bif Nat.beq x.1 t then x.2.bind (fun a => if i < 0 ∨ hp_N h a ≤ i.toNatClampNeg then none else k l (.inl (kx_b (hp_B h (2 * a + 1) i.toNatClampNeg)) :: r) h) else none
  | _ => none
def wx_asI (t : Nat) (k : kx_F) : kx_F := fun l st h => match st with
  | .inl v :: .inl i :: .inr (.inr x) :: r => bif Nat.beq x.1 t then x.2.bind (fun a => if i < 0 ∨ hp_N h a ≤ i.toNatClampNeg then none else k l r (hp_sI h (2 * a + 1) i.toNatClampNeg v)) else none
  | _ => none
def wx_asL (t : Nat) (k : kx_F) : kx_F := fun l st h => match st with
  | .inr (.inl v) :: .inl i :: .inr (.inr x) :: r => bif Nat.beq x.1 t then x.2.bind (fun a => if i < 0 ∨ hp_N h a ≤ i.toNatClampNeg then none else k l r (hp_sL h (2 * a + 1) i.toNatClampNeg v)) else none
  | _ => none
def wx_asR (t c : Nat) (k : kx_F) : kx_F := fun l st h => match st with
  | .inr (.inr v) :: .inl i :: .inr (.inr x) :: r => bif (Nat.beq x.1 t && Nat.beq v.1 c) then x.2.bind (fun a => if i < 0 ∨ hp_N h a ≤ i.toNatClampNeg then none else k l r (hp_sR h (2 * a + 1) i.toNatClampNeg v.2)) else none
  | _ => none
def wx_asB (t : Nat) (k : kx_F) : kx_F := fun l st h => match st with
  | .inl v :: .inl i :: .inr (.inr x) :: r => bif Nat.beq x.1 t then x.2.bind (fun a => if i < 0 ∨ hp_N h a ≤ i.toNatClampNeg then none else if v = 0 then k l r (hp_sB h (2 * a + 1) i.toNatClampNeg false) else if v = 1 then k l r (hp_sB h (2 * a + 1) i.toNatClampNeg true) else none) else none
  | _ => none
section KZ
variable {T : Nat → Option Nat} {F G : kx_O} {k k' j j' : kx_F} {C C' : kx_C} {t p c i : Nat}
theorem kZr_n : kZr T F none := fun r w' h => by cases h
theorem kZr_b {o : Option Nat} {f g : Nat → kx_O} (h : ∀ a, o = some a → kZr T (f a) (g a)) : kZr T (o.bind f) (o.bind g) := by
  cases o with
  | none => exact kZr_n
  | some a => exact h a rfl
theorem kZr_c {b : Bool} {F1 F2 G1 G2 : kx_O} (h1 : b = true → kZr T F1 G1) (h2 : b = false → kZr T F2 G2) : kZr T (bif b then F1 else F2) (bif b then G1 else G2) := by
  cases b with
  | true => exact h1 rfl
  | false => exact h2 rfl
theorem kZr_i {q : Prop} [Decidable q] {F1 F2 G1 G2 : kx_O} (h1 : q → kZr T F1 G1) (h2 : ¬ q → kZr T F2 G2) : kZr T (if q then F1 else F2) (if q then G1 else G2) := by
  by_cases h : q
  · rw [if_pos h, if_pos h]; exact h1 h
  · rw [if_neg h, if_neg h]; exact h2 h
theorem kz_oc {v : kx_V} {st : List kx_V} (h1 : kz_ok T v) (h2 : ∀ v ∈ st, kz_ok T v) : ∀ x ∈ v :: st, kz_ok T x := List.forall_mem_cons.mpr ⟨h1, h2⟩
theorem kz_ot {v : kx_V} {st : List kx_V} (h : ∀ x ∈ v :: st, kz_ok T x) : ∀ x ∈ st, kz_ok T x := (List.forall_mem_cons.mp h).2
theorem kz_oh {v : kx_V} {st : List kx_V} (h : ∀ x ∈ v :: st, kz_ok T x) : kz_ok T v := (List.forall_mem_cons.mp h).1
theorem kz_tag {x : Nat × Option Nat} {a : Nat} (h : kz_ok T (.inr (.inr x))) (hb : Nat.beq x.1 t = true) (hx : x.2 = some a) : T a = some t := by
  rw [← Nat.eq_of_beq_eq_true hb]
  exact h a hx
theorem kz_gt {l : kx_L} {i : Nat} {v : kx_V} (hl : ∀ q ∈ l, kz_ok T q.2) (h : kx_get l i = some v) : kz_ok T v := hl _ (kx_get_mem h)
theorem kz_put1 {l : kx_L} {i : Nat} {v : kx_V} (hl : ∀ q ∈ l, kz_ok T q.2) (h : kz_ok T v) : ∀ q ∈ kx_put1 l i v, kz_ok T q.2 := by
  intro q hq
  unfold kx_put1 at hq
  rcases List.mem_cons.mp hq with rfl | hq
  · exact h
  · exact hl q (List.mem_filter.mp hq).1
theorem kz_put2 {l : kx_L} {i : Nat} {v : kx_V} (hl : ∀ q ∈ l, kz_ok T q.2) (h : kz_ok T v) : ∀ q ∈ kx_put2 l i v, kz_ok T q.2 := by
  intro q hq
  unfold kx_put2 at hq
  rcases List.mem_cons.mp hq with rfl | hq
  · exact h
  · exact hl q (List.mem_filter.mp hq).1
theorem kz_pick {l l' : kx_L} (hl : ∀ q ∈ l, kz_ok T q.2) {is : List Nat} (h : kx_pick l is = some l') : ∀ q ∈ l', kz_ok T q.2 := by
  induction is generalizing l' with
  | nil => cases h; intro q hq; cases hq
  | cons i is ih =>
    unfold kx_pick at h
    cases h1 : kx_get l i with
    | none => rw [h1] at h; cases h
    | some v =>
      rw [h1] at h
      simp only [Option.bind_some] at h
      cases h2 : kx_pick l is with
      | none => rw [h2] at h; cases h
      | some t =>
        rw [h2] at h
        cases h
        exact List.forall_mem_cons.mpr ⟨kz_gt hl h1, ih h2⟩
theorem zz_nm {is : List Nat} (hk : kZ T k k') : kZ T (kx_nm is k) (kx_nm is k') := by
  intro l st w hl hs hW
  unfold kx_nm
  cases h : kx_pick l is with
  | none => exact kZr_n
  | some l' => exact hk l' st w (kz_pick hl h) hs hW
theorem zz_no : kZ T k (fun _ _ _ => none) := fun _ _ _ _ _ _ => kZr_n
theorem zz_c {v : kx_V} (hv : ∀ t a, v ≠ kx_r t (some a)) (hk : kZ T k k') : kZ T (kx_c v k) (kx_c v k') := by
  intro l st w hl hs hW
  refine hk _ _ _ hl (kz_oc ?_ hs) hW
  rcases v with x | x | ⟨t, _ | a⟩
  · trivial
  · trivial
  · intro b hb; cases hb
  · exact absurd rfl (hv t a)
theorem zz_ci {x : Int32} (hk : kZ T k k') : kZ T (kx_c (kx_i x) k) (kx_c (kx_i x) k') := fun _ _ _ hl hs hW => hk _ _ _ hl (kz_oc trivial hs) hW
theorem zz_cl {x : Int64} (hk : kZ T k k') : kZ T (kx_c (kx_l x) k) (kx_c (kx_l x) k') := fun _ _ _ hl hs hW => hk _ _ _ hl (kz_oc trivial hs) hW
theorem zz_cn {t : Nat} (hk : kZ T k k') : kZ T (kx_c (kx_r t none) k) (kx_c (kx_r t none) k') := fun _ _ _ hl hs hW => hk _ _ _ hl (kz_oc (fun _ h => by cases h) hs) hW
theorem zz_li (hk : kZ T k k') : kZ T (kx_li i k) (kx_li i k') := by
  intro l st w hl hs hW
  unfold kx_li
  cases h : kx_get l i with
  | none => exact kZr_n
  | some v =>
    rcases v with x | x | x
    · exact hk _ _ _ hl (kz_oc (kz_gt hl h) hs) hW
    · exact kZr_n
    · exact kZr_n
theorem zz_ll (hk : kZ T k k') : kZ T (kx_ll i k) (kx_ll i k') := by
  intro l st w hl hs hW
  unfold kx_ll
  cases h : kx_get l i with
  | none => exact kZr_n
  | some v =>
    rcases v with x | x | x
    · exact kZr_n
    · exact hk _ _ _ hl (kz_oc (kz_gt hl h) hs) hW
    · exact kZr_n
theorem zz_la (hk : kZ T k k') : kZ T (kx_la i k) (kx_la i k') := by
  intro l st w hl hs hW
  unfold kx_la
  cases h : kx_get l i with
  | none => exact kZr_n
  | some v =>
    rcases v with x | x | x
    · exact kZr_n
    · exact kZr_n
    · exact hk _ _ _ hl (kz_oc (kz_gt hl h) hs) hW
theorem zz_inc {n : Int32} (hk : kZ T k k') : kZ T (kx_inc i n k) (kx_inc i n k') := by
  intro l st w hl hs hW
  unfold kx_inc
  cases h : kx_get l i with
  | none => exact kZr_n
  | some v =>
    rcases v with x | x | x
    · exact hk _ _ _ (kz_put1 hl trivial) hs hW
    · exact kZr_n
    · exact kZr_n
theorem zz_si (hk : kZ T k k') : kZ T (kx_si i k) (kx_si i k') := by
  intro l st w hl hs hW
  rcases st with _ | ⟨x | x | x, st⟩
  all_goals first
    | exact kZr_n
    | (exact hk _ _ _ (kz_put1 hl trivial) (kz_ot hs) hW)
theorem zz_sl (hk : kZ T k k') : kZ T (kx_sl i k) (kx_sl i k') := by
  intro l st w hl hs hW
  rcases st with _ | ⟨x | x | x, st⟩
  all_goals first
    | exact kZr_n
    | (exact hk _ _ _ (kz_put2 hl trivial) (kz_ot hs) hW)
theorem zz_sa (hk : kZ T k k') : kZ T (kx_sa i k) (kx_sa i k') := by
  intro l st w hl hs hW
  rcases st with _ | ⟨x | x | x, st⟩
  all_goals first
    | exact kZr_n
    | (exact hk _ _ _ (kz_put1 hl (kz_oh hs)) (kz_ot hs) hW)
theorem zz_ii {f : Int32 → Int32 → Int32} (hk : kZ T k k') : kZ T (kx_ii f k) (kx_ii f k') := by
  intro l st w hl hs hW
  rcases st with _ | ⟨x | x | x, _ | ⟨y | y | y, st⟩⟩
  all_goals first
    | exact kZr_n
    | (exact hk _ _ _ hl (kz_oc trivial (kz_ot (kz_ot hs))) hW)
theorem zz_jj {f : Int64 → Int64 → Int64} (hk : kZ T k k') : kZ T (kx_jj f k) (kx_jj f k') := by
  intro l st w hl hs hW
  rcases st with _ | ⟨x | x | x, _ | ⟨y | y | y, st⟩⟩
  all_goals first
    | exact kZr_n
    | (exact hk _ _ _ hl (kz_oc trivial (kz_ot (kz_ot hs))) hW)
theorem zz_ji {f : Int64 → Int32 → Int64} (hk : kZ T k k') : kZ T (kx_ji f k) (kx_ji f k') := by
  intro l st w hl hs hW
  rcases st with _ | ⟨x | x | x, _ | ⟨y | y | y, st⟩⟩
  all_goals first
    | exact kZr_n
    | (exact hk _ _ _ hl (kz_oc trivial (kz_ot (kz_ot hs))) hW)
theorem zz_irem (hk : kZ T k k') : kZ T (kx_irem k) (kx_irem k') := by
  intro l st w hl hs hW
  rcases st with _ | ⟨x | x | x, _ | ⟨y | y | y, st⟩⟩
  all_goals first
    | exact kZr_n
    | (exact kZr_i (fun _ => kZr_n) (fun _ => hk _ _ _ hl (kz_oc trivial (kz_ot (kz_ot hs))) hW))
theorem zz_idiv (hk : kZ T k k') : kZ T (kx_idiv k) (kx_idiv k') := by
  intro l st w hl hs hW
  rcases st with _ | ⟨x | x | x, _ | ⟨y | y | y, st⟩⟩
  all_goals first
    | exact kZr_n
    | (exact kZr_i (fun _ => kZr_n) (fun _ => hk _ _ _ hl (kz_oc trivial (kz_ot (kz_ot hs))) hW))
theorem zz_ineg (hk : kZ T k k') : kZ T (kx_ineg k) (kx_ineg k') := by
  intro l st w hl hs hW
  rcases st with _ | ⟨x | x | x, st⟩
  all_goals first
    | exact kZr_n
    | (exact hk _ _ _ hl (kz_oc trivial (kz_ot hs)) hW)
theorem zz_i2l (hk : kZ T k k') : kZ T (kx_i2l k) (kx_i2l k') := by
  intro l st w hl hs hW
  rcases st with _ | ⟨x | x | x, st⟩
  all_goals first
    | exact kZr_n
    | (exact hk _ _ _ hl (kz_oc trivial (kz_ot hs)) hW)
theorem zz_l2i (hk : kZ T k k') : kZ T (kx_l2i k) (kx_l2i k') := by
  intro l st w hl hs hW
  rcases st with _ | ⟨x | x | x, st⟩
  all_goals first
    | exact kZr_n
    | (exact hk _ _ _ hl (kz_oc trivial (kz_ot hs)) hW)
theorem zz_lcmp (hk : kZ T k k') : kZ T (kx_lcmp k) (kx_lcmp k') := by
  intro l st w hl hs hW
  rcases st with _ | ⟨x | x | x, _ | ⟨y | y | y, st⟩⟩
  all_goals first
    | exact kZr_n
    | (exact hk _ _ _ hl (kz_oc trivial (kz_ot (kz_ot hs))) hW)
theorem zz_dup (hk : kZ T k k') : kZ T (kx_dup k) (kx_dup k') := by
  intro l st w hl hs hW
  rcases st with _ | ⟨v, st⟩
  · exact kZr_n
  · exact kZr_c (fun _ => kZr_n) (fun _ => hk _ _ _ hl (kz_oc (kz_oh hs) hs) hW)
theorem zz_pop (hk : kZ T k k') : kZ T (kx_pop k) (kx_pop k') := by
  intro l st w hl hs hW
  rcases st with _ | ⟨v, st⟩
  · exact kZr_n
  · exact kZr_c (fun _ => kZr_n) (fun _ => hk _ _ _ hl (kz_ot hs) hW)
theorem zz_dupx1 (hk : kZ T k k') : kZ T (kx_dupx1 k) (kx_dupx1 k') := by
  intro l st w hl hs hW
  rcases st with _ | ⟨v, _ | ⟨x, st⟩⟩
  · exact kZr_n
  · exact kZr_n
  · exact kZr_c (fun _ => kZr_n) (fun _ => kZr_c (fun _ => kZr_n) (fun _ => hk _ _ _ hl (kz_oc (kz_oh hs) (kz_oc (kz_oh (kz_ot hs)) (kz_oc (kz_oh hs) (kz_ot (kz_ot hs))))) hW))
theorem zz_dup2 (hk : kZ T k k') : kZ T (kx_dup2 k) (kx_dup2 k') := by
  intro l st w hl hs hW
  rcases st with _ | ⟨v, _ | ⟨x, st⟩⟩
  · exact kZr_n
  · exact kZr_n
  · exact kZr_c (fun _ => kZr_n) (fun _ => kZr_c (fun _ => kZr_n) (fun _ => hk _ _ _ hl (kz_oc (kz_oh hs) (kz_oc (kz_oh (kz_ot hs)) hs)) hW))
theorem zz_pop2 (hk : kZ T k k') : kZ T (kx_pop2 k) (kx_pop2 k') := by
  intro l st w hl hs hW
  rcases st with _ | ⟨x | x | x, st⟩
  all_goals first
    | exact kZr_n
    | (exact hk _ _ _ hl (kz_ot hs) hW)
theorem zz_ifeq (hj : kZ T j j') (hk : kZ T k k') : kZ T (kx_ifeq j k) (kx_ifeq j' k') := by
  intro l st w hl hs hW
  rcases st with _ | ⟨x | x | x, st⟩
  all_goals first
    | exact kZr_n
    | (exact kZr_i (fun _ => hj _ _ _ hl (kz_ot hs) hW) (fun _ => hk _ _ _ hl (kz_ot hs) hW))
theorem zz_iflt (hj : kZ T j j') (hk : kZ T k k') : kZ T (kx_iflt j k) (kx_iflt j' k') := by
  intro l st w hl hs hW
  rcases st with _ | ⟨x | x | x, st⟩
  all_goals first
    | exact kZr_n
    | (exact kZr_i (fun _ => hj _ _ _ hl (kz_ot hs) hW) (fun _ => hk _ _ _ hl (kz_ot hs) hW))
theorem zz_ifge (hj : kZ T j j') (hk : kZ T k k') : kZ T (kx_ifge j k) (kx_ifge j' k') := by
  intro l st w hl hs hW
  rcases st with _ | ⟨x | x | x, st⟩
  all_goals first
    | exact kZr_n
    | (exact kZr_i (fun _ => hj _ _ _ hl (kz_ot hs) hW) (fun _ => hk _ _ _ hl (kz_ot hs) hW))
theorem zz_ifgt (hj : kZ T j j') (hk : kZ T k k') : kZ T (kx_ifgt j k) (kx_ifgt j' k') := by
  intro l st w hl hs hW
  rcases st with _ | ⟨x | x | x, st⟩
  all_goals first
    | exact kZr_n
    | (exact kZr_i (fun _ => hj _ _ _ hl (kz_ot hs) hW) (fun _ => hk _ _ _ hl (kz_ot hs) hW))
theorem zz_ifle (hj : kZ T j j') (hk : kZ T k k') : kZ T (kx_ifle j k) (kx_ifle j' k') := by
  intro l st w hl hs hW
  rcases st with _ | ⟨x | x | x, st⟩
  all_goals first
    | exact kZr_n
    | (exact kZr_i (fun _ => hj _ _ _ hl (kz_ot hs) hW) (fun _ => hk _ _ _ hl (kz_ot hs) hW))
theorem zz_ifne (hj : kZ T j j') (hk : kZ T k k') : kZ T (kx_ifne j k) (kx_ifne j' k') := by
  intro l st w hl hs hW
  rcases st with _ | ⟨x | x | x, st⟩
  all_goals first
    | exact kZr_n
    | (exact kZr_i (fun _ => hk _ _ _ hl (kz_ot hs) hW) (fun _ => hj _ _ _ hl (kz_ot hs) hW))
theorem zz_ceq (hj : kZ T j j') (hk : kZ T k k') : kZ T (kx_ceq j k) (kx_ceq j' k') := by
  intro l st w hl hs hW
  rcases st with _ | ⟨x | x | x, _ | ⟨y | y | y, st⟩⟩
  all_goals first
    | exact kZr_n
    | (exact kZr_i (fun _ => hj _ _ _ hl (kz_ot (kz_ot hs)) hW) (fun _ => hk _ _ _ hl (kz_ot (kz_ot hs)) hW))
theorem zz_clt (hj : kZ T j j') (hk : kZ T k k') : kZ T (kx_clt j k) (kx_clt j' k') := by
  intro l st w hl hs hW
  rcases st with _ | ⟨x | x | x, _ | ⟨y | y | y, st⟩⟩
  all_goals first
    | exact kZr_n
    | (exact kZr_i (fun _ => hj _ _ _ hl (kz_ot (kz_ot hs)) hW) (fun _ => hk _ _ _ hl (kz_ot (kz_ot hs)) hW))
theorem zz_cge (hj : kZ T j j') (hk : kZ T k k') : kZ T (kx_cge j k) (kx_cge j' k') := by
  intro l st w hl hs hW
  rcases st with _ | ⟨x | x | x, _ | ⟨y | y | y, st⟩⟩
  all_goals first
    | exact kZr_n
    | (exact kZr_i (fun _ => hj _ _ _ hl (kz_ot (kz_ot hs)) hW) (fun _ => hk _ _ _ hl (kz_ot (kz_ot hs)) hW))
theorem zz_cgt (hj : kZ T j j') (hk : kZ T k k') : kZ T (kx_cgt j k) (kx_cgt j' k') := by
  intro l st w hl hs hW
  rcases st with _ | ⟨x | x | x, _ | ⟨y | y | y, st⟩⟩
  all_goals first
    | exact kZr_n
    | (exact kZr_i (fun _ => hj _ _ _ hl (kz_ot (kz_ot hs)) hW) (fun _ => hk _ _ _ hl (kz_ot (kz_ot hs)) hW))
theorem zz_cle (hj : kZ T j j') (hk : kZ T k k') : kZ T (kx_cle j k) (kx_cle j' k') := by
  intro l st w hl hs hW
  rcases st with _ | ⟨x | x | x, _ | ⟨y | y | y, st⟩⟩
  all_goals first
    | exact kZr_n
    | (exact kZr_i (fun _ => hj _ _ _ hl (kz_ot (kz_ot hs)) hW) (fun _ => hk _ _ _ hl (kz_ot (kz_ot hs)) hW))
theorem zz_cne (hj : kZ T j j') (hk : kZ T k k') : kZ T (kx_cne j k) (kx_cne j' k') := by
  intro l st w hl hs hW
  rcases st with _ | ⟨x | x | x, _ | ⟨y | y | y, st⟩⟩
  all_goals first
    | exact kZr_n
    | (exact kZr_i (fun _ => hk _ _ _ hl (kz_ot (kz_ot hs)) hW) (fun _ => hj _ _ _ hl (kz_ot (kz_ot hs)) hW))
theorem zz_aeq (hj : kZ T j j') (hk : kZ T k k') : kZ T (kx_aeq j k) (kx_aeq j' k') := by
  intro l st w hl hs hW
  rcases st with _ | ⟨x | x | x, _ | ⟨y | y | y, st⟩⟩
  all_goals first
    | exact kZr_n
    | (exact kZr_c (fun _ => kZr_i (fun _ => hj _ _ _ hl (kz_ot (kz_ot hs)) hW) (fun _ => hk _ _ _ hl (kz_ot (kz_ot hs)) hW)) (fun _ => kZr_n))
theorem zz_ane (hj : kZ T j j') (hk : kZ T k k') : kZ T (kx_ane j k) (kx_ane j' k') := by
  intro l st w hl hs hW
  rcases st with _ | ⟨x | x | x, _ | ⟨y | y | y, st⟩⟩
  all_goals first
    | exact kZr_n
    | (exact kZr_c (fun _ => kZr_i (fun _ => hk _ _ _ hl (kz_ot (kz_ot hs)) hW) (fun _ => hj _ _ _ hl (kz_ot (kz_ot hs)) hW)) (fun _ => kZr_n))
theorem zz_nul (hj : kZ T j j') (hk : kZ T k k') : kZ T (kx_nul j k) (kx_nul j' k') := by
  intro l st w hl hs hW
  rcases st with _ | ⟨x | x | x, st⟩
  all_goals first
    | exact kZr_n
    | (exact kZr_i (fun _ => hj _ _ _ hl (kz_ot hs) hW) (fun _ => hk _ _ _ hl (kz_ot hs) hW))
theorem zz_nnul (hj : kZ T j j') (hk : kZ T k k') : kZ T (kx_nnul j k) (kx_nnul j' k') := by
  intro l st w hl hs hW
  rcases st with _ | ⟨x | x | x, st⟩
  all_goals first
    | exact kZr_n
    | (exact kZr_i (fun _ => hk _ _ _ hl (kz_ot hs) hW) (fun _ => hj _ _ _ hl (kz_ot hs) hW))
/-- the cases of a switch, one by one -/
def kZs (T : Nat → Option Nat) : List (Int32 × kx_F) → List (Int32 × kx_F) → Prop
  | [], [] => True
  | q :: r, q' :: r' => q.1 = q'.1 ∧ kZ T q.2 q'.2 ∧ kZs T r r'
  | _, _ => False
theorem zz_swl {x : Int32} {cs cs' : List (Int32 × kx_F)} (hc : kZs T cs cs') (hk : kZ T k k') : kZ T (kx_swl x cs k) (kx_swl x cs' k') := by
  induction cs generalizing cs' with
  | nil => cases cs' with
    | nil => exact hk
    | cons q r => exact False.elim hc
  | cons q r ih => cases cs' with
    | nil => exact False.elim hc
    | cons q' r' =>
      obtain ⟨h1, h2, h3⟩ := hc
      intro l st w hl hs hW
      show kZr T (if x = q.1 then q.2 l st (kz_e w) else kx_swl x r k l st (kz_e w)) (if x = q'.1 then q'.2 l st w else kx_swl x r' k' l st w)
      rw [h1]
      exact kZr_i (fun _ => h2 _ _ _ hl hs hW) (fun _ => ih h3 _ _ _ hl hs hW)
theorem zz_sw {cs cs' : List (Int32 × kx_F)} (hc : kZs T cs cs') (hk : kZ T k k') : kZ T (kx_sw cs k) (kx_sw cs' k') := by
  intro l st w hl hs hW
  rcases st with _ | ⟨x | x | x, st⟩
  · exact kZr_n
  · exact zz_swl hc hk _ _ _ hl (kz_ot hs) hW
  · exact kZr_n
  · exact kZr_n
theorem zz_gI (ht : t < 98) (hk : kZ T k k') : kZ T (kx_gI t p k) (wx_gI t p k') := by
  intro l st w hl hs hW
  rcases st with _ | ⟨x | x | x, st⟩
  · exact kZr_n
  · exact kZr_n
  · exact kZr_n
  · refine kZr_c (fun hb => kZr_b fun a ha => ?_) (fun _ => kZr_n)
    have hT := kz_tag (kz_oh hs) hb ha
    rw [← hW.1] at hT
    have e : hp_I (kz_e w) a p = hp_I w (2 * (100 * t + p)) a := by
      show hp_I w (kz_k (hp_T w) a p) (kz_x (hp_T w) a p) = _
      rw [(kz_ko hT ht).1, (kz_ko hT ht).2]
    rw [e]
    exact hk _ _ _ hl (kz_oc trivial (kz_ot hs)) hW
theorem zz_pI (ht : t < 98) (hk : kZ T k k') : kZ T (kx_pI t p k) (wx_pI t p k') := by
  intro l st w hl hs hW
  rcases st with _ | ⟨y | y | y, _ | ⟨x | x | x, st⟩⟩
  all_goals first
    | exact kZr_n
    | (refine kZr_c (fun hb => kZr_b fun a ha => ?_) (fun _ => kZr_n)
       have hT := kz_tag (kz_oh (kz_ot hs)) hb ha
       rw [← hW.1] at hT
       have e : ∀ v, hp_sI (kz_e w) a p v = kz_e (hp_sI w (2 * (100 * t + p)) a v) := fun v => by
         rw [kz_sI, (kz_ko hT ht).1, (kz_ko hT ht).2]
       rw [e]; exact hk _ _ _ hl (kz_ot (kz_ot hs)) ⟨hW.1, hW.2⟩)
theorem zz_gL (ht : t < 98) (hk : kZ T k k') : kZ T (kx_gL t p k) (wx_gL t p k') := by
  intro l st w hl hs hW
  rcases st with _ | ⟨x | x | x, st⟩
  · exact kZr_n
  · exact kZr_n
  · exact kZr_n
  · refine kZr_c (fun hb => kZr_b fun a ha => ?_) (fun _ => kZr_n)
    have hT := kz_tag (kz_oh hs) hb ha
    rw [← hW.1] at hT
    have e : hp_L (kz_e w) a p = hp_L w (2 * (100 * t + p)) a := by
      show hp_L w (kz_k (hp_T w) a p) (kz_x (hp_T w) a p) = _
      rw [(kz_ko hT ht).1, (kz_ko hT ht).2]
    rw [e]
    exact hk _ _ _ hl (kz_oc trivial (kz_ot hs)) hW
theorem zz_pL (ht : t < 98) (hk : kZ T k k') : kZ T (kx_pL t p k) (wx_pL t p k') := by
  intro l st w hl hs hW
  rcases st with _ | ⟨y | y | y, _ | ⟨x | x | x, st⟩⟩
  all_goals first
    | exact kZr_n
    | (refine kZr_c (fun hb => kZr_b fun a ha => ?_) (fun _ => kZr_n)
       have hT := kz_tag (kz_oh (kz_ot hs)) hb ha
       rw [← hW.1] at hT
       have e : ∀ v, hp_sL (kz_e w) a p v = kz_e (hp_sL w (2 * (100 * t + p)) a v) := fun v => by
         rw [kz_sL, (kz_ko hT ht).1, (kz_ko hT ht).2]
       rw [e]; exact hk _ _ _ hl (kz_ot (kz_ot hs)) ⟨hW.1, hW.2⟩)
theorem zz_gB (ht : t < 98) (hk : kZ T k k') : kZ T (kx_gB t p k) (wx_gB t p k') := by
  intro l st w hl hs hW
  rcases st with _ | ⟨x | x | x, st⟩
  · exact kZr_n
  · exact kZr_n
  · exact kZr_n
  · refine kZr_c (fun hb => kZr_b fun a ha => ?_) (fun _ => kZr_n)
    have hT := kz_tag (kz_oh hs) hb ha
    rw [← hW.1] at hT
    have e : hp_B (kz_e w) a p = hp_B w (2 * (100 * t + p)) a := by
      show hp_B w (kz_k (hp_T w) a p) (kz_x (hp_T w) a p) = _
      rw [(kz_ko hT ht).1, (kz_ko hT ht).2]
    rw [e]
    exact hk _ _ _ hl (kz_oc trivial (kz_ot hs)) hW
theorem zz_pB (ht : t < 98) (hk : kZ T k k') : kZ T (kx_pB t p k) (wx_pB t p k') := by
  intro l st w hl hs hW
  rcases st with _ | ⟨y | y | y, _ | ⟨x | x | x, st⟩⟩
  all_goals first
    | exact kZr_n
    | (refine kZr_c (fun hb => kZr_b fun a ha => ?_) (fun _ => kZr_n)
       have hT := kz_tag (kz_oh (kz_ot hs)) hb ha
       rw [← hW.1] at hT
       have e : ∀ v, hp_sB (kz_e w) a p v = kz_e (hp_sB w (2 * (100 * t + p)) a v) := fun v => by
         rw [kz_sB, (kz_ko hT ht).1, (kz_ko hT ht).2]
       exact kZr_i (fun _ => by rw [e]; exact hk _ _ _ hl (kz_ot (kz_ot hs)) ⟨hW.1, hW.2⟩) (fun _ => kZr_i (fun _ => by rw [e]; exact hk _ _ _ hl (kz_ot (kz_ot hs)) ⟨hW.1, hW.2⟩) (fun _ => kZr_n)))
theorem zz_gR (ht : t < 98) (hf : kx_ft t p = (2, c)) (hk : kZ T k k') : kZ T (kx_gR t p c k) (wx_gR t p c k') := by
  intro l st w hl hs hW
  rcases st with _ | ⟨x | x | x, st⟩
  · exact kZr_n
  · exact kZr_n
  · exact kZr_n
  · refine kZr_c (fun hb => kZr_b fun a ha => ?_) (fun _ => kZr_n)
    have hT0 := kz_tag (kz_oh hs) hb ha
    have hT := hT0
    rw [← hW.1] at hT
    have e : hp_R (kz_e w) a p = hp_R w (2 * (100 * t + p)) a := by
      show hp_R w (kz_k (hp_T w) a p) (kz_x (hp_T w) a p) = _
      rw [(kz_ko hT ht).1, (kz_ko hT ht).2]
    rw [e]
    refine hk _ _ _ hl (kz_oc (fun b hb9 => ?_) (kz_ot hs)) hW
    have z := hW.2.1 a t p b hT0 ht (by rw [hf]) hb9
    rw [hf] at z
    exact z
theorem zz_pR (ht : t < 98) (hf : kx_ft t p = (2, c)) (hk : kZ T k k') : kZ T (kx_pR t p c k) (wx_pR t p c k') := by
  intro l st w hl hs hW
  rcases st with _ | ⟨y | y | y, _ | ⟨x | x | x, st⟩⟩
  all_goals first
    | exact kZr_n
    | (refine kZr_c (fun hb => kZr_b fun a ha => ?_) (fun _ => kZr_n)
       obtain ⟨hb1, hb2⟩ := kx_and hb
       have hT0 := kz_tag (kz_oh (kz_ot hs)) hb1 ha
       have hT := hT0
       rw [← hW.1] at hT
       have e : ∀ v, hp_sR (kz_e w) a p v = kz_e (hp_sR w (2 * (100 * t + p)) a v) := fun v => by
         rw [kz_sR, (kz_ko hT ht).1, (kz_ko hT ht).2]
       rw [e]
       refine hk _ _ _ hl (kz_ot (kz_ot hs)) ⟨hW.1, fun a1 t1 k1 b1 g1 g2 g3 g4 => ?_, fun a1 t1 k1 b1 g1 g2 g3 g4 => ?_⟩
       · have g5 : (if 2 * (100 * t1 + k1) = 2 * (100 * t + p) ∧ a1 = a then y.2 else hp_R w (2 * (100 * t1 + k1)) a1) = some b1 := g4
         split at g5
         · rename_i hq
           obtain ⟨q1, rfl⟩ := hq
           rw [hT0] at g1
           cases g1
           have : k1 = p := by omega
           subst this
           rw [hf]
           exact kz_tag (kz_oh hs) hb2 g5
         · exact hW.2.1 a1 t1 k1 b1 g1 g2 g3 g5
       · have g5 : (if 2 * a1 + 1 = 2 * (100 * t + p) ∧ k1 = a then y.2 else hp_R w (2 * a1 + 1) k1) = some b1 := g4
         rw [if_neg (by omega)] at g5
         exact hW.2.2 a1 t1 k1 b1 g1 g2 g3 g5)
theorem zz_len (hk : kZ T k k') : kZ T (kx_len t k) (kx_len t k') := by
  intro l st w hl hs hW
  rcases st with _ | ⟨x | x | x, st⟩
  · exact kZr_n
  · exact kZr_n
  · exact kZr_n
  · exact kZr_c (fun hb => kZr_b fun a ha => hk _ _ _ hl (kz_oc trivial (kz_ot hs)) hW) (fun _ => kZr_n)
theorem zz_aI (ht : 98 ≤ t) (hk : kZ T k k') : kZ T (kx_aI t k) (wx_aI t k') := by
  intro l st w hl hs hW
  rcases st with _ | ⟨y | y | y, _ | ⟨x | x | x, st⟩⟩
  all_goals first
    | exact kZr_n
    | (refine kZr_c (fun hb => kZr_b fun a ha => ?_) (fun _ => kZr_n)
       have hT := kz_tag (kz_oh (kz_ot hs)) hb ha
       rw [← hW.1] at hT
       have e : hp_I (kz_e w) a y.toNatClampNeg = hp_I w (2 * a + 1) y.toNatClampNeg := by
         show hp_I w (kz_k (hp_T w) a _) (kz_x (hp_T w) a _) = _
         rw [(kz_ka hT ht).1, (kz_ka hT ht).2]
       rw [e]
       exact kZr_i (fun _ => kZr_n) (fun _ => hk _ _ _ hl (kz_oc trivial (kz_ot (kz_ot hs))) hW))
theorem zz_asI (ht : 98 ≤ t) (hk : kZ T k k') : kZ T (kx_asI t k) (wx_asI t k') := by
  intro l st w hl hs hW
  rcases st with _ | ⟨z | z | z, _ | ⟨y | y | y, _ | ⟨x | x | x, st⟩⟩⟩
  all_goals first
    | exact kZr_n
    | (refine kZr_c (fun hb => kZr_b fun a ha => ?_) (fun _ => kZr_n)
       have hT := kz_tag (kz_oh (kz_ot (kz_ot hs))) hb ha
       rw [← hW.1] at hT
       have e : ∀ v, hp_sI (kz_e w) a y.toNatClampNeg v = kz_e (hp_sI w (2 * a + 1) y.toNatClampNeg v) := fun v => by
         rw [kz_sI, (kz_ka hT ht).1, (kz_ka hT ht).2]
       refine kZr_i (fun _ => kZr_n) (fun _ => ?_)
       rw [e]; exact hk _ _ _ hl (kz_ot (kz_ot (kz_ot hs))) ⟨hW.1, hW.2⟩)
theorem zz_aL (ht : 98 ≤ t) (hk : kZ T k k') : kZ T (kx_aL t k) (wx_aL t k') := by
  intro l st w hl hs hW
  rcases st with _ | ⟨y | y | y, _ | ⟨x | x | x, st⟩⟩
  all_goals first
    | exact kZr_n
    | (refine kZr_c (fun hb => kZr_b fun a ha => ?_) (fun _ => kZr_n)
       have hT := kz_tag (kz_oh (kz_ot hs)) hb ha
       rw [← hW.1] at hT
       have e : hp_L (kz_e w) a y.toNatClampNeg = hp_L w (2 * a + 1) y.toNatClampNeg := by
         show hp_L w (kz_k (hp_T w) a _) (kz_x (hp_T w) a _) = _
         rw [(kz_ka hT ht).1, (kz_ka hT ht).2]
       rw [e]
       exact kZr_i (fun _ => kZr_n) (fun _ => hk _ _ _ hl (kz_oc trivial (kz_ot (kz_ot hs))) hW))
theorem zz_asL (ht : 98 ≤ t) (hk : kZ T k k') : kZ T (kx_asL t k) (wx_asL t k') := by
  intro l st w hl hs hW
  rcases st with _ | ⟨z | z | z, _ | ⟨y | y | y, _ | ⟨x | x | x, st⟩⟩⟩
  all_goals first
    | exact kZr_n
    | (refine kZr_c (fun hb => kZr_b fun a ha => ?_) (fun _ => kZr_n)
       have hT := kz_tag (kz_oh (kz_ot (kz_ot hs))) hb ha
       rw [← hW.1] at hT
       have e : ∀ v, hp_sL (kz_e w) a y.toNatClampNeg v = kz_e (hp_sL w (2 * a + 1) y.toNatClampNeg v) := fun v => by
         rw [kz_sL, (kz_ka hT ht).1, (kz_ka hT ht).2]
       refine kZr_i (fun _ => kZr_n) (fun _ => ?_)
       rw [e]; exact hk _ _ _ hl (kz_ot (kz_ot (kz_ot hs))) ⟨hW.1, hW.2⟩)
theorem zz_aB (ht : 98 ≤ t) (hk : kZ T k k') : kZ T (kx_aB t k) (wx_aB t k') := by
  intro l st w hl hs hW
  rcases st with _ | ⟨y | y | y, _ | ⟨x | x | x, st⟩⟩
  all_goals first
    | exact kZr_n
    | (refine kZr_c (fun hb => kZr_b fun a ha => ?_) (fun _ => kZr_n)
       have hT := kz_tag (kz_oh (kz_ot hs)) hb ha
       rw [← hW.1] at hT
       have e : hp_B (kz_e w) a y.toNatClampNeg = hp_B w (2 * a + 1) y.toNatClampNeg := by
         show hp_B w (kz_k (hp_T w) a _) (kz_x (hp_T w) a _) = _
         rw [(kz_ka hT ht).1, (kz_ka hT ht).2]
       rw [e]
       exact kZr_i (fun _ => kZr_n) (fun _ => hk _ _ _ hl (kz_oc trivial (kz_ot (kz_ot hs))) hW))
theorem zz_asB (ht : 98 ≤ t) (hk : kZ T k k') : kZ T (kx_asB t k) (wx_asB t k') := by
  intro l st w hl hs hW
  rcases st with _ | ⟨z | z | z, _ | ⟨y | y | y, _ | ⟨x | x | x, st⟩⟩⟩
  all_goals first
    | exact kZr_n
    | (refine kZr_c (fun hb => kZr_b fun a ha => ?_) (fun _ => kZr_n)
       have hT := kz_tag (kz_oh (kz_ot (kz_ot hs))) hb ha
       rw [← hW.1] at hT
       have e : ∀ v, hp_sB (kz_e w) a y.toNatClampNeg v = kz_e (hp_sB w (2 * a + 1) y.toNatClampNeg v) := fun v => by
         rw [kz_sB, (kz_ka hT ht).1, (kz_ka hT ht).2]
       refine kZr_i (fun _ => kZr_n) (fun _ => ?_)
       exact kZr_i (fun _ => by rw [e]; exact hk _ _ _ hl (kz_ot (kz_ot (kz_ot hs))) ⟨hW.1, hW.2⟩) (fun _ => kZr_i (fun _ => by rw [e]; exact hk _ _ _ hl (kz_ot (kz_ot (kz_ot hs))) ⟨hW.1, hW.2⟩) (fun _ => kZr_n)))
theorem zz_aR (ht : 98 < t) (hf : kx_ak t = (2, c)) (hk : kZ T k k') : kZ T (kx_aR t c k) (wx_aR t c k') := by
  intro l st w hl hs hW
  rcases st with _ | ⟨y | y | y, _ | ⟨x | x | x, st⟩⟩
  all_goals first
    | exact kZr_n
    | (refine kZr_c (fun hb => kZr_b fun a ha => ?_) (fun _ => kZr_n)
       have hT0 := kz_tag (kz_oh (kz_ot hs)) hb ha
       have hT := hT0
       rw [← hW.1] at hT
       have e : hp_R (kz_e w) a y.toNatClampNeg = hp_R w (2 * a + 1) y.toNatClampNeg := by
         show hp_R w (kz_k (hp_T w) a _) (kz_x (hp_T w) a _) = _
         rw [(kz_ka hT (Nat.le_of_lt ht)).1, (kz_ka hT (Nat.le_of_lt ht)).2]
       rw [e]
       refine kZr_i (fun _ => kZr_n) (fun _ => hk _ _ _ hl (kz_oc (fun b hb9 => ?_) (kz_ot (kz_ot hs))) hW)
       have z := hW.2.2 a t _ b hT0 ht (by rw [hf]) hb9
       rw [hf] at z
       exact z)
theorem zz_asR (ht : 98 < t) (hf : kx_ak t = (2, c)) (hk : kZ T k k') : kZ T (kx_asR t c k) (wx_asR t c k') := by
  intro l st w hl hs hW
  rcases st with _ | ⟨z | z | z, _ | ⟨y | y | y, _ | ⟨x | x | x, st⟩⟩⟩
  all_goals first
    | exact kZr_n
    | (refine kZr_c (fun hb => kZr_b fun a ha => ?_) (fun _ => kZr_n)
       obtain ⟨hb1, hb2⟩ := kx_and hb
       have hT0 := kz_tag (kz_oh (kz_ot (kz_ot hs))) hb1 ha
       have hT := hT0
       rw [← hW.1] at hT
       have e : ∀ v, hp_sR (kz_e w) a y.toNatClampNeg v = kz_e (hp_sR w (2 * a + 1) y.toNatClampNeg v) := fun v => by
         rw [kz_sR, (kz_ka hT (Nat.le_of_lt ht)).1, (kz_ka hT (Nat.le_of_lt ht)).2]
       refine kZr_i (fun _ => kZr_n) (fun _ => ?_)
       rw [e]
       refine hk _ _ _ hl (kz_ot (kz_ot (kz_ot hs))) ⟨hW.1, fun a1 t1 k1 b1 g1 g2 g3 g4 => ?_, fun a1 t1 k1 b1 g1 g2 g3 g4 => ?_⟩
       · have g5 : (if 2 * (100 * t1 + k1) = 2 * a + 1 ∧ a1 = y.toNatClampNeg then z.2 else hp_R w (2 * (100 * t1 + k1)) a1) = some b1 := g4
         rw [if_neg (by omega)] at g5
         exact hW.2.1 a1 t1 k1 b1 g1 g2 g3 g5
       · have g5 : (if 2 * a1 + 1 = 2 * a + 1 ∧ k1 = y.toNatClampNeg then z.2 else hp_R w (2 * a1 + 1) k1) = some b1 := g4
         split at g5
         · rename_i hq
           have : a1 = a := by omega
           subst this
           rw [hT0] at g1
           cases g1
           rw [hf]
           exact kz_tag (kz_oh hs) hb2 g5
         · exact hW.2.2 a1 t1 k1 b1 g1 g2 g3 g5)
theorem zz_rv : kZ T kx_rv kx_rv := by
  intro l st w hl hs hW
  rcases st with _ | ⟨x, st⟩
  · intro r w' h
    cases h
    exact ⟨rfl, hW, fun v hv => by cases hv⟩
  · exact kZr_n
theorem zz_ri : kZ T kx_ri kx_ri := by
  intro l st w hl hs hW
  rcases st with _ | ⟨x | x | x, _ | ⟨y, st⟩⟩
  all_goals first
    | exact kZr_n
    | (intro r w' h
       cases h
       exact ⟨rfl, hW, fun v hv => by cases hv; trivial⟩)
theorem zz_rl : kZ T kx_rl kx_rl := by
  intro l st w hl hs hW
  rcases st with _ | ⟨x | x | x, _ | ⟨y, st⟩⟩
  all_goals first
    | exact kZr_n
    | (intro r w' h
       cases h
       exact ⟨rfl, hW, fun v hv => by cases hv; trivial⟩)
theorem zz_rr : kZ T kx_rr kx_rr := by
  intro l st w hl hs hW
  rcases st with _ | ⟨x | x | x, _ | ⟨y, st⟩⟩
  all_goals first
    | exact kZr_n
    | (intro r w' h
       cases h
       exact ⟨rfl, hW, fun v hv => by cases hv; exact kz_oh hs⟩)
theorem zz_rz : kZ T kx_rz kx_rz := by
  intro l st w hl hs hW
  rcases st with _ | ⟨x | x | x, _ | ⟨y, st⟩⟩
  all_goals first
    | exact kZr_n
    | (refine kZr_i (fun _ => ?_) (fun _ => kZr_n)
       intro r w' h
       cases h
       exact ⟨rfl, hW, fun v hv => by cases hv; trivial⟩)
theorem zz_thd {a b d e : Nat} : kZ T (kx_thd a b d e) (kx_thd a b d e) := by
  unfold kx_thd
  cases Nat.ble 4 d with
  | false => exact zz_no
  | true =>
    intro l st w hl hs hW
    rcases st with _ | ⟨x, st⟩
    · refine kZr_i (F1 := some (.inr e, hp_bump (kz_e w) 1 6)) (fun _ => ?_) (fun _ => kZr_n)
      intro r w' h
      cases h
      exact ⟨rfl, ⟨hW.1, hW.2⟩, fun v hv => by cases hv⟩
    · exact kZr_n
theorem kZr_bv {o o' : kx_O} {f g : kx_H → kx_O} (h : kZr T o o') (hk : ∀ w, kz_W T w → kZr T (f (kz_e w)) (g w)) : kZr T (kx_bv o f) (kx_bv o' g) := by
  cases ho : o' with
  | none => exact kZr_n
  | some q =>
    obtain ⟨r, w'⟩ := q
    obtain ⟨h1, h2, h3⟩ := h r w' ho
    rw [h1]
    rcases r with (_ | v) | e
    · exact hk w' h2
    · exact kZr_n
    · intro r2 w2 hz
      cases hz
      exact ⟨rfl, h2, fun v hv => by cases hv⟩
theorem kZr_bi {o o' : kx_O} {f g : Int32 → kx_H → kx_O} (h : kZr T o o') (hk : ∀ x w, kz_W T w → kZr T (f x (kz_e w)) (g x w)) : kZr T (kx_bi o f) (kx_bi o' g) := by
  cases ho : o' with
  | none => exact kZr_n
  | some q =>
    obtain ⟨r, w'⟩ := q
    obtain ⟨h1, h2, h3⟩ := h r w' ho
    rw [h1]
    rcases r with (_ | x | x | x) | e
    · exact kZr_n
    · exact hk x w' h2
    · exact kZr_n
    · exact kZr_n
    · intro r2 w2 hz
      cases hz
      exact ⟨rfl, h2, fun v hv => by cases hv⟩
theorem kZr_bl {o o' : kx_O} {f g : Int64 → kx_H → kx_O} (h : kZr T o o') (hk : ∀ x w, kz_W T w → kZr T (f x (kz_e w)) (g x w)) : kZr T (kx_bl o f) (kx_bl o' g) := by
  cases ho : o' with
  | none => exact kZr_n
  | some q =>
    obtain ⟨r, w'⟩ := q
    obtain ⟨h1, h2, h3⟩ := h r w' ho
    rw [h1]
    rcases r with (_ | x | x | x) | e
    · exact kZr_n
    · exact kZr_n
    · exact hk x w' h2
    · exact kZr_n
    · intro r2 w2 hz
      cases hz
      exact ⟨rfl, h2, fun v hv => by cases hv⟩
theorem kZr_br {o o' : kx_O} {f g : Option Nat → kx_H → kx_O} (h : kZr T o o') (hk : ∀ x w, kz_ok T (kx_r c x) → kz_W T w → kZr T (f x (kz_e w)) (g x w)) : kZr T (kx_br c o f) (kx_br c o' g) := by
  cases ho : o' with
  | none => exact kZr_n
  | some q =>
    obtain ⟨r, w'⟩ := q
    obtain ⟨h1, h2, h3⟩ := h r w' ho
    rw [h1]
    rcases r with (_ | x | x | x) | e
    · exact kZr_n
    · exact kZr_n
    · exact kZr_n
    · refine kZr_c (fun hb => ?_) (fun _ => kZr_n)
      refine hk x.2 w' ?_ h2
      have z := h3 _ rfl
      have e9 : x.1 = c := Nat.eq_of_beq_eq_true hb
      rw [← e9]
      exact z
    · intro r2 w2 hz
      cases hz
      exact ⟨rfl, h2, fun v hv => by cases hv⟩
theorem kZr_bvc {HS : List kx_HE} {o o' : kx_O} {f g : kx_H → kx_O} (h : kZr T o o') (hk : ∀ w, kz_W T w → kZr T (f (kz_e w)) (g w)) : kZr T (kx_bvc HS o f) (kx_bvc HS o' g) := by
  cases ho : o' with
  | none => exact kZr_n
  | some q =>
    obtain ⟨r, w'⟩ := q
    obtain ⟨h1, h2, h3⟩ := h r w' ho
    rw [h1]
    rcases r with (_ | v) | e
    · exact hk w' h2
    · exact kZr_n
    · intro r2 w2 hz
      revert hz
      simp only [kx_bvc, Option.bind_some]
      cases kx_lk HS e with
      | none => intro hz; cases hz
      | some x => intro hz; cases hz; exact ⟨rfl, h2, fun v hv => by cases hv; trivial⟩
theorem kZr_bic {HS : List kx_HE} {o o' : kx_O} {f g : Int32 → kx_H → kx_O} (h : kZr T o o') (hk : ∀ x w, kz_W T w → kZr T (f x (kz_e w)) (g x w)) : kZr T (kx_bic HS o f) (kx_bic HS o' g) := by
  cases ho : o' with
  | none => exact kZr_n
  | some q =>
    obtain ⟨r, w'⟩ := q
    obtain ⟨h1, h2, h3⟩ := h r w' ho
    rw [h1]
    rcases r with (_ | x | x | x) | e
    · exact kZr_n
    · exact hk x w' h2
    · exact kZr_n
    · exact kZr_n
    · intro r2 w2 hz
      revert hz
      simp only [kx_bic, Option.bind_some]
      cases kx_lk HS e with
      | none => intro hz; cases hz
      | some x => intro hz; cases hz; exact ⟨rfl, h2, fun v hv => by cases hv; trivial⟩
theorem kZr_blc {HS : List kx_HE} {o o' : kx_O} {f g : Int64 → kx_H → kx_O} (h : kZr T o o') (hk : ∀ x w, kz_W T w → kZr T (f x (kz_e w)) (g x w)) : kZr T (kx_blc HS o f) (kx_blc HS o' g) := by
  cases ho : o' with
  | none => exact kZr_n
  | some q =>
    obtain ⟨r, w'⟩ := q
    obtain ⟨h1, h2, h3⟩ := h r w' ho
    rw [h1]
    rcases r with (_ | x | x | x) | e
    · exact kZr_n
    · exact kZr_n
    · exact hk x w' h2
    · exact kZr_n
    · intro r2 w2 hz
      revert hz
      simp only [kx_blc, Option.bind_some]
      cases kx_lk HS e with
      | none => intro hz; cases hz
      | some x => intro hz; cases hz; exact ⟨rfl, h2, fun v hv => by cases hv; trivial⟩
theorem kz_take {st : List kx_V} (n : Nat) (hs : ∀ v ∈ st, kz_ok T v) : ∀ v ∈ (st.take n).reverse, kz_ok T v := fun v hv => hs v (List.mem_of_mem_take (List.mem_reverse.mp hv))
theorem kz_drop {st : List kx_V} (n : Nat) (hs : ∀ v ∈ st, kz_ok T v) : ∀ v ∈ st.drop n, kz_ok T v := fun v hv => hs v (List.mem_of_mem_drop hv)
theorem kZr_as {ps : List Nat} {st : List kx_V} {f g : List kx_V → List kx_V → kx_O} (hs : ∀ v ∈ st, kz_ok T v) (h : ∀ as r, (∀ v ∈ as, kz_ok T v) → (∀ v ∈ r, kz_ok T v) → kZr T (f as r) (g as r)) : kZr T (kx_as ps st f) (kx_as ps st g) := kZr_c (fun _ => h _ _ (kz_take _ hs) (kz_drop _ hs)) (fun _ => kZr_n)
theorem kZr_ao {ps : List Nat} {st : List kx_V} {f g : List kx_V → List kx_V → kx_O} (hs : ∀ v ∈ st, kz_ok T v) (h : ∀ as r, (∀ v ∈ as, kz_ok T v) → (∀ v ∈ r, kz_ok T v) → kZr T (f as r) (g as r)) : kZr T (kx_ao t ps st f) (kx_ao t ps st g) := by
  unfold kx_ao
  refine kZr_c (fun _ => ?_) (fun _ => kZr_n)
  have hd := kz_drop ps.length hs
  cases hq : st.drop ps.length with
  | nil => exact kZr_n
  | cons v r =>
    rw [hq] at hd
    rcases v with x | x | x
    · exact kZr_n
    · exact kZr_n
    · refine kZr_c (fun hb => kZr_b fun a ha => ?_) (fun _ => kZr_n)
      refine h _ _ (kz_oc (fun b hb9 => ?_) (kz_take _ hs)) (kz_ot hd)
      cases hb9
      exact kz_tag (kz_oh hd) (kx_and hb).1 ha
theorem zz_Sv {n : Nat} {ps : List Nat} (hC : kZC T C C') (hk : kZ T k k') : kZ T (kx_Sv C n ps k) (kx_Sv C' n ps k') := fun l st w hl hs hW => kZr_as hs fun as r ha hr => kZr_bv (hC n as w ha hW) (fun w9 hW9 => hk _ _ _ hl hr hW9)
theorem zz_Vv {n : Nat} {ps : List Nat} (hC : kZC T C C') (hk : kZ T k k') : kZ T (kx_Vv C n t ps k) (kx_Vv C' n t ps k') := fun l st w hl hs hW => kZr_ao hs fun as r ha hr => kZr_bv (hC n as w ha hW) (fun w9 hW9 => hk _ _ _ hl hr hW9)
theorem zz_Vvc {n : Nat} {ps : List Nat} {HS : List kx_HE} (hC : kZC T C C') (hk : kZ T k k') : kZ T (kx_Vvc C n t ps HS k) (kx_Vvc C' n t ps HS k') := fun l st w hl hs hW => kZr_ao hs fun as r ha hr => kZr_bvc (hC n as w ha hW) (fun w9 hW9 => hk _ _ _ hl hr hW9)
theorem zz_Si {n : Nat} {ps : List Nat} (hC : kZC T C C') (hk : kZ T k k') : kZ T (kx_Si C n ps k) (kx_Si C' n ps k') := fun l st w hl hs hW => kZr_as hs fun as r ha hr => kZr_bi (hC n as w ha hW) (fun x w9 hW9 => hk _ _ _ hl (kz_oc trivial hr) hW9)
theorem zz_Vi {n : Nat} {ps : List Nat} (hC : kZC T C C') (hk : kZ T k k') : kZ T (kx_Vi C n t ps k) (kx_Vi C' n t ps k') := fun l st w hl hs hW => kZr_ao hs fun as r ha hr => kZr_bi (hC n as w ha hW) (fun x w9 hW9 => hk _ _ _ hl (kz_oc trivial hr) hW9)
theorem zz_Vic {n : Nat} {ps : List Nat} {HS : List kx_HE} (hC : kZC T C C') (hk : kZ T k k') : kZ T (kx_Vic C n t ps HS k) (kx_Vic C' n t ps HS k') := fun l st w hl hs hW => kZr_ao hs fun as r ha hr => kZr_bic (hC n as w ha hW) (fun x w9 hW9 => hk _ _ _ hl (kz_oc trivial hr) hW9)
theorem zz_Sl {n : Nat} {ps : List Nat} (hC : kZC T C C') (hk : kZ T k k') : kZ T (kx_Sl C n ps k) (kx_Sl C' n ps k') := fun l st w hl hs hW => kZr_as hs fun as r ha hr => kZr_bl (hC n as w ha hW) (fun x w9 hW9 => hk _ _ _ hl (kz_oc trivial hr) hW9)
theorem zz_Vl {n : Nat} {ps : List Nat} (hC : kZC T C C') (hk : kZ T k k') : kZ T (kx_Vl C n t ps k) (kx_Vl C' n t ps k') := fun l st w hl hs hW => kZr_ao hs fun as r ha hr => kZr_bl (hC n as w ha hW) (fun x w9 hW9 => hk _ _ _ hl (kz_oc trivial hr) hW9)
theorem zz_Vlc {n : Nat} {ps : List Nat} {HS : List kx_HE} (hC : kZC T C C') (hk : kZ T k k') : kZ T (kx_Vlc C n t ps HS k) (kx_Vlc C' n t ps HS k') := fun l st w hl hs hW => kZr_ao hs fun as r ha hr => kZr_blc (hC n as w ha hW) (fun x w9 hW9 => hk _ _ _ hl (kz_oc trivial hr) hW9)
theorem zz_Sr {n : Nat} {ps : List Nat} (hC : kZC T C C') (hk : kZ T k k') : kZ T (kx_Sr C n ps c k) (kx_Sr C' n ps c k') := fun l st w hl hs hW => kZr_as hs fun as r ha hr => kZr_br (hC n as w ha hW) (fun x w9 hx hW9 => hk _ _ _ hl (kz_oc hx hr) hW9)
theorem zz_Vr {n : Nat} {ps : List Nat} (hC : kZC T C C') (hk : kZ T k k') : kZ T (kx_Vr C n t ps c k) (kx_Vr C' n t ps c k') := fun l st w hl hs hW => kZr_ao hs fun as r ha hr => kZr_br (hC n as w ha hW) (fun x w9 hx hW9 => hk _ _ _ hl (kz_oc hx hr) hW9)
theorem zz_loop {B B' : Nat → (Nat → kx_F) → kx_F} (hB : ∀ J J', (∀ b, kZ T (J b) (J' b)) → ∀ b, kZ T (B b J) (B' b J')) : ∀ n b, kZ T (kx_ex B n b) (kx_ex B' n b) := by
  intro n
  induction n with
  | zero => intro b; exact zz_no
  | succ n ih => intro b; exact hB _ _ ih b
theorem kz_in {vs : List kx_V} (hv : ∀ v ∈ vs, kz_ok T v) : ∀ i, ∀ q ∈ kx_in i vs, kz_ok T q.2 := by
  induction vs with
  | nil => intro i q hq; cases hq
  | cons v vs ih =>
    intro i q hq
    unfold kx_in at hq
    rcases List.mem_cons.mp hq with rfl | hq
    · exact hv v List.mem_cons_self
    · exact ih (fun w hw => hv w (List.mem_cons_of_mem _ hw)) _ q hq
end KZ
