/-! A heap of typed cells by numbers, and what one instruction does to it, as a function. -/
abbrev kx_V : Type := Int32 ⊕ (Int64 ⊕ (Nat × Option Nat))
abbrev kx_R : Type := Option kx_V ⊕ Nat
/-- tag of a cell; its ints, longs, references, booleans by place; its length; the next number; cells and slots made -/
abbrev kx_H : Type := (Nat → Option Nat) × (Nat → Nat → Int32) × (Nat → Nat → Int64) × (Nat → Nat → Option Nat) × (Nat → Nat → Bool) × (Nat → Nat) × Nat × Nat × Nat
abbrev kx_O : Type := Option (kx_R × kx_H)
abbrev kx_L : Type := List (Nat × kx_V)
abbrev kx_F : Type := kx_L → List kx_V → kx_H → kx_O
abbrev kx_C : Type := Nat → List kx_V → kx_H → kx_O
abbrev kx_i (x : Int32) : kx_V := .inl x
abbrev kx_l (x : Int64) : kx_V := .inr (.inl x)
abbrev kx_r (t : Nat) (o : Option Nat) : kx_V := .inr (.inr (t, o))
def hp_T (h : kx_H) : Nat → Option Nat := h.1
def hp_I (h : kx_H) : Nat → Nat → Int32 := h.2.1
def hp_L (h : kx_H) : Nat → Nat → Int64 := h.2.2.1
def hp_R (h : kx_H) : Nat → Nat → Option Nat := h.2.2.2.1
def hp_B (h : kx_H) : Nat → Nat → Bool := h.2.2.2.2.1
def hp_N (h : kx_H) : Nat → Nat := h.2.2.2.2.2.1
def hp_X (h : kx_H) : Nat := h.2.2.2.2.2.2.1
def hp_C (h : kx_H) : Nat := h.2.2.2.2.2.2.2.1
def hp_U (h : kx_H) : Nat := h.2.2.2.2.2.2.2.2
def hp_sI (h : kx_H) (a k : Nat) (v : Int32) : kx_H := (h.1, fun b j => if b = a ∧ j = k then v else h.2.1 b j, h.2.2)
def hp_sL (h : kx_H) (a k : Nat) (v : Int64) : kx_H := (h.1, h.2.1, fun b j => if b = a ∧ j = k then v else h.2.2.1 b j, h.2.2.2)
def hp_sR (h : kx_H) (a k : Nat) (v : Option Nat) : kx_H := (h.1, h.2.1, h.2.2.1, fun b j => if b = a ∧ j = k then v else h.2.2.2.1 b j, h.2.2.2.2)
def hp_sB (h : kx_H) (a k : Nat) (v : Bool) : kx_H := (h.1, h.2.1, h.2.2.1, h.2.2.2.1, fun b j => if b = a ∧ j = k then v else h.2.2.2.2.1 b j, h.2.2.2.2.2)
def hp_new (h : kx_H) (t n w : Nat) : kx_H :=
  (fun b => if b = hp_X h then some t else hp_T h b, fun b j => if b = hp_X h then 0 else hp_I h b j, fun b j => if b = hp_X h then 0 else hp_L h b j, fun b j => if b = hp_X h then none else hp_R h b j, fun b j => if b = hp_X h then false else hp_B h b j,
   fun b => if b = hp_X h then n else hp_N h b, hp_X h + 1, hp_C h + 1, hp_U h + w)
def hp_bump (h : kx_H) (k n : Nat) : kx_H := (hp_T h, hp_I h, hp_L h, hp_R h, hp_B h, hp_N h, hp_X h, hp_C h + k, hp_U h + n)
def kx_b (b : Bool) : Int32 := bif b then 1 else 0
def kx_two (v : kx_V) : Bool := match v with
  | .inr (.inl _) => true
  | _ => false
def kx_get (l : kx_L) (i : Nat) : Option kx_V := match l with
  | [] => none
  | q :: r => bif Nat.beq q.1 i then some q.2 else kx_get r i
def kx_put1 (l : kx_L) (i : Nat) (v : kx_V) : kx_L := (i, v) :: l.filter (fun q => !(q.1 == i) && !(q.1 + 1 == i && kx_two q.2))
def kx_put2 (l : kx_L) (i : Nat) (v : kx_V) : kx_L := (i, v) :: l.filter (fun q => !(q.1 == i) && (!(q.1 == i + 1) && !(q.1 + 1 == i && kx_two q.2)))
def kx_pick (l : kx_L) (is : List Nat) : Option kx_L := match is with
  | [] => some []
  | i :: r => (kx_get l i).bind fun v => (kx_pick l r).bind fun t => some ((i, v) :: t)
/-- the live locals, in their order -/
def kx_nm (is : List Nat) (k : kx_F) : kx_F := fun l st h => (kx_pick l is).bind fun l' => k l' st h
def kx_c (v : kx_V) (k : kx_F) : kx_F := fun l st h => k l (v :: st) h
def kx_li (i : Nat) (k : kx_F) : kx_F := fun l st h => match kx_get l i with
  | some (.inl x) => k l (.inl x :: st) h
  | _ => none
def kx_ll (i : Nat) (k : kx_F) : kx_F := fun l st h => match kx_get l i with
  | some (.inr (.inl x)) => k l (.inr (.inl x) :: st) h
  | _ => none
def kx_la (i : Nat) (k : kx_F) : kx_F := fun l st h => match kx_get l i with
  | some (.inr (.inr x)) => k l (.inr (.inr x) :: st) h
  | _ => none
def kx_si (i : Nat) (k : kx_F) : kx_F := fun l st h => match st with
  | .inl x :: r => k (kx_put1 l i (.inl x)) r h
  | _ => none
def kx_sl (i : Nat) (k : kx_F) : kx_F := fun l st h => match st with
  | .inr (.inl x) :: r => k (kx_put2 l i (.inr (.inl x))) r h
  | _ => none
def kx_sa (i : Nat) (k : kx_F) : kx_F := fun l st h => match st with
  | .inr (.inr x) :: r => k (kx_put1 l i (.inr (.inr x))) r h
  | _ => none
def kx_inc (i : Nat) (n : Int32) (k : kx_F) : kx_F := fun l st h => match kx_get l i with
  | some (.inl x) => k (kx_put1 l i (.inl (x + n))) st h
  | _ => none
/-- two ints, an int -/
def kx_ii (f : Int32 → Int32 → Int32) (k : kx_F) : kx_F := fun l st h => match st with
  | .inl y :: .inl x :: r => k l (.inl (f x y) :: r) h
  | _ => none
def kx_irem (k : kx_F) : kx_F := fun l st h => match st with
  | .inl y :: .inl x :: r => if y = 0 then none else k l (.inl (x - x / y * y) :: r) h
  | _ => none
def kx_idiv (k : kx_F) : kx_F := fun l st h => match st with
  | .inl y :: .inl x :: r => if y = 0 then none else k l (.inl (x / y) :: r) h
  | _ => none
def kx_ineg (k : kx_F) : kx_F := fun l st h => match st with
  | .inl x :: r => k l (.inl (-x) :: r) h
  | _ => none
/-- two longs, a long -/
def kx_jj (f : Int64 → Int64 → Int64) (k : kx_F) : kx_F := fun l st h => match st with
  | .inr (.inl y) :: .inr (.inl x) :: r => k l (.inr (.inl (f x y)) :: r) h
  | _ => none
/-- a long and an int, a long -/
def kx_ji (f : Int64 → Int32 → Int64) (k : kx_F) : kx_F := fun l st h => match st with
  | .inl y :: .inr (.inl x) :: r => k l (.inr (.inl (f x y)) :: r) h
  | _ => none
def kx_i2l (k : kx_F) : kx_F := fun l st h => match st with
  | .inl x :: r => k l (.inr (.inl x.toInt64) :: r) h
  | _ => none
def kx_l2i (k : kx_F) : kx_F := fun l st h => match st with
  | .inr (.inl x) :: r => k l (.inl x.toInt32 :: r) h
  | _ => none
def kx_lcmp (k : kx_F) : kx_F := fun l st h => match st with
  | .inr (.inl y) :: .inr (.inl x) :: r => k l (.inl (lg_cmp x y) :: r) h
  | _ => none
def kx_dup (k : kx_F) : kx_F := fun l st h => match st with
  | v :: r => bif kx_two v then none else k l (v :: v :: r) h
  | _ => none
def kx_pop (k : kx_F) : kx_F := fun l st h => match st with
  | v :: r => bif kx_two v then none else k l r h
  | _ => none
def kx_dupx1 (k : kx_F) : kx_F := fun l st h => match st with
  | v :: w :: r => bif kx_two v then none else bif kx_two w then none else k l (v :: w :: v :: r) h
  | _ => none
/-- dup2 of two values of one word -/
def kx_dup2 (k : kx_F) : kx_F := fun l st h => match st with
  | v :: w :: r => bif kx_two v then none else bif kx_two w then none else k l (v :: w :: v :: w :: r) h
  | _ => none
def kx_ifeq (t k : kx_F) : kx_F := fun l st h => match st with
  | .inl x :: r => if x = 0 then t l r h else k l r h
  | _ => none
def kx_ifne (t k : kx_F) : kx_F := fun l st h => match st with
  | .inl x :: r => if x = 0 then k l r h else t l r h
  | _ => none
def kx_iflt (t k : kx_F) : kx_F := fun l st h => match st with
  | .inl x :: r => if x < 0 then t l r h else k l r h
  | _ => none
def kx_ifge (t k : kx_F) : kx_F := fun l st h => match st with
  | .inl x :: r => if 0 ≤ x then t l r h else k l r h
  | _ => none
def kx_ifgt (t k : kx_F) : kx_F := fun l st h => match st with
  | .inl x :: r => if 0 < x then t l r h else k l r h
  | _ => none
def kx_ifle (t k : kx_F) : kx_F := fun l st h => match st with
  | .inl x :: r => if x ≤ 0 then t l r h else k l r h
  | _ => none
def kx_ceq (t k : kx_F) : kx_F := fun l st h => match st with
  | .inl y :: .inl x :: r => if x = y then t l r h else k l r h
  | _ => none
def kx_cne (t k : kx_F) : kx_F := fun l st h => match st with
  | .inl y :: .inl x :: r => if x = y then k l r h else t l r h
  | _ => none
def kx_clt (t k : kx_F) : kx_F := fun l st h => match st with
  | .inl y :: .inl x :: r => if x < y then t l r h else k l r h
  | _ => none
def kx_cge (t k : kx_F) : kx_F := fun l st h => match st with
  | .inl y :: .inl x :: r => if y ≤ x then t l r h else k l r h
  | _ => none
def kx_cgt (t k : kx_F) : kx_F := fun l st h => match st with
  | .inl y :: .inl x :: r => if y < x then t l r h else k l r h
  | _ => none
def kx_cle (t k : kx_F) : kx_F := fun l st h => match st with
  | .inl y :: .inl x :: r => if x ≤ y then t l r h else k l r h
  | _ => none
def kx_aeq (t k : kx_F) : kx_F := fun l st h => match st with
  | .inr (.inr y) :: .inr (.inr x) :: r => bif Nat.beq x.1 y.1 then (if x.2 = y.2 then t l r h else k l r h) else none
  | _ => none
def kx_ane (t k : kx_F) : kx_F := fun l st h => match st with
  | .inr (.inr y) :: .inr (.inr x) :: r => bif Nat.beq x.1 y.1 then (if x.2 = y.2 then k l r h else t l r h) else none
  | _ => none
def kx_nul (t k : kx_F) : kx_F := fun l st h => match st with
  | .inr (.inr x) :: r => if x.2 = none then t l r h else k l r h
  | _ => none
def kx_nnul (t k : kx_F) : kx_F := fun l st h => match st with
  | .inr (.inr x) :: r => if x.2 = none then k l r h else t l r h
  | _ => none
/-- a switch, by its numbers in their order -/
def kx_swl (x : Int32) (cs : List (Int32 × kx_F)) (d : kx_F) : kx_F := match cs with
  | [] => d
  | q :: r => fun l st h => if x = q.1 then q.2 l st h else kx_swl x r d l st h
def kx_sw (cs : List (Int32 × kx_F)) (d : kx_F) : kx_F := fun l st h => match st with
  | .inl x :: r => kx_swl x cs d l r h
  | _ => none
/-- fields: the class's tag, the field's place -/
def kx_gI (t p : Nat) (k : kx_F) : kx_F := fun l st h => match st with
  | .inr (.inr x) :: r => bif Nat.beq x.1 t then x.2.bind (fun a => k l (.inl (hp_I h a p) :: r) h) else none
  | _ => none
def kx_gL (t p : Nat) (k : kx_F) : kx_F := fun l st h => match st with
  | .inr (.inr x) :: r => bif Nat.beq x.1 t then x.2.bind (fun a => k l (.inr (.inl (hp_L h a p)) :: r) h) else none
  | _ => none
def kx_gR (t p c : Nat) (k : kx_F) : kx_F := fun l st h => match st with
  | .inr (.inr x) :: r => bif Nat.beq x.1 t then x.2.bind (fun a => k l (.inr (.inr (c, hp_R h a p)) :: r) h) else none
  | _ => none
def kx_gB (t p : Nat) (k : kx_F) : kx_F := fun l st h => match st with
  | .inr (.inr x) :: r => bif Nat.beq x.1 t then x.2.bind (fun a => k l (.inl (kx_b (hp_B h a p)) :: r) h) else none
  | _ => none
def kx_pI (t p : Nat) (k : kx_F) : kx_F := fun l st h => match st with
  | .inl v :: .inr (.inr x) :: r => bif Nat.beq x.1 t then x.2.bind (fun a => k l r (hp_sI h a p v)) else none
  | _ => none
def kx_pL (t p : Nat) (k : kx_F) : kx_F := fun l st h => match st with
  | .inr (.inl v) :: .inr (.inr x) :: r => bif Nat.beq x.1 t then x.2.bind (fun a => k l r (hp_sL h a p v)) else none
  | _ => none
def kx_pR (t p c : Nat) (k : kx_F) : kx_F := fun l st h => match st with
  | .inr (.inr v) :: .inr (.inr x) :: r => bif (Nat.beq x.1 t && Nat.beq v.1 c) then x.2.bind (fun a => k l r (hp_sR h a p v.2)) else none
  | _ => none
def kx_pB (t p : Nat) (k : kx_F) : kx_F := fun l st h => match st with
  | .inl v :: .inr (.inr x) :: r => bif Nat.beq x.1 t then x.2.bind (fun a => if v = 0 then k l r (hp_sB h a p false) else if v = 1 then k l r (hp_sB h a p true) else none) else none
  | _ => none
/-- arrays: the array's tag -/
def kx_len (t : Nat) (k : kx_F) : kx_F := fun l st h => match st with
  | .inr (.inr x) :: r => bif Nat.beq x.1 t then x.2.bind (fun a => k l (.inl (Int32.ofNat (hp_N h a)) :: r) h) else none
  | _ => none
def kx_aI (t : Nat) (k : kx_F) : kx_F := fun l st h => match st with
  | .inl i :: .inr (.inr x) :: r => bif Nat.beq x.1 t then x.2.bind (fun a => if i < 0 ∨ hp_N h a ≤ i.toNatClampNeg then none else k l (.inl (hp_I h a i.toNatClampNeg) :: r) h) else none
  | _ => none
def kx_aL (t : Nat) (k : kx_F) : kx_F := fun l st h => match st with
  | .inl i :: .inr (.inr x) :: r => bif Nat.beq x.1 t then x.2.bind (fun a => if i < 0 ∨ hp_N h a ≤ i.toNatClampNeg then none else k l (.inr (.inl (hp_L h a i.toNatClampNeg)) :: r) h) else none
  | _ => none
def kx_aR (t c : Nat) (k : kx_F) : kx_F := fun l st h => match st with
  | .inl i :: .inr (.inr x) :: r => bif Nat.beq x.1 t then x.2.bind (fun a => if i < 0 ∨ hp_N h a ≤ i.toNatClampNeg then none else k l (.inr (.inr (c, hp_R h a i.toNatClampNeg)) :: r) h) else none
  | _ => none
def kx_aB (t : Nat) (k : kx_F) : kx_F := fun l st h => match st with
  | .inl i :: .inr (.inr x) :: r => bif Nat.beq x.1 t then x.2.bind (fun a => if i < 0 ∨ hp_N h a ≤ i.toNatClampNeg then none else k l (.inl (kx_b (hp_B h a i.toNatClampNeg)) :: r) h) else none
  | _ => none
def kx_asI (t : Nat) (k : kx_F) : kx_F := fun l st h => match st with
  | .inl v :: .inl i :: .inr (.inr x) :: r => bif Nat.beq x.1 t then x.2.bind (fun a => if i < 0 ∨ hp_N h a ≤ i.toNatClampNeg then none else k l r (hp_sI h a i.toNatClampNeg v)) else none
  | _ => none
def kx_asL (t : Nat) (k : kx_F) : kx_F := fun l st h => match st with
  | .inr (.inl v) :: .inl i :: .inr (.inr x) :: r => bif Nat.beq x.1 t then x.2.bind (fun a => if i < 0 ∨ hp_N h a ≤ i.toNatClampNeg then none else k l r (hp_sL h a i.toNatClampNeg v)) else none
  | _ => none
def kx_asR (t c : Nat) (k : kx_F) : kx_F := fun l st h => match st with
  | .inr (.inr v) :: .inl i :: .inr (.inr x) :: r => bif (Nat.beq x.1 t && Nat.beq v.1 c) then x.2.bind (fun a => if i < 0 ∨ hp_N h a ≤ i.toNatClampNeg then none else k l r (hp_sR h a i.toNatClampNeg v.2)) else none
  | _ => none
def kx_asB (t : Nat) (k : kx_F) : kx_F := fun l st h => match st with
  | .inl v :: .inl i :: .inr (.inr x) :: r => bif Nat.beq x.1 t then x.2.bind (fun a => if i < 0 ∨ hp_N h a ≤ i.toNatClampNeg then none else if v = 0 then k l r (hp_sB h a i.toNatClampNeg false) else if v = 1 then k l r (hp_sB h a i.toNatClampNeg true) else none) else none
  | _ => none
/-- a new object of w fields -/
def kx_new (cc cs t w : Nat) (k : kx_F) : kx_F := fun l st h =>
  if hp_C h + 1 ≤ cc ∧ hp_U h + w ≤ cs then k l (.inr (.inr (t, some (hp_X h))) :: st) (hp_new h t 0 w) else none
/-- a new array -/
def kx_newa (cc cs t : Nat) (k : kx_F) : kx_F := fun l st h => match st with
  | .inl n :: r => if n < 0 ∨ 60000000 < n.toNatClampNeg then none else if hp_C h + 1 ≤ cc ∧ hp_U h + n.toNatClampNeg ≤ cs then k l (.inr (.inr (t, some (hp_X h))) :: r) (hp_new h t n.toNatClampNeg n.toNatClampNeg) else none
  | _ => none
/-- Object's constructor -/
def kx_obj (k : kx_F) : kx_F := fun l st h => match st with
  | .inr (.inr x) :: r => bif Nat.ble r.length 8 then x.2.bind (fun _ => k l r h) else none
  | _ => none
/-- behind a call -/
def kx_bv (o : kx_O) (k : kx_H → kx_O) : kx_O := o.bind fun q => match q.1 with
  | .inl none => k q.2
  | .inr e => some (.inr e, q.2)
  | _ => none
def kx_bi (o : kx_O) (k : Int32 → kx_H → kx_O) : kx_O := o.bind fun q => match q.1 with
  | .inl (some (.inl x)) => k x q.2
  | .inr e => some (.inr e, q.2)
  | _ => none
def kx_bl (o : kx_O) (k : Int64 → kx_H → kx_O) : kx_O := o.bind fun q => match q.1 with
  | .inl (some (.inr (.inl x))) => k x q.2
  | .inr e => some (.inr e, q.2)
  | _ => none
def kx_br (c : Nat) (o : kx_O) (k : Option Nat → kx_H → kx_O) : kx_O := o.bind fun q => match q.1 with
  | .inl (some (.inr (.inr x))) => bif Nat.beq x.1 c then k x.2 q.2 else none
  | .inr e => some (.inr e, q.2)
  | _ => none
/-- which values a method takes: 0 an int, 1 a long, 2 + c a reference of the tag c -/
def kx_fit (p : Nat) (v : kx_V) : Bool := match v with
  | .inl _ => Nat.beq p 0
  | .inr (.inl _) => Nat.beq p 1
  | .inr (.inr x) => Nat.beq p (x.1 + 2)
def kx_fits (ps : List Nat) (vs : List kx_V) : Bool := match ps, vs with
  | [], [] => true
  | p :: ps, v :: vs => kx_fit p v && kx_fits ps vs
  | _, _ => false
/-- the arguments of a static method -/
def kx_as (ps : List Nat) (st : List kx_V) (k : List kx_V → List kx_V → kx_O) : kx_O :=
  bif (kx_fits ps (st.take ps.length).reverse && Nat.ble (st.drop ps.length).length 4) then k (st.take ps.length).reverse (st.drop ps.length) else none
/-- .. and of a method of an object of the tag t -/
def kx_ao (t : Nat) (ps : List Nat) (st : List kx_V) (k : List kx_V → List kx_V → kx_O) : kx_O :=
  bif kx_fits ps (st.take ps.length).reverse then (match st.drop ps.length with
    | .inr (.inr x) :: r => bif (Nat.beq x.1 t && Nat.ble r.length 4) then x.2.bind (fun a => k (.inr (.inr (t, some a)) :: (st.take ps.length).reverse) r) else none
    | _ => none) else none
def kx_Sv (C : kx_C) (n : Nat) (ps : List Nat) (k : kx_F) : kx_F := fun l st h => kx_as ps st fun as r => kx_bv (C n as h) fun h' => k l r h'
def kx_Si (C : kx_C) (n : Nat) (ps : List Nat) (k : kx_F) : kx_F := fun l st h => kx_as ps st fun as r => kx_bi (C n as h) fun x h' => k l (.inl x :: r) h'
def kx_Sl (C : kx_C) (n : Nat) (ps : List Nat) (k : kx_F) : kx_F := fun l st h => kx_as ps st fun as r => kx_bl (C n as h) fun x h' => k l (.inr (.inl x) :: r) h'
def kx_Sr (C : kx_C) (n : Nat) (ps : List Nat) (c : Nat) (k : kx_F) : kx_F := fun l st h => kx_as ps st fun as r => kx_br c (C n as h) fun x h' => k l (.inr (.inr (c, x)) :: r) h'
def kx_Vv (C : kx_C) (n t : Nat) (ps : List Nat) (k : kx_F) : kx_F := fun l st h => kx_ao t ps st fun as r => kx_bv (C n as h) fun h' => k l r h'
def kx_Vi (C : kx_C) (n t : Nat) (ps : List Nat) (k : kx_F) : kx_F := fun l st h => kx_ao t ps st fun as r => kx_bi (C n as h) fun x h' => k l (.inl x :: r) h'
def kx_Vl (C : kx_C) (n t : Nat) (ps : List Nat) (k : kx_F) : kx_F := fun l st h => kx_ao t ps st fun as r => kx_bl (C n as h) fun x h' => k l (.inr (.inl x) :: r) h'
def kx_Vr (C : kx_C) (n t : Nat) (ps : List Nat) (c : Nat) (k : kx_F) : kx_F := fun l st h => kx_ao t ps st fun as r => kx_br c (C n as h) fun x h' => k l (.inr (.inr (c, x)) :: r) h'
/-- ends -/
def kx_rv : kx_F := fun _ st h => match st with
  | [] => some (.inl none, h)
  | _ => none
def kx_ri : kx_F := fun _ st h => match st with
  | [.inl x] => some (.inl (some (.inl x)), h)
  | _ => none
def kx_rz : kx_F := fun _ st h => match st with
  | [.inl x] => if x = 0 ∨ x = 1 then some (.inl (some (.inl x)), h) else none
  | _ => none
def kx_rl : kx_F := fun _ st h => match st with
  | [.inr (.inl x)] => some (.inl (some (.inr (.inl x))), h)
  | _ => none
def kx_rr : kx_F := fun _ st h => match st with
  | [.inr (.inr x)] => some (.inl (some (.inr (.inr x))), h)
  | _ => none
/-- throw new E("text") -/
def kx_th (cc cs e : Nat) : kx_F := fun _ st h => match st with
  | [] => if hp_C h + 1 ≤ cc ∧ hp_U h + 6 ≤ cs then some (.inr e, hp_bump h 1 6) else none
  | _ => none
/-- a method by its blocks -/
def kx_ex (B : Nat → (Nat → kx_F) → kx_F) : Nat → Nat → kx_F
  | 0, _ => fun _ _ _ => none
  | n + 1, b => B b (kx_ex B n)
/-- the locals at the start -/
def kx_in : Nat → List kx_V → kx_L
  | _, [] => []
  | i, v :: vs => (i, v) :: kx_in (bif kx_two v then i + 2 else i + 1) vs
/-- .. where frames enough are left -/
def kx_thd (cc cs d e : Nat) : kx_F := bif Nat.ble 4 d then kx_th cc cs e else fun _ _ _ => none
/-- pop2 of a long -/
def kx_pop2 (k : kx_F) : kx_F := fun l st h => match st with
  | .inr (.inl _) :: r => k l r h
  | _ => none
def kx_fuel : Nat := 1000000
/-- the methods, to a depth: M n d C are the blocks of the method n, its calls by C -/
def kx_ev (M : Nat → Nat → kx_C → Nat → (Nat → kx_F) → kx_F) : Nat → kx_C
  | 0 => fun _ _ _ => none
  | d + 1 => fun n as h => kx_ex (M n d (kx_ev M d)) kx_fuel 0 (kx_in 0 as) [] h
