section KA
variable {p : Program} {l : Launch} {e : Env} {R : Room} {s : State} {m : MethodId} {args : Array Value} {below : List Frame} {meth : Method} {c : Code} {H : Heap} {locs : List Loc} {cells slots : Nat} {Q : State → Prop}
variable {s0 : State} {D : va_G} {cA : Nat → ClassId} {cc : ByteArray} {own : String} {nL : Nat} {ι ι0 : Nat → Nat} {h h0 hf : kx_H} {rr : kx_R} {pc : Nat} {k : kx_F} {ls : Array Slot} {rest : List Value} {a t i : Nat} {r : vw_C}
/-- an array's tag, its component's type -/
def kx_ar (t kd c9 : Nat) (ty : FieldType) : Prop := (∀ cA : Nat → ClassId, (kx_tys cA)[t - 99]? = some (cA t, ty)) ∧ 98 < t ∧ kx_ak t = (kd, c9)
theorem kx_P_a (hP : kx_P s0 D cA ι h H) (ha : hp_T h a = some t) (ht : 98 < t) : H[ι a]? = some (arrV (cA t) (hp_N h a) (fun i => kx_val ι h a (kx_ak t).1 i)) := ((hP.1 a t ha).2.2.2 ht).2
theorem kx_s_aI (G : kx_G p e R s m args meth c s0 D cA cc own nL h0) {c9 : Nat} (har : kx_ar t 0 c9 .int) (hd : decode cc pc = .ok (.iaload, 1)) (hk : kx_Sn p l e R s m args below meth c s0 D cA nL ι0 h0 rr hf (pc + 1) k) : kx_Sn p l e R s m args below meth c s0 D cA nL ι0 h0 rr hf pc (kx_aI t k) := by
  intro lv st h hF
  unfold kx_aI at hF
  split at hF
  · rename_i i9 x r9
    obtain ⟨t9, o9⟩ := x
    cases hq9 : Nat.beq t9 t with
    | false => rw [hq9] at hF; cases hF
    | true =>
      have e9 : t9 = t := Nat.eq_of_beq_eq_true hq9
      subst e9
      rw [hq9] at hF
      cases o9 with
      | none => cases hF
      | some a =>
        simp only [cond_true, Option.bind_some] at hF
        split at hF
        · cases hF
        · rename_i hin
          intro ι H locs cells slots ls hP hA hl hs hv hS hC hU hI hE
          have ha : hp_T h a = some t9 := kx_okh (kx_okt hs) a rfl
          have hlt : i9.toNatClampNeg < hp_N h a := Nat.not_le.mp fun q => hin (Or.inr q)
          have hcell := kx_P_a hP ha har.2.1
          rw [har.2.2] at hcell
          have hAr := (G.2.2.2.2.2.2.1.2.1.2 _ _ (har.1 cA)).1
          have hok : True := trivial
          exact W.iald (v := kx_val ι h a 0 i9.toNatClampNeg) G.1 G.2.1 hcell (hAr _ _) (fun q => by cases q) (by rw [arrV_size]; exact hin) (by rw [arrV_read _ _ hlt]) rfl rfl hd (hk _ _ _ hF ι H locs cells slots ls hP hA hl (kx_ok2 hok (kx_okt (kx_okt hs))) hv hS hC hU hI hE)
  · cases hF
theorem kx_s_aL (G : kx_G p e R s m args meth c s0 D cA cc own nL h0) {c9 : Nat} (har : kx_ar t 1 c9 .long) (hd : decode cc pc = .ok (.laload, 1)) (hk : kx_Sn p l e R s m args below meth c s0 D cA nL ι0 h0 rr hf (pc + 1) k) : kx_Sn p l e R s m args below meth c s0 D cA nL ι0 h0 rr hf pc (kx_aL t k) := by
  intro lv st h hF
  unfold kx_aL at hF
  split at hF
  · rename_i i9 x r9
    obtain ⟨t9, o9⟩ := x
    cases hq9 : Nat.beq t9 t with
    | false => rw [hq9] at hF; cases hF
    | true =>
      have e9 : t9 = t := Nat.eq_of_beq_eq_true hq9
      subst e9
      rw [hq9] at hF
      cases o9 with
      | none => cases hF
      | some a =>
        simp only [cond_true, Option.bind_some] at hF
        split at hF
        · cases hF
        · rename_i hin
          intro ι H locs cells slots ls hP hA hl hs hv hS hC hU hI hE
          have ha : hp_T h a = some t9 := kx_okh (kx_okt hs) a rfl
          have hlt : i9.toNatClampNeg < hp_N h a := Nat.not_le.mp fun q => hin (Or.inr q)
          have hcell := kx_P_a hP ha har.2.1
          rw [har.2.2] at hcell
          have hAr := (G.2.2.2.2.2.2.1.2.1.2 _ _ (har.1 cA)).1
          have hok : True := trivial
          exact W.lald (v := kx_val ι h a 1 i9.toNatClampNeg) G.1 G.2.1 hcell (hAr _ _) (fun q => by cases q) (by rw [arrV_size]; exact hin) (by rw [arrV_read _ _ hlt]) rfl rfl hd (hk _ _ _ hF ι H locs cells slots ls hP hA hl (kx_ok2 hok (kx_okt (kx_okt hs))) hv hS hC hU hI hE)
  · cases hF
theorem kx_s_aR (G : kx_G p e R s m args meth c s0 D cA cc own nL h0) {c9 : Nat} {ty : FieldType} (hrf : ty.isReference = true) (har : kx_ar t 2 c9 ty) (hd : decode cc pc = .ok (.aaload, 1)) (hk : kx_Sn p l e R s m args below meth c s0 D cA nL ι0 h0 rr hf (pc + 1) k) : kx_Sn p l e R s m args below meth c s0 D cA nL ι0 h0 rr hf pc (kx_aR t c9 k) := by
  intro lv st h hF
  unfold kx_aR at hF
  split at hF
  · rename_i i9 x r9
    obtain ⟨t9, o9⟩ := x
    cases hq9 : Nat.beq t9 t with
    | false => rw [hq9] at hF; cases hF
    | true =>
      have e9 : t9 = t := Nat.eq_of_beq_eq_true hq9
      subst e9
      rw [hq9] at hF
      cases o9 with
      | none => cases hF
      | some a =>
        simp only [cond_true, Option.bind_some] at hF
        split at hF
        · cases hF
        · rename_i hin
          intro ι H locs cells slots ls hP hA hl hs hv hS hC hU hI hE
          have ha : hp_T h a = some t9 := kx_okh (kx_okt hs) a rfl
          have hlt : i9.toNatClampNeg < hp_N h a := Nat.not_le.mp fun q => hin (Or.inr q)
          have hcell := kx_P_a hP ha har.2.1
          rw [har.2.2] at hcell
          have hAr := (G.2.2.2.2.2.2.1.2.1.2 _ _ (har.1 cA)).1
          have hok : kx_ok h (kx_r c9 (hp_R h a i9.toNatClampNeg)) := by intro b hb; have z := hP.2.2.2 a t9 _ b ha har.2.1 (by rw [har.2.2]) hb; rw [har.2.2] at z; exact z
          exact W.aald (v := kx_val ι h a 2 i9.toNatClampNeg) (ty := ty) G.1 G.2.1 hcell (hAr _ _) hrf (fun q => by cases q) (by rw [arrV_size]; exact hin) (by rw [arrV_read _ _ hlt]) rfl rfl hd (hk _ _ _ hF ι H locs cells slots ls hP hA hl (kx_ok2 hok (kx_okt (kx_okt hs))) hv hS hC hU hI hE)
  · cases hF
theorem kx_s_aB (G : kx_G p e R s m args meth c s0 D cA cc own nL h0) {c9 : Nat} (har : kx_ar t 3 c9 .boolean) (hd : decode cc pc = .ok (.baload, 1)) (hk : kx_Sn p l e R s m args below meth c s0 D cA nL ι0 h0 rr hf (pc + 1) k) : kx_Sn p l e R s m args below meth c s0 D cA nL ι0 h0 rr hf pc (kx_aB t k) := by
  intro lv st h hF
  unfold kx_aB at hF
  split at hF
  · rename_i i9 x r9
    obtain ⟨t9, o9⟩ := x
    cases hq9 : Nat.beq t9 t with
    | false => rw [hq9] at hF; cases hF
    | true =>
      have e9 : t9 = t := Nat.eq_of_beq_eq_true hq9
      subst e9
      rw [hq9] at hF
      cases o9 with
      | none => cases hF
      | some a =>
        simp only [cond_true, Option.bind_some] at hF
        split at hF
        · cases hF
        · rename_i hin
          intro ι H locs cells slots ls hP hA hl hs hv hS hC hU hI hE
          have ha : hp_T h a = some t9 := kx_okh (kx_okt hs) a rfl
          have hlt : i9.toNatClampNeg < hp_N h a := Nat.not_le.mp fun q => hin (Or.inr q)
          have hcell := kx_P_a hP ha har.2.1
          rw [har.2.2] at hcell
          have hAr := (G.2.2.2.2.2.2.1.2.1.2 _ _ (har.1 cA)).1
          have hok : True := trivial
          exact W.zald (v := kx_val ι h a 3 i9.toNatClampNeg) G.1 G.2.1 hcell (hAr _ _) (fun q => by cases q) (by rw [arrV_size]; exact hin) (by rw [arrV_read _ _ hlt]) rfl rfl hd (hk _ _ _ hF ι H locs cells slots ls hP hA hl (kx_ok2 hok (kx_okt (kx_okt hs))) hv hS hC hU hI hE)
  · cases hF
theorem kx_s_len (G : kx_G p e R s m args meth c s0 D cA cc own nL h0) {kd c9 : Nat} {ty : FieldType} (har : kx_ar t kd c9 ty) (hd : decode cc pc = .ok (.arraylength, 1)) (hk : kx_Sn p l e R s m args below meth c s0 D cA nL ι0 h0 rr hf (pc + 1) k) : kx_Sn p l e R s m args below meth c s0 D cA nL ι0 h0 rr hf pc (kx_len t k) := by
  intro lv st h hF
  unfold kx_len at hF
  split at hF
  · rename_i x r9
    obtain ⟨t9, o9⟩ := x
    cases hq9 : Nat.beq t9 t with
    | false => rw [hq9] at hF; cases hF
    | true =>
      have e9 : t9 = t := Nat.eq_of_beq_eq_true hq9
      subst e9
      rw [hq9] at hF
      cases o9 with
      | none => cases hF
      | some a =>
        intro ι H locs cells slots ls hP hA hl hs hv hS hC hU hI hE
        have ha : hp_T h a = some t9 := kx_okh hs a rfl
        exact W.alen (n := Int32.ofNat (hp_N h a)) G.1 G.2.1 (kx_P_a hP ha har.2.1) ((G.2.2.2.2.2.2.1.2.1.2 _ _ (har.1 cA)).1 _ _) (by rw [arrV_size] <;> rfl) rfl rfl hd (hk _ _ _ hF ι H locs cells slots ls hP hA hl (kx_ok2 trivial (kx_okt hs)) hv hS hC hU hI hE)
  · cases hF
theorem kx_s_lenS (G : kx_G p e R s m args meth c s0 D cA cc own nL h0) (hd : decode cc pc = .ok (.arraylength, 1)) (hk : kx_Sn p l e R s m args below meth c s0 D cA nL ι0 h0 rr hf (pc + 1) k) : kx_Sn p l e R s m args below meth c s0 D cA nL ι0 h0 rr hf pc (kx_len 98 k) := by
  intro lv st h hF
  unfold kx_len at hF
  split at hF
  · rename_i x r9
    obtain ⟨t9, o9⟩ := x
    cases hq9 : Nat.beq t9 98 with
    | false => rw [hq9] at hF; cases hF
    | true =>
      have e9 : t9 = 98 := Nat.eq_of_beq_eq_true hq9
      subst e9
      rw [hq9] at hF
      cases o9 with
      | none => cases hF
      | some a =>
        intro ι H locs cells slots ls hP hA hl hs hv hS hC hU hI hE
        have ha : hp_T h a = some 98 := kx_okh hs a rfl
        obtain ⟨⟨scr, x1, x2, x3, x4, x5⟩, -⟩ := (hP.1 a 98 ha).2.1 rfl
        exact W.alen (n := Int32.ofNat (hp_N h a)) G.1 G.2.1 x1 (State.isArrayOf_alike G.2.2.2.2.2.2.1.1.alike x2) (by rw [x4] <;> rfl) rfl rfl hd (hk _ _ _ hF ι H locs cells slots ls hP hA hl (kx_ok2 trivial (kx_okt hs)) hv hS hC hU hI hE)
  · cases hF
theorem kx_s_aS (G : kx_G p e R s m args meth c s0 D cA cc own nL h0) (hd : decode cc pc = .ok (.iaload, 1)) (hk : kx_Sn p l e R s m args below meth c s0 D cA nL ι0 h0 rr hf (pc + 1) k) : kx_Sn p l e R s m args below meth c s0 D cA nL ι0 h0 rr hf pc (kx_aI 98 k) := by
  intro lv st h hF
  unfold kx_aI at hF
  split at hF
  · rename_i i9 x r9
    obtain ⟨t9, o9⟩ := x
    cases hq9 : Nat.beq t9 98 with
    | false => rw [hq9] at hF; cases hF
    | true =>
      have e9 : t9 = 98 := Nat.eq_of_beq_eq_true hq9
      subst e9
      rw [hq9] at hF
      cases o9 with
      | none => cases hF
      | some a =>
        simp only [cond_true, Option.bind_some] at hF
        split at hF
        · cases hF
        · rename_i hin
          intro ι H locs cells slots ls hP hA hl hs hv hS hC hU hI hE
          have ha : hp_T h a = some 98 := kx_okh (kx_okt hs) a rfl
          have hlt : i9.toNatClampNeg < hp_N h a := Nat.not_le.mp fun q => hin (Or.inr q)
          obtain ⟨⟨scr, x1, x2, x3, x4, x5⟩, -⟩ := (hP.1 a 98 ha).2.1 rfl
          exact W.iald (v := .int (hp_I h a i9.toNatClampNeg)) G.1 G.2.1 x1 (State.isArrayOf_alike G.2.2.2.2.2.2.1.1.alike x2) x3 (by rw [x4]; exact hin) (x5 _ hlt) rfl rfl hd (hk _ _ _ hF ι H locs cells slots ls hP hA hl (kx_ok2 trivial (kx_okt (kx_okt hs))) hv hS hC hU hI hE)
  · cases hF
theorem kx_s_asI (G : kx_G p e R s m args meth c s0 D cA cc own nL h0) {c9 : Nat} (har : kx_ar t 0 c9 .int) (hd : decode cc pc = .ok (.iastore, 1)) (hk : kx_Sn p l e R s m args below meth c s0 D cA nL ι0 h0 rr hf (pc + 1) k) : kx_Sn p l e R s m args below meth c s0 D cA nL ι0 h0 rr hf pc (kx_asI t k) := by
  intro lv st h hF
  unfold kx_asI at hF
  split at hF
  · rename_i v i9 x r9
    obtain ⟨t9, o9⟩ := x
    cases hq9 : Nat.beq t9 t with
    | false => rw [hq9] at hF; cases hF
    | true =>
      have e9 : t9 = t := Nat.eq_of_beq_eq_true hq9
      subst e9
      rw [hq9] at hF
      cases o9 with
      | none => cases hF
      | some a =>
        simp only [cond_true, Option.bind_some] at hF
        split at hF
        · cases hF
        · rename_i hin
          intro ι H locs cells slots ls hP hA hl hs hv hS hC hU hI hE
          have ha : hp_T h a = some t9 := kx_okh (kx_okt (kx_okt hs)) a rfl
          have hcell := kx_P_a hP ha har.2.1
          have hAr := (G.2.2.2.2.2.2.1.2.1.2 _ _ (har.1 cA)).1
          refine W.iast G.1 G.2.1 hcell (hAr _ _) (fun q => by cases q) (by rw [arrV_size]; exact hin) rfl rfl hd fun H' e1 e2 e3 => ?_
          rw [arrV_store] at e1
          refine hk _ _ _ hF ι H' _ cells slots ls (kx_P_arr hP ha har.2.1 (e1.trans ?_) e3 rfl rfl rfl (fun b hb kd j => ?_) ?_ (fun b t' j z hb hlt hkd hz => hP.2.2.1 b t' j z hb hlt hkd hz) (fun b t' j z hb hlt hkd hz => hP.2.2.2 b t' j z hb hlt hkd hz)) hA hl (kx_okt (kx_okt (kx_okt hs))) hv (hS.put e2 e3 (hA a t9 ha (by have := har.2.1; omega))) hC hU hI hE
          · congr 2
            funext j
            rw [kx_updV, kx_v0]
            by_cases hj : j = i9.toNatClampNeg
            · rw [if_pos hj, if_pos ⟨by rw [har.2.2], rfl, hj⟩]
            · rw [if_neg hj, if_neg (fun z => hj z.2.2)]
          · rw [kx_v0, if_neg (fun z => hb z.2.1)]
          · intro b hb; funext j; show (if b = a ∧ j = i9.toNatClampNeg then v else hp_I h b j) = _; rw [if_neg (fun z => hb z.1)]
  · cases hF
theorem kx_s_asL (G : kx_G p e R s m args meth c s0 D cA cc own nL h0) {c9 : Nat} (har : kx_ar t 1 c9 .long) (hd : decode cc pc = .ok (.lastore, 1)) (hk : kx_Sn p l e R s m args below meth c s0 D cA nL ι0 h0 rr hf (pc + 1) k) : kx_Sn p l e R s m args below meth c s0 D cA nL ι0 h0 rr hf pc (kx_asL t k) := by
  intro lv st h hF
  unfold kx_asL at hF
  split at hF
  · rename_i v i9 x r9
    obtain ⟨t9, o9⟩ := x
    cases hq9 : Nat.beq t9 t with
    | false => rw [hq9] at hF; cases hF
    | true =>
      have e9 : t9 = t := Nat.eq_of_beq_eq_true hq9
      subst e9
      rw [hq9] at hF
      cases o9 with
      | none => cases hF
      | some a =>
        simp only [cond_true, Option.bind_some] at hF
        split at hF
        · cases hF
        · rename_i hin
          intro ι H locs cells slots ls hP hA hl hs hv hS hC hU hI hE
          have ha : hp_T h a = some t9 := kx_okh (kx_okt (kx_okt hs)) a rfl
          have hcell := kx_P_a hP ha har.2.1
          have hAr := (G.2.2.2.2.2.2.1.2.1.2 _ _ (har.1 cA)).1
          refine W.last G.1 G.2.1 hcell (hAr _ _) (fun q => by cases q) (by rw [arrV_size]; exact hin) rfl rfl hd fun H' e1 e2 e3 => ?_
          rw [arrV_store] at e1
          refine hk _ _ _ hF ι H' _ cells slots ls (kx_P_arr hP ha har.2.1 (e1.trans ?_) e3 rfl rfl rfl (fun b hb kd j => ?_) ?_ (fun b t' j z hb hlt hkd hz => hP.2.2.1 b t' j z hb hlt hkd hz) (fun b t' j z hb hlt hkd hz => hP.2.2.2 b t' j z hb hlt hkd hz)) hA hl (kx_okt (kx_okt (kx_okt hs))) hv (hS.put e2 e3 (hA a t9 ha (by have := har.2.1; omega))) hC hU hI hE
          · congr 2
            funext j
            rw [kx_updV, kx_v1]
            by_cases hj : j = i9.toNatClampNeg
            · rw [if_pos hj, if_pos ⟨by rw [har.2.2], rfl, hj⟩]
            · rw [if_neg hj, if_neg (fun z => hj z.2.2)]
          · rw [kx_v1, if_neg (fun z => hb z.2.1)]
          · intro b hb; rfl
  · cases hF
theorem kx_s_asB0 (G : kx_G p e R s m args meth c s0 D cA cc own nL h0) {c9 : Nat} (har : kx_ar t 3 c9 .boolean) (hd : decode cc pc = .ok (.bastore, 1)) (hk : kx_Sn p l e R s m args below meth c s0 D cA nL ι0 h0 rr hf (pc + 1) k) {lv : kx_L} {r9 : List kx_V} {h : kx_H} {a : Nat} {b9 : Bool} {i9 : Int32} (hin : ¬ (i9 < 0 ∨ hp_N h a ≤ i9.toNatClampNeg)) (hF : k lv r9 (hp_sB h a i9.toNatClampNeg b9) = some (rr, hf)) : kx_Sm p l e R s m args below meth c s0 D cA nL ι0 h0 rr hf pc lv (kx_i (kx_b b9) :: kx_i i9 :: kx_r t (some a) :: r9) h := by
  intro ι H locs cells slots ls hP hA hl hs hv hS hC hU hI hE
  have ha : hp_T h a = some t := kx_okh (kx_okt (kx_okt hs)) a rfl
  have hcell := kx_P_a hP ha har.2.1
  have hAr := (G.2.2.2.2.2.2.1.2.1.2 _ _ (har.1 cA)).1
  refine W.zast G.1 G.2.1 hcell (hAr _ _) (fun q => by cases q) (by rw [arrV_size]; exact hin) rfl rfl hd fun H' e1 e2 e3 => ?_
  rw [show narrow .boolean (.int (kx_b b9)) = .int (kx_b b9) from by cases b9 <;> decide, arrV_store] at e1
  refine hk _ _ _ hF ι H' _ cells slots ls (kx_P_arr hP ha har.2.1 (e1.trans ?_) e3 rfl rfl rfl (fun b hb kd j => ?_) (fun b hb => rfl) (fun b t' j z hb hlt hkd hz => hP.2.2.1 b t' j z hb hlt hkd hz) (fun b t' j z hb hlt hkd hz => hP.2.2.2 b t' j z hb hlt hkd hz)) hA hl (kx_okt (kx_okt (kx_okt hs))) hv (hS.put e2 e3 (hA a t ha (by have := har.2.1; omega))) hC hU hI hE
  · congr 2
    funext j
    rw [kx_updV, kx_v3]
    by_cases hj : j = i9.toNatClampNeg
    · rw [if_pos hj, if_pos ⟨by rw [har.2.2]; exact (by decide : 2 < 3), rfl, hj⟩]
    · rw [if_neg hj, if_neg (fun z => hj z.2.2)]
  · rw [kx_v3, if_neg (fun z => hb z.2.1)]
theorem kx_s_asB (G : kx_G p e R s m args meth c s0 D cA cc own nL h0) {c9 : Nat} (har : kx_ar t 3 c9 .boolean) (hd : decode cc pc = .ok (.bastore, 1)) (hk : kx_Sn p l e R s m args below meth c s0 D cA nL ι0 h0 rr hf (pc + 1) k) : kx_Sn p l e R s m args below meth c s0 D cA nL ι0 h0 rr hf pc (kx_asB t k) := by
  intro lv st h hF
  unfold kx_asB at hF
  split at hF
  · rename_i v i9 x r9
    obtain ⟨t9, o9⟩ := x
    cases hq9 : Nat.beq t9 t with
    | false => rw [hq9] at hF; cases hF
    | true =>
      have e9 : t9 = t := Nat.eq_of_beq_eq_true hq9
      subst e9
      rw [hq9] at hF
      cases o9 with
      | none => cases hF
      | some a =>
        simp only [cond_true, Option.bind_some] at hF
        split at hF
        · cases hF
        · rename_i hin
          by_cases hv0 : v = 0
          · subst hv0
            exact kx_s_asB0 (b9 := false) G har hd hk hin hF
          · by_cases hv1 : v = 1
            · subst hv1
              exact kx_s_asB0 (b9 := true) G har hd hk hin hF
            · simp [hv0, hv1] at hF
  · cases hF
theorem kx_s_asR (G : kx_G p e R s m args meth c s0 D cA cc own nL h0) {c9 : Nat} {r9 : vw_C} (har : kx_ar t 2 c9 (.object r9.1)) (hc9 : kx_cl[c9]? = some r9) (h98 : c9 < 98) (hd : decode cc pc = .ok (.aastore, 1)) (hk : kx_Sn p l e R s m args below meth c s0 D cA nL ι0 h0 rr hf (pc + 1) k) : kx_Sn p l e R s m args below meth c s0 D cA nL ι0 h0 rr hf pc (kx_asR t c9 k) := by
  intro lv st h hF
  unfold kx_asR at hF
  split at hF
  · rename_i v i9 x r8
    obtain ⟨t9, o9⟩ := x
    obtain ⟨t8, v⟩ := v
    cases hq9 : Nat.beq t9 t with
    | false => rw [hq9] at hF; cases hF
    | true =>
     cases hq8 : Nat.beq t8 c9 with
     | false => rw [hq9, hq8] at hF; cases hF
     | true =>
      have e9 : t9 = t := Nat.eq_of_beq_eq_true hq9
      subst e9
      have e8 : t8 = c9 := Nat.eq_of_beq_eq_true hq8
      subst e8
      rw [hq9, hq8] at hF
      cases o9 with
      | none => cases hF
      | some a =>
        simp only [Bool.and_true, cond_true, Option.bind_some] at hF
        split at hF
        · cases hF
        · rename_i hin
          intro ι H locs cells slots ls hP hA hl hs hv hS hC hU hI hE
          have ha : hp_T h a = some t9 := kx_okh (kx_okt (kx_okt hs)) a rfl
          have hcell := kx_P_a hP ha har.2.1
          have hAr := G.2.2.2.2.2.2.1.2.1.2 _ _ (har.1 cA)
          have hlt : i9.toNatClampNeg < hp_N h a := Nat.not_le.mp fun q => hin (Or.inr q)
          have hlo : ¬ i9 < 0 := fun q => hin (Or.inl q)
          have fin : ∀ H' : Heap, H'[ι a]? = some ((arrV (cA t9) (hp_N h a) (fun i => kx_val ι h a (kx_ak t9).1 i)).setSlot i9.toNatClampNeg (va_rf (v.map ι))) → H'.size = H.size → (∀ q : Nat, q ≠ ι a → H'[q]? = H[q]?) → W p l e R s m args below meth c H' (locs ++ [⟨ι a, i9.toNatClampNeg⟩]) cells slots (kx_Q s0 D cA below s ι0 h0 rr hf) (F0 m (pc + 1) ls (r8.map (kx_cv ι))) := by
            intro H' e1 e2 e3
            rw [arrV_store] at e1
            refine hk _ _ _ hF ι H' _ cells slots ls (kx_P_arr hP ha har.2.1 (e1.trans ?_) e3 rfl rfl rfl (fun b hb kd j => ?_) (fun b hb => rfl) (fun b t' j z hb hlt hkd hz => ?_) (fun b t' j z hb hlt hkd hz => ?_)) hA hl (kx_okt (kx_okt (kx_okt hs))) hv (hS.put e2 e3 (hA a t9 ha (by have := har.2.1; omega))) hC hU hI hE
            · congr 2
              funext j
              rw [kx_updV, kx_v2]
              by_cases hj : j = i9.toNatClampNeg
              · rw [if_pos hj, if_pos ⟨by rw [har.2.2], rfl, hj⟩]
              · rw [if_neg hj, if_neg (fun z => hj z.2.2)]
            · rw [kx_v2, if_neg (fun z => hb z.2.1)]
            · by_cases e5 : b = a ∧ j = i9.toNatClampNeg
              · obtain ⟨rfl, rfl⟩ := e5
                have e6 : t' = t9 := Option.some.inj (hb.symm.trans ha)
                have := har.2.1
                omega
              · have hz2 : hp_R h b j = some z := by simpa [hp_R, hp_sR, e5] using hz
                exact hP.2.2.1 b t' j z hb hlt hkd hz2
            · by_cases e5 : b = a ∧ j = i9.toNatClampNeg
              · obtain ⟨rfl, rfl⟩ := e5
                have e6 : t' = t9 := Option.some.inj (hb.symm.trans ha)
                subst e6
                have hz2 : v = some z := by simpa [hp_R, hp_sR] using hz
                rw [har.2.2]
                exact kx_okh hs z hz2
              · have hz2 : hp_R h b j = some z := by simpa [hp_R, hp_sR, e5] using hz
                exact hP.2.2.2 b t' j z hb hlt hkd hz2
          cases v with
          | none => exact va_WaastN G.1 G.2.1 hcell (hAr.1 _ _) (fun q => by cases q) (by rw [arrV_size]; exact hin) rfl rfl hd fin
          | some v =>
            have hv9 : hp_T h v = some t8 := kx_okh hs v rfl
            obtain ⟨-, r', hr', cellV, g1, g2, g3, -⟩ := (hP.1 v t8 hv9).2.2.1 h98
            have hcls := (G.2.2.2.2.2.2.1.2.1.1 t8 r9 hc9).2
            obtain ⟨kA, comp, k1, k2, k3, -⟩ := hAr.2
            have hcomp : comp = D.1 t8 := Option.some.inj (k3.symm.trans hcls.1)
            subst hcomp
            obtain ⟨kC, hkC, -⟩ := hcls.2
            exact W.aast G.1 G.2.1 hcell (fun q h => by cases h) (fun h => by cases h) k1 k2 rfl hkC ⟨hlo, by rw [arrV_size]; exact hlt⟩ g1 (fun q h => by rw [g3] at h; cases h) (by rw [g2]; exact hkC) (by rw [g2]; exact va_assign hcls) rfl rfl hd fin
  · cases hF
theorem kx_cv_ext {ι' : Nat → Nat} {v : kx_V} (ho : kx_ok h v) (hx : ∀ a t, hp_T h a = some t → ι' a = ι a) : kx_cv ι' v = kx_cv ι v := by
  rcases v with x | x | ⟨t, o⟩
  · rfl
  · rfl
  · cases o with
    | none => rfl
    | some a => show Value.ref (ι' a) = Value.ref (ι a); rw [hx a t (ho a rfl)]
theorem kx_lc_ext {ι' : Nat → Nat} {lv : kx_L} (ho : ∀ q ∈ lv, kx_ok h q.2) (hx : ∀ a t, hp_T h a = some t → ι' a = ι a) : kx_lc ι' lv = kx_lc ι lv := by
  unfold kx_lc
  exact List.map_congr_left fun q hq => by rw [kx_cv_ext (ho q hq) hx]
theorem kx_st_ext {ι' : Nat → Nat} {st : List kx_V} (ho : ∀ v ∈ st, kx_ok h v) (hx : ∀ a t, hp_T h a = some t → ι' a = ι a) : st.map (kx_cv ι') = st.map (kx_cv ι) :=
  List.map_congr_left fun q hq => kx_cv_ext (ho q hq) hx
theorem kx_P_lt (hP : kx_P s0 D cA ι h H) (hz : s0.heap.size ≤ H.size) (ha : hp_T h a = some t) : ι a < H.size := by
  obtain ⟨-, g2, g3, g4⟩ := hP.1 a t ha
  rcases Nat.lt_trichotomy t 98 with z | z | z
  · obtain ⟨-, r, -, cell, q1, -⟩ := g3 z
    exact (Array.getElem?_eq_some_iff.mp q1).1
  · exact Nat.lt_of_lt_of_le (g2 z).2 hz
  · exact (Array.getElem?_eq_some_iff.mp (g4 z).2).1
/-- a cell more -/
def kx_io (ι : Nat → Nat) (x q : Nat) : Nat → Nat := fun b => if b = x then q else ι b
theorem kx_P_new {H' : Heap} {t n w : Nat} (hP : kx_P s0 D cA ι h H) (hz : s0.heap.size ≤ H.size) (he : H'.size = H.size + 1) (ho : ∀ q : Nat, q < H.size → H'[q]? = H[q]?) (ht : t ≠ 98)
    (h1 : t < 98 → ∃ r : vw_C, kx_cl[t]? = some r ∧ t_OB H.size (D.1 t) r.2.2 (D.2 t) H' (fun k => kx_val (kx_io ι (hp_X h) H.size) (hp_new h t n w) (hp_X h) (kx_ft t k).1 k))
    (h2 : 98 < t → H'[H.size]? = some (arrV (cA t) n (fun i => kx_val (kx_io ι (hp_X h) H.size) (hp_new h t n w) (hp_X h) (kx_ak t).1 i))) : kx_P s0 D cA (kx_io ι (hp_X h) H.size) (hp_new h t n w) H' := by
  have old : ∀ b u, hp_T h b = some u → b ≠ hp_X h := fun b u hb e => by have := (hP.1 b u hb).1; omega
  have tn : ∀ b, hp_T (hp_new h t n w) b = if b = hp_X h then some t else hp_T h b := fun b => rfl
  have tX : hp_T h (hp_X h) = none := by
    cases hq : hp_T h (hp_X h) with
    | none => rfl
    | some u => exact absurd rfl (old _ u hq)
  have io : ∀ b u, hp_T h b = some u → kx_io ι (hp_X h) H.size b = ι b := fun b u hb => by unfold kx_io; rw [if_neg (old b u hb)]
  have vi : ∀ b u, hp_T h b = some u → ∀ j, hp_I (hp_new h t n w) b j = hp_I h b j := fun b u hb j => by show (if b = hp_X h then _ else _) = _; rw [if_neg (old b u hb)]
  have vl : ∀ b u, hp_T h b = some u → ∀ j, hp_L (hp_new h t n w) b j = hp_L h b j := fun b u hb j => by show (if b = hp_X h then _ else _) = _; rw [if_neg (old b u hb)]
  have vr : ∀ b u, hp_T h b = some u → ∀ j, hp_R (hp_new h t n w) b j = hp_R h b j := fun b u hb j => by show (if b = hp_X h then _ else _) = _; rw [if_neg (old b u hb)]
  have vb : ∀ b u, hp_T h b = some u → ∀ j, hp_B (hp_new h t n w) b j = hp_B h b j := fun b u hb j => by show (if b = hp_X h then _ else _) = _; rw [if_neg (old b u hb)]
  have vn : ∀ b u, hp_T h b = some u → hp_N (hp_new h t n w) b = hp_N h b := fun b u hb => by show (if b = hp_X h then _ else _) = _; rw [if_neg (old b u hb)]
  have rn : ∀ j, hp_R (hp_new h t n w) (hp_X h) j = none := fun j => by show (if hp_X h = hp_X h then _ else _) = _; rw [if_pos rfl]
  have val : ∀ b u kd j, hp_T h b = some u → (kd = 2 → ∀ x, hp_R h b j = some x → ∃ y, hp_T h x = some y) → kx_val (kx_io ι (hp_X h) H.size) (hp_new h t n w) b kd j = kx_val ι h b kd j := by
    intro b u kd j hb hr
    rcases kd with _ | _ | _ | kd
    · show Value.int _ = Value.int _; rw [vi b u hb]
    · show Value.long _ = Value.long _; rw [vl b u hb]
    · show va_rf ((hp_R _ b j).map _) = va_rf ((hp_R h b j).map _)
      rw [vr b u hb]
      cases hx : hp_R h b j with
      | none => rfl
      | some x =>
        obtain ⟨y, hy⟩ := hr rfl x hx
        show va_rf (some (kx_io ι _ _ x)) = va_rf (some (ι x))
        rw [io x y hy]
    · show Value.int (kx_b _) = Value.int (kx_b _); rw [vb b u hb]
  refine ⟨fun b u hb => ?_, fun b c9 u u' hb hc' hq => ?_, fun b u k9 x hb hlt hkd hx => ?_, fun b u k9 x hb hlt hkd hx => ?_⟩
  · rw [tn] at hb
    by_cases e : b = hp_X h
    · subst e
      rw [if_pos rfl] at hb
      cases hb
      have ioX : kx_io ι (hp_X h) H.size (hp_X h) = H.size := by unfold kx_io; rw [if_pos rfl]
      refine ⟨Nat.lt_succ_self _, fun z => absurd z ht, fun z => ?_, fun z => ?_⟩
      · rw [ioX]; exact ⟨hz, h1 z⟩
      · rw [ioX]
        refine ⟨hz, ?_⟩
        rw [show hp_N (hp_new h t n w) (hp_X h) = n from by show (if hp_X h = hp_X h then _ else _) = _; rw [if_pos rfl]]
        exact h2 z
    · rw [if_neg e] at hb
      obtain ⟨g1, g2, g3, g4⟩ := hP.1 b u hb
      have hlt := kx_P_lt hP hz hb
      have hio := io b u hb
      refine ⟨Nat.lt_succ_of_lt g1, fun z => ?_, fun z => ?_, fun z => ?_⟩
      · obtain ⟨x1, x2⟩ := g2 z
        rw [hio, vn b u hb, show hp_I (hp_new h t n w) b = hp_I h b from funext (vi b u hb)]
        exact ⟨x1.kept (ho _ hlt), x2⟩
      · obtain ⟨x0, r', x1, x2⟩ := g3 z
        rw [hio]
        exact ⟨x0, r', x1, (x2.kept (ho _ hlt)).to (fun j _ => (val b u _ j hb (fun e2 x hx => ⟨_, hP.2.2.1 b u j x hb z e2 hx⟩)).symm)⟩
      · obtain ⟨x0, x1⟩ := g4 z
        rw [hio]
        refine ⟨x0, ?_⟩
        rw [ho _ hlt, x1, vn b u hb]
        congr 2
        funext j
        exact (val b u _ j hb (fun e2 x hx => ⟨_, hP.2.2.2 b u j x hb z e2 hx⟩)).symm
  · rw [tn] at hb hc'
    by_cases e : b = hp_X h
    · by_cases e2 : c9 = hp_X h
      · rw [e, e2]
      · rw [if_neg e2] at hc'
        have := kx_P_lt hP hz hc'
        rw [io c9 u' hc', e] at hq
        unfold kx_io at hq
        rw [if_pos rfl] at hq
        omega
    · rw [if_neg e] at hb
      by_cases e2 : c9 = hp_X h
      · have := kx_P_lt hP hz hb
        rw [io b u hb, e2] at hq
        unfold kx_io at hq
        rw [if_pos rfl] at hq
        omega
      · rw [if_neg e2] at hc'
        rw [io b u hb, io c9 u' hc'] at hq
        exact hP.2.1 b c9 u u' hb hc' hq
  · rw [tn] at hb
    by_cases e : b = hp_X h
    · rw [e, rn] at hx; cases hx
    · rw [if_neg e] at hb
      rw [vr b u hb] at hx
      have hy := hP.2.2.1 b u k9 x hb hlt hkd hx
      rw [tn, if_neg (old x _ hy)]
      exact hy
  · rw [tn] at hb
    by_cases e : b = hp_X h
    · rw [e, rn] at hx; cases hx
    · rw [if_neg e] at hb
      rw [vr b u hb] at hx
      have hy := hP.2.2.2 b u k9 x hb hlt hkd hx
      rw [tn, if_neg (old x _ hy)]
      exact hy
def kx_dv (kd : Nat) : Value := match kd with
  | 0 => .int 0
  | 1 => .long 0
  | 2 => .null
  | _ => .int 0
theorem kx_val_new {x : Nat} {t n w kd j : Nat} : kx_val (kx_io ι (hp_X h) x) (hp_new h t n w) (hp_X h) kd j = kx_dv kd := by
  rcases kd with _ | _ | _ | kd
  · show Value.int (if hp_X h = hp_X h then _ else _) = _; rw [if_pos rfl]; rfl
  · show Value.long (if hp_X h = hp_X h then _ else _) = _; rw [if_pos rfl]; rfl
  · show va_rf ((if hp_X h = hp_X h then none else _).map _) = _; rw [if_pos rfl]; rfl
  · show Value.int (kx_b (if hp_X h = hp_X h then _ else _)) = _; rw [if_pos rfl]; rfl
theorem kx_old (hP : kx_P s0 D cA ι h H) {x : Nat} : ∀ a t, hp_T h a = some t → kx_io ι (hp_X h) x a = ι a := fun a t ha => by
  have := (hP.1 a t ha).1
  unfold kx_io
  rw [if_neg (by omega)]
theorem kx_tnew (hP : kx_P s0 D cA ι h H) {t n w : Nat} : ∀ a u, hp_T h a = some u → hp_T (hp_new h t n w) a = some u := fun a u ha => by
  have := (hP.1 a u ha).1
  show (if a = hp_X h then _ else _) = _
  rw [if_neg (by omega)]
  exact ha
theorem kx_ok_new (hP : kx_P s0 D cA ι h H) {t n w : Nat} {v : kx_V} (ho : kx_ok h v) : kx_ok (hp_new h t n w) v := by
  rcases v with x | x | ⟨u, o⟩
  · trivial
  · trivial
  · exact fun a ha => kx_tnew hP a u (ho a ha)
/-- the world behind a new cell, for the rest of the walk -/
theorem kx_go_new (G : kx_G p e R s m args meth c s0 D cA cc own nL h0) {t n w : Nat} {lv : kx_L} {st : List kx_V} (hk : kx_Sn p l e R s m args below meth c s0 D cA nL ι0 h0 rr hf (pc + i) k) (hF : k lv (.inr (.inr (t, some (hp_X h))) :: st) (hp_new h t n w) = some (rr, hf)) (hP : kx_P s0 D cA ι h H) (hA : ∀ a t, hp_T h a = some t → t ≠ 98 → kx_A s0 s (ι a)) (hl : lv_has ls nL (kx_lc ι lv)) (hs : ∀ v ∈ st, kx_ok h v) (hv : ∀ q ∈ lv, kx_ok h q.2) (hS : va_S (kx_A s0 s) s.heap H locs)
    (hC : hp_C h0 + cells = hp_C h) (hU : hp_U h0 + slots = hp_U h) (hI : ∀ a, a < hp_X h0 → ι a = ι0 a) (hE : kx_le h0 h) (hroom : hp_C h + 1 ≤ kx_cc ∧ hp_U h + w ≤ kx_cs) {H' : Heap} (he : H'.size = H.size + 1) (ho : ∀ q : Nat, q < H.size → H'[q]? = H[q]?) (hP' : kx_P s0 D cA (kx_io ι (hp_X h) H.size) (hp_new h t n w) H') :
    W p l e R s m args below meth c H' locs (cells + 1) (slots + w) (kx_Q s0 D cA below s ι0 h0 rr hf) (F0 m (pc + i) ls (.ref H.size :: st.map (kx_cv ι))) := by
  have hB := G.2.2.2.2.2.2.1
  have hnT : hp_T (hp_new h t n w) (hp_X h) = some t := by show (if hp_X h = hp_X h then _ else _) = _; rw [if_pos rfl]
  have h1 := hk _ _ _ hF (kx_io ι (hp_X h) H.size) H' locs (cells + 1) (slots + w) ls hP' (fun b u hb hu => ?_) (by rw [kx_lc_ext hv (kx_old hP)]; exact hl) (kx_ok2 (fun b hb => by cases hb; exact hnT) (fun v hv9 => kx_ok_new hP (hs v hv9))) (fun q hq => kx_ok_new hP (hv q hq)) ⟨by rw [he]; exact Nat.le_succ_of_le hS.1, fun q g1 g2 => by rw [ho q (Nat.lt_of_lt_of_le g1 hS.1)]; exact hS.2.1 q g1 g2, hS.2.2⟩
    (by show hp_C h0 + (cells + 1) = hp_C h + 1; omega) (by show hp_U h0 + (slots + w) = hp_U h + w; omega) (fun b hb => ?_) ⟨Nat.le_succ_of_le hE.1, fun b u hb => kx_tnew hP b u (hE.2.1 b u hb), hroom.1, hroom.2⟩
  · rw [List.map_cons, kx_st_ext hs (kx_old hP)] at h1
    have h2 : kx_cv (kx_io ι (hp_X h) H.size) (.inr (.inr (t, some (hp_X h)))) = .ref H.size := by
      show Value.ref (if hp_X h = hp_X h then _ else _) = _
      rw [if_pos rfl]
    rw [h2] at h1
    exact h1
  · by_cases e : b = hp_X h
    · subst e
      unfold kx_io
      rw [if_pos rfl]
      exact ⟨Nat.le_trans hB.2.2.2.1 hS.1, fun cell hc => by rw [Array.getElem?_eq_none hS.1] at hc; cases hc⟩
    · have hb2 : hp_T h b = some u := by
        have z : (if b = hp_X h then some t else hp_T h b) = some u := hb
        rw [if_neg e] at z
        exact z
      rw [kx_old hP b u hb2]
      exact hA b u hb2 hu
  · have := hE.1
    unfold kx_io
    rw [if_neg (by omega)]
    exact hI b hb
theorem kx_s_new (G : kx_G p e R s m args meth c s0 D cA cc own nL h0) {w : Nat} (hc : kx_cl[t]? = some r) (h98 : t < 98) (hw : w = r.2.2) (hin : ∀ w ∈ u_ws r.1 r.2.1 r.2.2, w ∈ kx_WS) (ty : Nat → FieldType) (hty : ∀ k, k < r.2.2 → parseFieldDescriptor (r.2.1 k).2.2.1 = some (ty k)) (hdv : ∀ k, k < r.2.2 → defaultValue (ty k) = kx_dv (kx_ft t k).1)
    (h1 : Cond.classLink own i r.1 ∈ kx_WS) (h2 : Cond.instantiable r.1 r.2.2 ∈ kx_WS) (h3 : Cond.initialized r.1 ∈ kx_WS) (hd : decode cc pc = .ok (.new i, 3)) (hk : kx_Sn p l e R s m args below meth c s0 D cA nL ι0 h0 rr hf (pc + 3) k) : kx_Sn p l e R s m args below meth c s0 D cA nL ι0 h0 rr hf pc (kx_new kx_cc kx_cs t w k) := by
  intro lv st h hF
  unfold kx_new at hF
  split at hF
  · rename_i hroom
    intro ι H locs cells slots ls hP hA hl hs hv hS hC hU hI hE
    obtain ⟨hx, hb, hown, -, -, hts, hB, hcc, hcs⟩ := id G
    have hKn := hB.2.1.1 t r hc
    subst hw
    refine W.newcK hx hb hown (hts _ h1) (hts _ h2) (hts _ h3) rfl hd (by omega) (by omega) hKn.2.1 rfl fun H' kC hkC e1 e2 e3 => ?_
    have hz : s0.heap.size ≤ H.size := Nat.le_trans hB.2.2.2.1 hS.1
    refine kx_go_new G hk hF hP hA hl hs hv hS hC hU hI hE hroom e2 e3 (kx_P_new hP hz e2 e3 (by omega) (fun _ => ⟨r, hc, (u_born ty hts hin hKn hkC e1 hty).to (fun j hj => ?_)⟩) (fun z => absurd z (by omega)))
    rw [kx_val_new]
    exact hdv j hj
  · cases hF
theorem kx_s_newa (G : kx_G p e R s m args meth c s0 D cA cc own nL h0) {kd c9 : Nat} {ty : FieldType} {at9 : ArrayType} (har : kx_ar t kd c9 ty) (hat : newarray.typeOf at9 = ty) (hby : componentBytes ty ≤ 8) (hdv : defaultValue ty = kx_dv kd) (hnob : ∀ n, ty ≠ .object n) (h1 : Cond.arrayClass ty ∈ kx_WS) (hd : decode cc pc = .ok (.newarray at9, 2)) (hk : kx_Sn p l e R s m args below meth c s0 D cA nL ι0 h0 rr hf (pc + 2) k) : kx_Sn p l e R s m args below meth c s0 D cA nL ι0 h0 rr hf pc (kx_newa kx_cc kx_cs t k) := by
  intro lv st h hF
  unfold kx_newa at hF
  split at hF
  · rename_i n r9
    split at hF
    · cases hF
    · rename_i hn
      split at hF
      · rename_i hroom
        intro ι H locs cells slots ls hP hA hl hs hv hS hC hU hI hE
        obtain ⟨hx, hb, hown, -, -, hts, hB, hcc, hcs⟩ := id G
        subst hat
        have hn0 : ¬ n < 0 := fun z => hn (Or.inl z)
        have hn1 : n.toNatClampNeg ≤ 60000000 := Nat.not_lt.mp fun z => hn (Or.inr z)
        refine va_newaK hx hb (hts _ h1) rfl hd rfl hn0 rfl (Nat.le_trans (Nat.mul_le_mul hn1 hby) (by decide)) (by omega) (by omega) rfl fun H' cA9 e1 e2 e3 _ hnm => ?_
        have hz : s0.heap.size ≤ H.size := Nat.le_trans hB.2.2.2.1 hS.1
        have hcl : cA9 = cA t := by
          have z := (hB.2.1.2 _ _ (har.1 cA)).2
          cases hq : newarray.typeOf at9 with
          | object n9 => exact absurd hq (hnob n9)
          | _ =>
            rw [hq] at z hnm
            exact Option.some.inj (hnm.symm.trans z)
        subst hcl
        refine kx_go_new (i := 2) (n := n.toNatClampNeg) G hk hF hP hA hl (kx_okt hs) hv hS hC hU hI hE hroom e2 e3 (kx_P_new hP hz e2 e3 (by have := har.2.1; omega) (fun z => absurd z (by have := har.2.1; omega)) (fun _ => e1.trans ?_))
        congr 2
        funext j
        rw [kx_val_new, har.2.2, hdv]
      · cases hF
  · cases hF
theorem kx_s_anew (G : kx_G p e R s m args meth c s0 D cA cc own nL h0) {c9 : Nat} {r9 : vw_C} (har : kx_ar t 2 c9 (.object r9.1)) (h1 : Cond.classLink own i r9.1 ∈ kx_WS) (h2 : Cond.arrayOver (.object r9.1) ∈ kx_WS) (hd : decode cc pc = .ok (.anewarray i, 3)) (hk : kx_Sn p l e R s m args below meth c s0 D cA nL ι0 h0 rr hf (pc + 3) k) : kx_Sn p l e R s m args below meth c s0 D cA nL ι0 h0 rr hf pc (kx_newa kx_cc kx_cs t k) := by
  intro lv st h hF
  unfold kx_newa at hF
  split at hF
  · rename_i n r8
    split at hF
    · cases hF
    · rename_i hn
      split at hF
      · rename_i hroom
        intro ι H locs cells slots ls hP hA hl hs hv hS hC hU hI hE
        obtain ⟨hx, hb, hown, -, -, hts, hB, hcc, hcs⟩ := id G
        have hn0 : ¬ n < 0 := fun z => hn (Or.inl z)
        have hn1 : n.toNatClampNeg ≤ 60000000 := Nat.not_lt.mp fun z => hn (Or.inr z)
        refine W.anew hx hb hown (hts _ h1) (hts _ h2) rfl hd rfl hn0 (by omega) (by omega) (by omega) fun cA9 kA comp f1 f2 f3 f4 => ?_
        have hz : s0.heap.size ≤ H.size := Nat.le_trans hB.2.2.2.1 hS.1
        have hcl : cA9 = cA t := by
          obtain ⟨-, -, -, -, -, z⟩ := (hB.2.1.2 _ _ (har.1 cA)).2
          exact Option.some.inj (f1.symm.trans z)
        subst hcl
        generalize hH1 : H.push ({ cls := cA t, slots := Array.replicate n.toNatClampNeg .null, vm := .none } : Cell) = H'
        have e2 : H'.size = H.size + 1 := by rw [← hH1, Array.size_push]
        have e1 : H'[H.size]? = some (arrV (cA t) n.toNatClampNeg (fun _ => .null)) := by rw [← hH1, Array.getElem?_push_size, ← arrV_new]
        have e3 : ∀ q : Nat, q < H.size → H'[q]? = H[q]? := fun q hq => by rw [← hH1, Array.getElem?_push, if_neg (Nat.ne_of_lt hq)]
        refine kx_go_new (i := 3) (n := n.toNatClampNeg) G hk hF hP hA hl (kx_okt hs) hv hS hC hU hI hE hroom e2 e3 (kx_P_new hP hz e2 e3 (by have := har.2.1; omega) (fun z => absurd z (by have := har.2.1; omega)) (fun _ => e1.trans ?_))
        congr 2
        funext j
        rw [kx_val_new, har.2.2]
        rfl
      · cases hF
  · cases hF
end KA
