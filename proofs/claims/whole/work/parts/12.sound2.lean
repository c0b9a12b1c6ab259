theorem kx_nrf {ty : FieldType} (h : ty.isReference = true) (o : Option Nat) : narrow ty (va_rf o) = va_rf o := by
  cases ty <;> first | (cases o <;> rfl) | cases h
theorem kx_frf {ty : FieldType} (h : ty.isReference = true) (o : Option Nat) : fits ty (va_rf o) = true := by
  cases ty <;> first | (cases o <;> rfl) | cases h
theorem kx_v0 (ι : Nat → Nat) (h : kx_H) (a k : Nat) (v : Int32) (b kd j : Nat) : kx_val ι (hp_sI h a k v) b kd j = if kd = 0 ∧ b = a ∧ j = k then .int v else kx_val ι h b kd j := by
  rcases kd with _ | _ | _ | kd
  · show Value.int (if b = a ∧ j = k then v else _) = _
    by_cases hq : b = a ∧ j = k
    · rw [if_pos hq, if_pos ⟨rfl, hq⟩]
    · rw [if_neg hq, if_neg (fun z => hq z.2)]; rfl
  · rw [if_neg (fun z => by cases z.1)]; rfl
  · rw [if_neg (fun z => by cases z.1)]; rfl
  · rw [if_neg (fun z => by cases z.1)]; rfl
theorem kx_v1 (ι : Nat → Nat) (h : kx_H) (a k : Nat) (v : Int64) (b kd j : Nat) : kx_val ι (hp_sL h a k v) b kd j = if kd = 1 ∧ b = a ∧ j = k then .long v else kx_val ι h b kd j := by
  rcases kd with _ | _ | _ | kd
  · rw [if_neg (fun z => by cases z.1)]; rfl
  · show Value.long (if b = a ∧ j = k then v else _) = _
    by_cases hq : b = a ∧ j = k
    · rw [if_pos hq, if_pos ⟨rfl, hq⟩]
    · rw [if_neg hq, if_neg (fun z => hq z.2)]; rfl
  · rw [if_neg (fun z => by cases z.1)]; rfl
  · rw [if_neg (fun z => by cases z.1)]; rfl
theorem kx_v2 (ι : Nat → Nat) (h : kx_H) (a k : Nat) (v : Option Nat) (b kd j : Nat) : kx_val ι (hp_sR h a k v) b kd j = if kd = 2 ∧ b = a ∧ j = k then va_rf (v.map ι) else kx_val ι h b kd j := by
  rcases kd with _ | _ | _ | kd
  · rw [if_neg (fun z => by cases z.1)]; rfl
  · rw [if_neg (fun z => by cases z.1)]; rfl
  · show va_rf ((if b = a ∧ j = k then v else _).map ι) = _
    by_cases hq : b = a ∧ j = k
    · rw [if_pos hq, if_pos ⟨rfl, hq⟩]
    · rw [if_neg hq, if_neg (fun z => hq z.2)]; rfl
  · rw [if_neg (fun z => by cases z.1)]; rfl
theorem kx_v3 (ι : Nat → Nat) (h : kx_H) (a k : Nat) (v : Bool) (b kd j : Nat) : kx_val ι (hp_sB h a k v) b kd j = if 2 < kd ∧ b = a ∧ j = k then .int (kx_b v) else kx_val ι h b kd j := by
  rcases kd with _ | _ | _ | kd
  · rw [if_neg (fun z => by omega)]; rfl
  · rw [if_neg (fun z => by omega)]; rfl
  · rw [if_neg (fun z => by omega)]; rfl
  · show Value.int (kx_b (if b = a ∧ j = k then v else _)) = _
    by_cases hq : b = a ∧ j = k
    · rw [if_pos hq, if_pos ⟨by omega, hq⟩]
    · rw [if_neg hq, if_neg (fun z => hq z.2)]; rfl
theorem kx_updV {V : Nat → Value} {k : Nat} {v : Value} (j : Nat) : updV V k v j = if j = k then v else V j := by
  by_cases hj : j = k
  · subst hj; simp [updV]
  · simp [updV, hj]
/-- an object's cell is written -/
theorem kx_P_set {s0 : State} {D : va_G} {cA : Nat → ClassId} {ι : Nat → Nat} {h h' : kx_H} {H H' : Heap} {a t : Nat} {r : vw_C} (hP : kx_P s0 D cA ι h H) (ha : hp_T h a = some t) (ht : t < 98) (hc : kx_cl[t]? = some r)
    (hob : t_OB (ι a) (D.1 t) r.2.2 (D.2 t) H' (fun k => kx_val ι h' a (kx_ft t k).1 k)) (hq : ∀ q : Nat, q ≠ ι a → H'[q]? = H[q]?) (hT : hp_T h' = hp_T h) (hN : hp_N h' = hp_N h) (hX : hp_X h' = hp_X h)
    (ho : ∀ b, b ≠ a → ∀ kd k, kx_val ι h' b kd k = kx_val ι h b kd k) (hIo : ∀ b, b ≠ a → hp_I h' b = hp_I h b)
    (hR1 : ∀ b t' k c, hp_T h b = some t' → t' < 98 → (kx_ft t' k).1 = 2 → hp_R h' b k = some c → hp_T h c = some (kx_ft t' k).2)
    (hR2 : ∀ b t' k c, hp_T h b = some t' → 98 < t' → (kx_ak t').1 = 2 → hp_R h' b k = some c → hp_T h c = some (kx_ak t').2) : kx_P s0 D cA ι h' H' := by
  refine ⟨fun b t' hb => ?_, ?_, ?_, ?_⟩
  · rw [hT] at hb
    by_cases e : b = a
    · subst e
      have e2 : t' = t := Option.some.inj (hb.symm.trans ha)
      subst e2
      exact ⟨by rw [hX]; exact (hP.1 b _ hb).1, fun z => absurd z (by omega), fun _ => ⟨((hP.1 b _ hb).2.2.1 ht).1, r, hc, hob⟩, fun z => absurd z (by omega)⟩
    · have hne : ι b ≠ ι a := fun z => e (hP.2.1 b a t' t hb ha z)
      obtain ⟨g1, g2, g3, g4⟩ := hP.1 b t' hb
      refine ⟨by rw [hX]; exact g1, fun z => ?_, fun z => ?_, fun z => ?_⟩
      · obtain ⟨x1, x2⟩ := g2 z
        rw [hN, hIo b e]
        exact ⟨x1.kept (hq _ hne), x2⟩
      · obtain ⟨x0, r', x1, x2⟩ := g3 z
        exact ⟨x0, r', x1, (x2.kept (hq _ hne)).to (fun k _ => (ho b e _ k).symm)⟩
      · obtain ⟨x0, x1⟩ := g4 z
        refine ⟨x0, ?_⟩
        rw [hq _ hne, x1, hN]
        simp only [ho b e]
  · intro b c t' u hb hc'
    rw [hT] at hb hc'
    exact hP.2.1 b c t' u hb hc'
  · intro b t' k c hb
    rw [hT] at hb ⊢
    exact hR1 b t' k c hb
  · intro b t' k c hb
    rw [hT] at hb ⊢
    exact hR2 b t' k c hb
/-- an array's cell is written -/
theorem kx_P_arr {s0 : State} {D : va_G} {cA : Nat → ClassId} {ι : Nat → Nat} {h h' : kx_H} {H H' : Heap} {a t : Nat} (hP : kx_P s0 D cA ι h H) (ha : hp_T h a = some t) (ht : 98 < t)
    (hob : H'[ι a]? = some (arrV (cA t) (hp_N h a) (fun i => kx_val ι h' a (kx_ak t).1 i))) (hq : ∀ q : Nat, q ≠ ι a → H'[q]? = H[q]?) (hT : hp_T h' = hp_T h) (hN : hp_N h' = hp_N h) (hX : hp_X h' = hp_X h)
    (ho : ∀ b, b ≠ a → ∀ kd k, kx_val ι h' b kd k = kx_val ι h b kd k) (hIo : ∀ b, b ≠ a → hp_I h' b = hp_I h b)
    (hR1 : ∀ b t' k c, hp_T h b = some t' → t' < 98 → (kx_ft t' k).1 = 2 → hp_R h' b k = some c → hp_T h c = some (kx_ft t' k).2)
    (hR2 : ∀ b t' k c, hp_T h b = some t' → 98 < t' → (kx_ak t').1 = 2 → hp_R h' b k = some c → hp_T h c = some (kx_ak t').2) : kx_P s0 D cA ι h' H' := by
  refine ⟨fun b t' hb => ?_, ?_, ?_, ?_⟩
  · rw [hT] at hb
    by_cases e : b = a
    · subst e
      have e2 : t' = t := Option.some.inj (hb.symm.trans ha)
      subst e2
      exact ⟨by rw [hX]; exact (hP.1 b _ hb).1, fun z => absurd z (by omega), fun z => absurd z (by omega), fun _ => ⟨((hP.1 b _ hb).2.2.2 ht).1, by rw [hN]; exact hob⟩⟩
    · have hne : ι b ≠ ι a := fun z => e (hP.2.1 b a t' t hb ha z)
      obtain ⟨g1, g2, g3, g4⟩ := hP.1 b t' hb
      refine ⟨by rw [hX]; exact g1, fun z => ?_, fun z => ?_, fun z => ?_⟩
      · obtain ⟨x1, x2⟩ := g2 z
        rw [hN, hIo b e]
        exact ⟨x1.kept (hq _ hne), x2⟩
      · obtain ⟨x0, r', x1, x2⟩ := g3 z
        exact ⟨x0, r', x1, (x2.kept (hq _ hne)).to (fun k _ => (ho b e _ k).symm)⟩
      · obtain ⟨x0, x1⟩ := g4 z
        refine ⟨x0, ?_⟩
        rw [hq _ hne, x1, hN]
        simp only [ho b e]
  · intro b c t' u hb hc'
    rw [hT] at hb hc'
    exact hP.2.1 b c t' u hb hc'
  · intro b t' k c hb
    rw [hT] at hb ⊢
    exact hR1 b t' k c hb
  · intro b t' k c hb
    rw [hT] at hb ⊢
    exact hR2 b t' k c hb
section KT
variable {p : Program} {l : Launch} {e : Env} {R : Room} {s : State} {m : MethodId} {args : Array Value} {below : List Frame} {meth : Method} {c : Code} {H : Heap} {locs : List Loc} {cells slots : Nat} {Q : State → Prop}
variable {s0 : State} {D : va_G} {cA : Nat → ClassId} {cc : ByteArray} {own : String} {nL : Nat} {ι ι0 : Nat → Nat} {h h0 hf : kx_H} {rr : kx_R} {pc : Nat} {k : kx_F} {ls : Array Slot} {rest : List Value} {a t i : Nat} {r : vw_C}
/-- a field of a class: its place, its link -/
def kx_fd (own : String) (i t q kd cc : Nat) (r : vw_C) : Prop := kx_cl[t]? = some r ∧ q < r.2.2 ∧ t < 98 ∧ Cond.fieldLink own i (r.2.1 q).1 (r.2.1 q).2.1 (r.2.1 q).2.2.1 ∈ kx_WS ∧ (∀ w ∈ u_ws r.1 r.2.1 r.2.2, w ∈ kx_WS) ∧ kx_ft t q = (kd, cc)
theorem kx_wget (G : kx_G p e R s m args meth c s0 D cA cc own nL h0) {q kd c9 : Nat} (hf9 : kx_fd own i t q kd c9 r) (hd : decode cc pc = .ok (.getfield i, 3)) (hP : kx_P s0 D cA ι h H) (ha : hp_T h a = some t) (kk : W p l e R s m args below meth c H locs cells slots Q (F0 m (pc + 3) ls (kx_val ι h a kd q :: rest))) : W p l e R s m args below meth c H locs cells slots Q (F0 m pc ls (.ref (ι a) :: rest)) := by
  obtain ⟨hc, hq, ht, hw, hin, hft⟩ := hf9
  obtain ⟨hx, hb, hown, -, -, hts, ⟨-, hK, -, -, -⟩, -, -⟩ := G
  obtain ⟨-, r', hr', cell, q1, q2, q3, q4⟩ := (hP.1 a t ha).2.2.1 ht
  cases hc.symm.trans hr'
  obtain ⟨hS, hfc, kC, hkC, hkind⟩ := hK.1 t r hc
  obtain ⟨cf, kf, fi, f, hi, hsl⟩ := hS q hq
  refine W.getf hx hb hown (hts _ hw) hi (u_facts hfc hkC (u_lays hts hin hq) hi).1 q1 (by rw [q3]; exact fun z => by cases z) (v := kx_val ι h a kd q) ?_ rfl rfl hd kk
  rw [hsl, q4 q hq]
  show some (kx_val ι h a (kx_ft t q).1 q) = _
  rw [hft]
theorem kx_wput (G : kx_G p e R s m args meth c s0 D cA cc own nL h0) {q kd c9 : Nat} (hf9 : kx_fd own i t q kd c9 r) (hfin : (r.2.1 q).2.2.2 = false) {ty : FieldType} {v : Value} (hdt : parseFieldDescriptor (r.2.1 q).2.2.1 = some ty) (hn : narrow ty v = v) (hfit : fits ty v = true) (hd : decode cc pc = .ok (.putfield i, 3)) (hP : kx_P s0 D cA ι h H) (ha : hp_T h a = some t)
    (kk : ∀ H' : Heap, t_OB (ι a) (D.1 t) r.2.2 (D.2 t) H' (updV (fun j => kx_val ι h a (kx_ft t j).1 j) q v) → H'.size = H.size → (∀ z : Nat, z ≠ ι a → H'[z]? = H[z]?) → W p l e R s m args below meth c H' (locs ++ [⟨ι a, D.2 t q⟩]) cells slots Q (F0 m (pc + 3) ls rest)) : W p l e R s m args below meth c H locs cells slots Q (F0 m pc ls (v :: .ref (ι a) :: rest)) := by
  obtain ⟨hc, hq, ht, hw, hin, hft⟩ := hf9
  obtain ⟨hx, hb, hown, -, -, hts, ⟨-, hK, hap, -, -⟩, -, -⟩ := G
  obtain ⟨-, r', hr', cell, q1, q2, q3, q4⟩ := (hP.1 a t ha).2.2.1 ht
  cases hc.symm.trans hr'
  obtain ⟨hS, hfc, kC, hkC, hkind⟩ := hK.1 t r hc
  obtain ⟨cf, kf, fi, f, hi, hsl⟩ := hS q hq
  have hlay := hts _ (hin _ (u_in_lay hq))
  unfold u_lay at hlay
  rw [if_neg (by rw [hfin]; decide)] at hlay
  have hst := (u_facts hfc hkC (u_lays hts hin hq) hi).1
  have h6 := u_store hfc hkC hkind hlay hi hdt hn hfit
  refine W.putK hx hb (f := f) ⟨hown, hts _ hw, ⟨_, _, _, hi⟩, hst⟩ (by rw [q2]; exact h6) q1 q3 (by rw [hsl]; exact k2_hasslot (q4 q hq)) rfl rfl hd fun H' e1 e2 e3 => ?_
  rw [hsl] at e1 ⊢
  exact kk H' ⟨_, e1, q2, q3, t_set q4 (hap t r hc) hq v⟩ e2 e3
theorem kx_wputF (G : kx_G p e R s m args meth c s0 D cA cc own nL h0) {q kd c9 : Nat} (hf9 : kx_fd own i t q kd c9 r) (hfin : (r.2.1 q).2.2.2 = true) (hin2 : meth.name = "<init>") (hdecl : (r.2.1 q).1 = own) {ty : FieldType} {v : Value} (hdt : parseFieldDescriptor (r.2.1 q).2.2.1 = some ty) (hn : narrow ty v = v) (hfit : fits ty v = true) (hd : decode cc pc = .ok (.putfield i, 3)) (hP : kx_P s0 D cA ι h H) (ha : hp_T h a = some t)
    (kk : ∀ H' : Heap, t_OB (ι a) (D.1 t) r.2.2 (D.2 t) H' (updV (fun j => kx_val ι h a (kx_ft t j).1 j) q v) → H'.size = H.size → (∀ z : Nat, z ≠ ι a → H'[z]? = H[z]?) → W p l e R s m args below meth c H' (locs ++ [⟨ι a, D.2 t q⟩]) cells slots Q (F0 m (pc + 3) ls rest)) : W p l e R s m args below meth c H locs cells slots Q (F0 m pc ls (v :: .ref (ι a) :: rest)) := by
  obtain ⟨hc, hq, ht, hw, hin, hft⟩ := hf9
  obtain ⟨hx, hb, hown, -, -, hts, ⟨-, hK, hap, -, -⟩, -, -⟩ := G
  obtain ⟨-, r', hr', cell, q1, q2, q3, q4⟩ := (hP.1 a t ha).2.2.1 ht
  cases hc.symm.trans hr'
  obtain ⟨hS, hfc, kC, hkC, hkind⟩ := hK.1 t r hc
  obtain ⟨cf, kf, fi, f, hi, hsl⟩ := hS q hq
  have hlay := hts _ (hin _ (u_in_lay hq))
  unfold u_lay at hlay
  rw [if_pos hfin] at hlay
  have hst := (u_facts hfc hkC (u_lays hts hin hq) hi).1
  have hcf : m.cls = cf := by
    obtain ⟨_, _, c', _, _, _, -, -, hf', -, -, -, hown2, -⟩ := Cond.laysFinal_spec hlay
    have e1 : c' = cf := by have := hi.symm.trans hf'; simp at this; exact this.1.symm
    rw [hdecl] at hown2
    rw [← e1]; exact Option.some.inj (hown.symm.trans hown2)
  have h6 := u_fits hfc hkC hkind (Or.inr hlay) hi hdt hn hfit
  refine W.putFinK hx hb hown (hts _ hw) hi hst hcf hin2 (by rw [q2]; exact h6) q1 q3 (by rw [hsl]; exact k2_hasslot (q4 q hq)) rfl rfl hd fun H' e1 e2 e3 => ?_
  rw [hsl] at e1 ⊢
  exact kk H' ⟨_, e1, q2, q3, t_set q4 (hap t r hc) hq v⟩ e2 e3
theorem kx_s_gI (G : kx_G p e R s m args meth c s0 D cA cc own nL h0) {q c9 : Nat} (hf9 : kx_fd own i t q 0 c9 r) (hd : decode cc pc = .ok (.getfield i, 3)) (hk : kx_Sn p l e R s m args below meth c s0 D cA nL ι0 h0 rr hf (pc + 3) k) : kx_Sn p l e R s m args below meth c s0 D cA nL ι0 h0 rr hf pc (kx_gI t q k) := by
  intro lv st h hF
  unfold kx_gI at hF
  split at hF
  · rename_i x r9
    obtain ⟨t9, o9⟩ := x
    cases hq9 : Nat.beq t9 t with
    | false => rw [hq9] at hF; cases hF
    | true =>
      have e9 : t9 = t := Nat.eq_of_beq_eq_true hq9
      subst e9
      rw [hq9] at hF
      cases o9 with
      | none => cases hF
      | some a =>
        intro ι H locs cells slots ls hP hA hl hs hv hS hC hU hI hE
        have ha : hp_T h a = some t9 := kx_okh hs a rfl
        have hok : kx_ok h (kx_i 0) := by
          trivial
        exact kx_wget G hf9 hd hP ha (hk _ _ _ hF ι H locs cells slots ls hP hA hl (kx_ok2 trivial (kx_okt hs)) hv hS hC hU hI hE)
  · cases hF
theorem kx_s_gL (G : kx_G p e R s m args meth c s0 D cA cc own nL h0) {q c9 : Nat} (hf9 : kx_fd own i t q 1 c9 r) (hd : decode cc pc = .ok (.getfield i, 3)) (hk : kx_Sn p l e R s m args below meth c s0 D cA nL ι0 h0 rr hf (pc + 3) k) : kx_Sn p l e R s m args below meth c s0 D cA nL ι0 h0 rr hf pc (kx_gL t q k) := by
  intro lv st h hF
  unfold kx_gL at hF
  split at hF
  · rename_i x r9
    obtain ⟨t9, o9⟩ := x
    cases hq9 : Nat.beq t9 t with
    | false => rw [hq9] at hF; cases hF
    | true =>
      have e9 : t9 = t := Nat.eq_of_beq_eq_true hq9
      subst e9
      rw [hq9] at hF
      cases o9 with
      | none => cases hF
      | some a =>
        intro ι H locs cells slots ls hP hA hl hs hv hS hC hU hI hE
        have ha : hp_T h a = some t9 := kx_okh hs a rfl
        have hok : kx_ok h (kx_i 0) := by
          trivial
        exact kx_wget G hf9 hd hP ha (hk _ _ _ hF ι H locs cells slots ls hP hA hl (kx_ok2 trivial (kx_okt hs)) hv hS hC hU hI hE)
  · cases hF
theorem kx_s_gR (G : kx_G p e R s m args meth c s0 D cA cc own nL h0) {q c9 : Nat} (hf9 : kx_fd own i t q 2 c9 r) (hd : decode cc pc = .ok (.getfield i, 3)) (hk : kx_Sn p l e R s m args below meth c s0 D cA nL ι0 h0 rr hf (pc + 3) k) : kx_Sn p l e R s m args below meth c s0 D cA nL ι0 h0 rr hf pc (kx_gR t q c9 k) := by
  intro lv st h hF
  unfold kx_gR at hF
  split at hF
  · rename_i x r9
    obtain ⟨t9, o9⟩ := x
    cases hq9 : Nat.beq t9 t with
    | false => rw [hq9] at hF; cases hF
    | true =>
      have e9 : t9 = t := Nat.eq_of_beq_eq_true hq9
      subst e9
      rw [hq9] at hF
      cases o9 with
      | none => cases hF
      | some a =>
        intro ι H locs cells slots ls hP hA hl hs hv hS hC hU hI hE
        have ha : hp_T h a = some t9 := kx_okh hs a rfl
        have hok : kx_ok h (kx_r c9 (hp_R h a q)) := by
          intro b hb; have z := hP.2.2.1 a t9 q b ha hf9.2.2.1 (by rw [hf9.2.2.2.2.2]) hb; rw [hf9.2.2.2.2.2] at z; exact z
        exact kx_wget G hf9 hd hP ha (hk _ _ _ hF ι H locs cells slots ls hP hA hl (kx_ok2 hok (kx_okt hs)) hv hS hC hU hI hE)
  · cases hF
theorem kx_s_gB (G : kx_G p e R s m args meth c s0 D cA cc own nL h0) {q c9 : Nat} (hf9 : kx_fd own i t q 3 c9 r) (hd : decode cc pc = .ok (.getfield i, 3)) (hk : kx_Sn p l e R s m args below meth c s0 D cA nL ι0 h0 rr hf (pc + 3) k) : kx_Sn p l e R s m args below meth c s0 D cA nL ι0 h0 rr hf pc (kx_gB t q k) := by
  intro lv st h hF
  unfold kx_gB at hF
  split at hF
  · rename_i x r9
    obtain ⟨t9, o9⟩ := x
    cases hq9 : Nat.beq t9 t with
    | false => rw [hq9] at hF; cases hF
    | true =>
      have e9 : t9 = t := Nat.eq_of_beq_eq_true hq9
      subst e9
      rw [hq9] at hF
      cases o9 with
      | none => cases hF
      | some a =>
        intro ι H locs cells slots ls hP hA hl hs hv hS hC hU hI hE
        have ha : hp_T h a = some t9 := kx_okh hs a rfl
        have hok : kx_ok h (kx_i 0) := by
          trivial
        exact kx_wget G hf9 hd hP ha (hk _ _ _ hF ι H locs cells slots ls hP hA hl (kx_ok2 trivial (kx_okt hs)) hv hS hC hU hI hE)
  · cases hF
theorem kx_s_pI (G : kx_G p e R s m args meth c s0 D cA cc own nL h0) {q c9 : Nat} (hf9 : kx_fd own i t q 0 c9 r) (hfin : (r.2.1 q).2.2.2 = false) (hdt : parseFieldDescriptor (r.2.1 q).2.2.1 = some .int) (hd : decode cc pc = .ok (.putfield i, 3)) (hk : kx_Sn p l e R s m args below meth c s0 D cA nL ι0 h0 rr hf (pc + 3) k) : kx_Sn p l e R s m args below meth c s0 D cA nL ι0 h0 rr hf pc (kx_pI t q k) := by
  intro lv st h hF
  unfold kx_pI at hF
  split at hF
  · rename_i v x r9
    obtain ⟨t9, o9⟩ := x
    cases hq9 : Nat.beq t9 t with
    | false => rw [hq9] at hF; cases hF
    | true =>
      have e9 : t9 = t := Nat.eq_of_beq_eq_true hq9
      subst e9
      rw [hq9] at hF
      cases o9 with
      | none => cases hF
      | some a =>
        intro ι H locs cells slots ls hP hA hl hs hv hS hC hU hI hE
        have ha : hp_T h a = some t9 := kx_okh (kx_okt hs) a rfl
        refine kx_wput (v := Value.int v) G hf9 hfin hdt rfl rfl hd hP ha fun H' e1 e2 e3 => ?_
        refine hk _ _ _ hF ι H' _ cells slots ls (kx_P_set hP ha hf9.2.2.1 hf9.1 (e1.to (fun j _ => ?_)) e3 rfl rfl rfl (fun b hb kd j => ?_) ?_ (fun b t' j z hb hlt hkd hz => hP.2.2.1 b t' j z hb hlt hkd hz) (fun b t' j z hb hlt hkd hz => hP.2.2.2 b t' j z hb hlt hkd hz)) hA hl (kx_okt (kx_okt hs)) hv (hS.put e2 e3 (hA a t9 ha (by have := hf9.2.2.1; omega))) hC hU hI hE
        · rw [kx_updV, kx_v0]
          by_cases hj : j = q
          · subst hj
            rw [if_pos rfl, if_pos ⟨by rw [hf9.2.2.2.2.2], rfl, rfl⟩]
          · rw [if_neg hj, if_neg (fun z => hj z.2.2)]
        · rw [kx_v0, if_neg (fun z => hb z.2.1)]
        · intro b hb; funext j; show (if b = a ∧ j = q then v else hp_I h b j) = _; rw [if_neg (fun z => hb z.1)]
  · cases hF
theorem kx_s_pIF (G : kx_G p e R s m args meth c s0 D cA cc own nL h0) {q c9 : Nat} (hf9 : kx_fd own i t q 0 c9 r) (hfin : (r.2.1 q).2.2.2 = true) (hin2 : meth.name = "<init>") (hdecl : (r.2.1 q).1 = own) (hdt : parseFieldDescriptor (r.2.1 q).2.2.1 = some .int) (hd : decode cc pc = .ok (.putfield i, 3)) (hk : kx_Sn p l e R s m args below meth c s0 D cA nL ι0 h0 rr hf (pc + 3) k) : kx_Sn p l e R s m args below meth c s0 D cA nL ι0 h0 rr hf pc (kx_pI t q k) := by
  intro lv st h hF
  unfold kx_pI at hF
  split at hF
  · rename_i v x r9
    obtain ⟨t9, o9⟩ := x
    cases hq9 : Nat.beq t9 t with
    | false => rw [hq9] at hF; cases hF
    | true =>
      have e9 : t9 = t := Nat.eq_of_beq_eq_true hq9
      subst e9
      rw [hq9] at hF
      cases o9 with
      | none => cases hF
      | some a =>
        intro ι H locs cells slots ls hP hA hl hs hv hS hC hU hI hE
        have ha : hp_T h a = some t9 := kx_okh (kx_okt hs) a rfl
        refine kx_wputF (v := Value.int v) G hf9 hfin hin2 hdecl hdt rfl rfl hd hP ha fun H' e1 e2 e3 => ?_
        refine hk _ _ _ hF ι H' _ cells slots ls (kx_P_set hP ha hf9.2.2.1 hf9.1 (e1.to (fun j _ => ?_)) e3 rfl rfl rfl (fun b hb kd j => ?_) ?_ (fun b t' j z hb hlt hkd hz => hP.2.2.1 b t' j z hb hlt hkd hz) (fun b t' j z hb hlt hkd hz => hP.2.2.2 b t' j z hb hlt hkd hz)) hA hl (kx_okt (kx_okt hs)) hv (hS.put e2 e3 (hA a t9 ha (by have := hf9.2.2.1; omega))) hC hU hI hE
        · rw [kx_updV, kx_v0]
          by_cases hj : j = q
          · subst hj
            rw [if_pos rfl, if_pos ⟨by rw [hf9.2.2.2.2.2], rfl, rfl⟩]
          · rw [if_neg hj, if_neg (fun z => hj z.2.2)]
        · rw [kx_v0, if_neg (fun z => hb z.2.1)]
        · intro b hb; funext j; show (if b = a ∧ j = q then v else hp_I h b j) = _; rw [if_neg (fun z => hb z.1)]
  · cases hF
theorem kx_s_pL (G : kx_G p e R s m args meth c s0 D cA cc own nL h0) {q c9 : Nat} (hf9 : kx_fd own i t q 1 c9 r) (hfin : (r.2.1 q).2.2.2 = false) (hdt : parseFieldDescriptor (r.2.1 q).2.2.1 = some .long) (hd : decode cc pc = .ok (.putfield i, 3)) (hk : kx_Sn p l e R s m args below meth c s0 D cA nL ι0 h0 rr hf (pc + 3) k) : kx_Sn p l e R s m args below meth c s0 D cA nL ι0 h0 rr hf pc (kx_pL t q k) := by
  intro lv st h hF
  unfold kx_pL at hF
  split at hF
  · rename_i v x r9
    obtain ⟨t9, o9⟩ := x
    cases hq9 : Nat.beq t9 t with
    | false => rw [hq9] at hF; cases hF
    | true =>
      have e9 : t9 = t := Nat.eq_of_beq_eq_true hq9
      subst e9
      rw [hq9] at hF
      cases o9 with
      | none => cases hF
      | some a =>
        intro ι H locs cells slots ls hP hA hl hs hv hS hC hU hI hE
        have ha : hp_T h a = some t9 := kx_okh (kx_okt hs) a rfl
        refine kx_wput (v := Value.long v) G hf9 hfin hdt rfl rfl hd hP ha fun H' e1 e2 e3 => ?_
        refine hk _ _ _ hF ι H' _ cells slots ls (kx_P_set hP ha hf9.2.2.1 hf9.1 (e1.to (fun j _ => ?_)) e3 rfl rfl rfl (fun b hb kd j => ?_) ?_ (fun b t' j z hb hlt hkd hz => hP.2.2.1 b t' j z hb hlt hkd hz) (fun b t' j z hb hlt hkd hz => hP.2.2.2 b t' j z hb hlt hkd hz)) hA hl (kx_okt (kx_okt hs)) hv (hS.put e2 e3 (hA a t9 ha (by have := hf9.2.2.1; omega))) hC hU hI hE
        · rw [kx_updV, kx_v1]
          by_cases hj : j = q
          · subst hj
            rw [if_pos rfl, if_pos ⟨by rw [hf9.2.2.2.2.2], rfl, rfl⟩]
          · rw [if_neg hj, if_neg (fun z => hj z.2.2)]
        · rw [kx_v1, if_neg (fun z => hb z.2.1)]
        · intro b hb; rfl
  · cases hF
theorem kx_s_pLF (G : kx_G p e R s m args meth c s0 D cA cc own nL h0) {q c9 : Nat} (hf9 : kx_fd own i t q 1 c9 r) (hfin : (r.2.1 q).2.2.2 = true) (hin2 : meth.name = "<init>") (hdecl : (r.2.1 q).1 = own) (hdt : parseFieldDescriptor (r.2.1 q).2.2.1 = some .long) (hd : decode cc pc = .ok (.putfield i, 3)) (hk : kx_Sn p l e R s m args below meth c s0 D cA nL ι0 h0 rr hf (pc + 3) k) : kx_Sn p l e R s m args below meth c s0 D cA nL ι0 h0 rr hf pc (kx_pL t q k) := by
  intro lv st h hF
  unfold kx_pL at hF
  split at hF
  · rename_i v x r9
    obtain ⟨t9, o9⟩ := x
    cases hq9 : Nat.beq t9 t with
    | false => rw [hq9] at hF; cases hF
    | true =>
      have e9 : t9 = t := Nat.eq_of_beq_eq_true hq9
      subst e9
      rw [hq9] at hF
      cases o9 with
      | none => cases hF
      | some a =>
        intro ι H locs cells slots ls hP hA hl hs hv hS hC hU hI hE
        have ha : hp_T h a = some t9 := kx_okh (kx_okt hs) a rfl
        refine kx_wputF (v := Value.long v) G hf9 hfin hin2 hdecl hdt rfl rfl hd hP ha fun H' e1 e2 e3 => ?_
        refine hk _ _ _ hF ι H' _ cells slots ls (kx_P_set hP ha hf9.2.2.1 hf9.1 (e1.to (fun j _ => ?_)) e3 rfl rfl rfl (fun b hb kd j => ?_) ?_ (fun b t' j z hb hlt hkd hz => hP.2.2.1 b t' j z hb hlt hkd hz) (fun b t' j z hb hlt hkd hz => hP.2.2.2 b t' j z hb hlt hkd hz)) hA hl (kx_okt (kx_okt hs)) hv (hS.put e2 e3 (hA a t9 ha (by have := hf9.2.2.1; omega))) hC hU hI hE
        · rw [kx_updV, kx_v1]
          by_cases hj : j = q
          · subst hj
            rw [if_pos rfl, if_pos ⟨by rw [hf9.2.2.2.2.2], rfl, rfl⟩]
          · rw [if_neg hj, if_neg (fun z => hj z.2.2)]
        · rw [kx_v1, if_neg (fun z => hb z.2.1)]
        · intro b hb; rfl
  · cases hF
theorem kx_s_pR (G : kx_G p e R s m args meth c s0 D cA cc own nL h0) {q c9 : Nat} (hf9 : kx_fd own i t q 2 c9 r) (hfin : (r.2.1 q).2.2.2 = false) {ty : FieldType} (hdt : parseFieldDescriptor (r.2.1 q).2.2.1 = some ty) (hrf : ty.isReference = true) (hd : decode cc pc = .ok (.putfield i, 3)) (hk : kx_Sn p l e R s m args below meth c s0 D cA nL ι0 h0 rr hf (pc + 3) k) : kx_Sn p l e R s m args below meth c s0 D cA nL ι0 h0 rr hf pc (kx_pR t q c9 k) := by
  intro lv st h hF
  unfold kx_pR at hF
  split at hF
  · rename_i v x r9
    obtain ⟨t9, o9⟩ := x
    obtain ⟨t8, v⟩ := v
    cases hq9 : Nat.beq t9 t with
    | false => rw [hq9] at hF; cases hF
    | true =>
     cases hq8 : Nat.beq t8 c9 with
     | false => rw [hq9, hq8] at hF; cases hF
     | true =>
      have e8 : t8 = c9 := Nat.eq_of_beq_eq_true hq8
      subst e8
      have e9 : t9 = t := Nat.eq_of_beq_eq_true hq9
      subst e9
      rw [hq9, hq8] at hF
      cases o9 with
      | none => cases hF
      | some a =>
        intro ι H locs cells slots ls hP hA hl hs hv hS hC hU hI hE
        have ha : hp_T h a = some t9 := kx_okh (kx_okt hs) a rfl
        refine kx_wput (v := va_rf (v.map ι)) G hf9 hfin hdt (kx_nrf hrf _) (kx_frf hrf _) hd hP ha fun H' e1 e2 e3 => ?_
        refine hk _ _ _ hF ι H' _ cells slots ls (kx_P_set hP ha hf9.2.2.1 hf9.1 (e1.to (fun j _ => ?_)) e3 rfl rfl rfl (fun b hb kd j => ?_) ?_ (fun b t' j z hb hlt hkd hz => by
            by_cases e5 : b = a ∧ j = q
            · obtain ⟨rfl, rfl⟩ := e5
              have e6 : t' = t9 := Option.some.inj (hb.symm.trans ha)
              subst e6
              have hz2 : v = some z := by simpa [hp_R, hp_sR] using hz
              rw [hf9.2.2.2.2.2]
              exact kx_okh hs z hz2
            · have hz2 : hp_R h b j = some z := by simpa [hp_R, hp_sR, e5] using hz
              exact hP.2.2.1 b t' j z hb hlt hkd hz2) (fun b t' j z hb hlt hkd hz => by
            by_cases e5 : b = a ∧ j = q
            · obtain ⟨rfl, rfl⟩ := e5
              have e6 : t' = t9 := Option.some.inj (hb.symm.trans ha)
              have := hf9.2.2.1
              omega
            · have hz2 : hp_R h b j = some z := by simpa [hp_R, hp_sR, e5] using hz
              exact hP.2.2.2 b t' j z hb hlt hkd hz2)) hA hl (kx_okt (kx_okt hs)) hv (hS.put e2 e3 (hA a t9 ha (by have := hf9.2.2.1; omega))) hC hU hI hE
        · rw [kx_updV, kx_v2]
          by_cases hj : j = q
          · subst hj
            rw [if_pos rfl, if_pos ⟨by rw [hf9.2.2.2.2.2], rfl, rfl⟩]
          · rw [if_neg hj, if_neg (fun z => hj z.2.2)]
        · rw [kx_v2, if_neg (fun z => hb z.2.1)]
        · intro b hb; rfl
  · cases hF
theorem kx_s_pRF (G : kx_G p e R s m args meth c s0 D cA cc own nL h0) {q c9 : Nat} (hf9 : kx_fd own i t q 2 c9 r) (hfin : (r.2.1 q).2.2.2 = true) (hin2 : meth.name = "<init>") (hdecl : (r.2.1 q).1 = own) {ty : FieldType} (hdt : parseFieldDescriptor (r.2.1 q).2.2.1 = some ty) (hrf : ty.isReference = true) (hd : decode cc pc = .ok (.putfield i, 3)) (hk : kx_Sn p l e R s m args below meth c s0 D cA nL ι0 h0 rr hf (pc + 3) k) : kx_Sn p l e R s m args below meth c s0 D cA nL ι0 h0 rr hf pc (kx_pR t q c9 k) := by
  intro lv st h hF
  unfold kx_pR at hF
  split at hF
  · rename_i v x r9
    obtain ⟨t9, o9⟩ := x
    obtain ⟨t8, v⟩ := v
    cases hq9 : Nat.beq t9 t with
    | false => rw [hq9] at hF; cases hF
    | true =>
     cases hq8 : Nat.beq t8 c9 with
     | false => rw [hq9, hq8] at hF; cases hF
     | true =>
      have e8 : t8 = c9 := Nat.eq_of_beq_eq_true hq8
      subst e8
      have e9 : t9 = t := Nat.eq_of_beq_eq_true hq9
      subst e9
      rw [hq9, hq8] at hF
      cases o9 with
      | none => cases hF
      | some a =>
        intro ι H locs cells slots ls hP hA hl hs hv hS hC hU hI hE
        have ha : hp_T h a = some t9 := kx_okh (kx_okt hs) a rfl
        refine kx_wputF (v := va_rf (v.map ι)) G hf9 hfin hin2 hdecl hdt (kx_nrf hrf _) (kx_frf hrf _) hd hP ha fun H' e1 e2 e3 => ?_
        refine hk _ _ _ hF ι H' _ cells slots ls (kx_P_set hP ha hf9.2.2.1 hf9.1 (e1.to (fun j _ => ?_)) e3 rfl rfl rfl (fun b hb kd j => ?_) ?_ (fun b t' j z hb hlt hkd hz => by
            by_cases e5 : b = a ∧ j = q
            · obtain ⟨rfl, rfl⟩ := e5
              have e6 : t' = t9 := Option.some.inj (hb.symm.trans ha)
              subst e6
              have hz2 : v = some z := by simpa [hp_R, hp_sR] using hz
              rw [hf9.2.2.2.2.2]
              exact kx_okh hs z hz2
            · have hz2 : hp_R h b j = some z := by simpa [hp_R, hp_sR, e5] using hz
              exact hP.2.2.1 b t' j z hb hlt hkd hz2) (fun b t' j z hb hlt hkd hz => by
            by_cases e5 : b = a ∧ j = q
            · obtain ⟨rfl, rfl⟩ := e5
              have e6 : t' = t9 := Option.some.inj (hb.symm.trans ha)
              have := hf9.2.2.1
              omega
            · have hz2 : hp_R h b j = some z := by simpa [hp_R, hp_sR, e5] using hz
              exact hP.2.2.2 b t' j z hb hlt hkd hz2)) hA hl (kx_okt (kx_okt hs)) hv (hS.put e2 e3 (hA a t9 ha (by have := hf9.2.2.1; omega))) hC hU hI hE
        · rw [kx_updV, kx_v2]
          by_cases hj : j = q
          · subst hj
            rw [if_pos rfl, if_pos ⟨by rw [hf9.2.2.2.2.2], rfl, rfl⟩]
          · rw [if_neg hj, if_neg (fun z => hj z.2.2)]
        · rw [kx_v2, if_neg (fun z => hb z.2.1)]
        · intro b hb; rfl
  · cases hF
theorem kx_s_pB0 (G : kx_G p e R s m args meth c s0 D cA cc own nL h0) {q c9 : Nat} (hf9 : kx_fd own i t q 3 c9 r) (hfin : (r.2.1 q).2.2.2 = false) (hdt : parseFieldDescriptor (r.2.1 q).2.2.1 = some .boolean) (hd : decode cc pc = .ok (.putfield i, 3)) (hk : kx_Sn p l e R s m args below meth c s0 D cA nL ι0 h0 rr hf (pc + 3) k) {lv : kx_L} {r9 : List kx_V} {h : kx_H} {a : Nat} {b9 : Bool} (hF : k lv r9 (hp_sB h a q b9) = some (rr, hf)) : kx_Sm p l e R s m args below meth c s0 D cA nL ι0 h0 rr hf pc lv (kx_i (kx_b b9) :: kx_r t (some a) :: r9) h := by
  intro ι H locs cells slots ls hP hA hl hs hv hS hC hU hI hE
  have ha : hp_T h a = some t := kx_okh (kx_okt hs) a rfl
  refine kx_wput (v := .int (kx_b b9)) G hf9 hfin hdt (by cases b9 <;> decide) (by cases b9 <;> decide) hd hP ha fun H' e1 e2 e3 => ?_
  refine hk _ _ _ hF ι H' _ cells slots ls (kx_P_set hP ha hf9.2.2.1 hf9.1 (e1.to (fun j _ => ?_)) e3 rfl rfl rfl (fun b hb kd j => ?_) (fun b hb => rfl) (fun b t' j z hb hlt hkd hz => hP.2.2.1 b t' j z hb hlt hkd hz) (fun b t' j z hb hlt hkd hz => hP.2.2.2 b t' j z hb hlt hkd hz)) hA hl (kx_okt (kx_okt hs)) hv (hS.put e2 e3 (hA a t ha (by have := hf9.2.2.1; omega))) hC hU hI hE
  · rw [kx_updV, kx_v3]
    by_cases hj : j = q
    · subst hj
      rw [if_pos rfl, if_pos ⟨by rw [hf9.2.2.2.2.2]; exact (by decide : 2 < 3), rfl, rfl⟩]
    · rw [if_neg hj, if_neg (fun z => hj z.2.2)]
  · rw [kx_v3, if_neg (fun z => hb z.2.1)]
theorem kx_s_pB (G : kx_G p e R s m args meth c s0 D cA cc own nL h0) {q c9 : Nat} (hf9 : kx_fd own i t q 3 c9 r) (hfin : (r.2.1 q).2.2.2 = false) (hdt : parseFieldDescriptor (r.2.1 q).2.2.1 = some .boolean) (hd : decode cc pc = .ok (.putfield i, 3)) (hk : kx_Sn p l e R s m args below meth c s0 D cA nL ι0 h0 rr hf (pc + 3) k) : kx_Sn p l e R s m args below meth c s0 D cA nL ι0 h0 rr hf pc (kx_pB t q k) := by
  intro lv st h hF
  unfold kx_pB at hF
  split at hF
  · rename_i v x r9
    obtain ⟨t9, o9⟩ := x
    cases hq9 : Nat.beq t9 t with
    | false => rw [hq9] at hF; cases hF
    | true =>
      have e9 : t9 = t := Nat.eq_of_beq_eq_true hq9
      subst e9
      rw [hq9] at hF
      cases o9 with
      | none => cases hF
      | some a =>
        by_cases hv0 : v = 0
        · subst hv0
          exact kx_s_pB0 (b9 := false) G hf9 hfin hdt hd hk hF
        · by_cases hv1 : v = 1
          · subst hv1
            exact kx_s_pB0 (b9 := true) G hf9 hfin hdt hd hk hF
          · simp [hv0, hv1] at hF
  · cases hF
end KT
