def kx_wd (ps : List Nat) : Nat := match ps with
  | [] => 0
  | p :: ps => (bif Nat.beq p 1 then 2 else 1) + kx_wd ps
theorem kx_wd_ok {ι : Nat → Nat} {ps : List Nat} {vs : List kx_V} (h : kx_fits ps vs = true) : (lg_sl (vs.map (kx_cv ι))).length = kx_wd ps := by
  induction ps generalizing vs with
  | nil => cases vs with
    | nil => rfl
    | cons v vs => cases h
  | cons p ps ih => cases vs with
    | nil => cases h
    | cons v vs =>
      unfold kx_fits at h
      obtain ⟨h1, h2⟩ := kx_and h
      have h3 := ih h2
      unfold lg_sl at h3 ⊢
      rw [List.map_cons, List.flatMap_cons, List.length_append, h3]
      show _ = (bif Nat.beq p 1 then 2 else 1) + kx_wd ps
      congr 1
      rcases v with x | x | ⟨t, o⟩
      · have e1 : p = 0 := Nat.eq_of_beq_eq_true h1
        subst e1
        rfl
      · have e1 : p = 1 := Nat.eq_of_beq_eq_true h1
        subst e1
        rfl
      · have e1 : p = t + 2 := Nat.eq_of_beq_eq_true h1
        subst e1
        have e2 : Nat.beq (t + 2) 1 = false := rfl
        rw [e2]
        cases o <;> rfl
theorem kx_in_lc (ι : Nat → Nat) (vs : List kx_V) : ∀ i, kx_lc ι (kx_in i vs) = lv_args i (vs.map (kx_cv ι)) := by
  induction vs with
  | nil => intro i; rfl
  | cons v vs ih =>
    intro i
    unfold kx_in lv_args
    have e1 : (bif kx_two v then i + 2 else i + 1) = if (kx_cv ι v).category = 2 then i + 2 else i + 1 := by
      rcases v with x | x | ⟨t, o⟩
      · rfl
      · rfl
      · cases o <;> rfl
    rw [e1]
    show (i, kx_cv ι v) :: kx_lc ι _ = _
    rw [ih]
    rfl
theorem kx_in_ok {h : kx_H} {vs : List kx_V} (hv : ∀ v ∈ vs, kx_ok h v) : ∀ i, ∀ q ∈ kx_in i vs, kx_ok h q.2 := by
  induction vs with
  | nil => intro i q hq; cases hq
  | cons v vs ih =>
    intro i q hq
    unfold kx_in at hq
    rcases List.mem_cons.mp hq with rfl | hq
    · exact hv v List.mem_cons_self
    · exact ih (fun w hw => hv w (List.mem_cons_of_mem _ hw)) _ q hq
section KM
variable {p : Program} {l : Launch} {e : Env} {R : Room} {s : State} {m : MethodId} {args : Array Value} {below : List Frame} {meth : Method} {c : Code} {H : Heap} {locs : List Loc} {cells slots : Nat} {Q : State → Prop}
variable {s0 : State} {D : va_G} {cA : Nat → ClassId} {cc : ByteArray} {own : String} {nL : Nat} {ι ι0 : Nat → Nat} {h h0 hf : kx_H} {rr : kx_R} {pc : Nat} {k : kx_F} {ls : Array Slot} {rest : List Value} {a t i : Nat} {r : vw_C}
/-- a method's contract out of its walk -/
theorem kx_meth {y : MethodName} {maxL : Nat} {ret : Option FieldType} (hcode : Cond.code y cc maxL ret ∈ kx_WS) (hy : plainName y.cls = true) {ps : List Nat} (hps : kx_wd ps ≤ maxL) {F : kx_F} {As : List kx_V} (hF : F (kx_in 0 As) [] h0 = some (rr, hf)) (hfit : kx_fits ps As = true) {rm : Room}
    (hcc : kx_cc ≤ rm.cells + hp_C h0) (hcs : kx_cs ≤ rm.slots + hp_U h0) (hcap : hp_C h0 ≤ kx_cc) (hcap2 : hp_U h0 ≤ kx_cs)
    (body : ∀ (p : Program) (e : Env) (s : State) (m : MethodId) (args : Array Value) (below : List Frame) (meth : Method) (c : Code), kx_G p e rm s m args meth c s0 D cA cc y.cls maxL h0 → meth.sig.returnType = ret → meth.name = y.name → c.exceptionTable.isEmpty = true → l.admits e → kx_Sn p l e rm s m args below meth c s0 D cA maxL ι0 h0 rr hf 0 F) : kx_Mt l s0 D cA y rm ι0 As h0 rr hf := by
  refine MetFree.of_bodyS (code := cc) (maxLocals := maxL) (ret := ret) hy ?_ ?_
  · intro args s m h hn
    obtain ⟨meth, c, h1, h2, h3, h4, h5, h6, -, -⟩ := Cond.code_spec hn (atoms_spec (ws := kx_WS) h _ hcode)
    exact ⟨meth, c, h1, h2, h3, h4, h5, h6⟩
  · intro p e s m args below meth c s₁ B hml hP _
    obtain ⟨rfl, hB, hPw, hok⟩ := hP
    have hts := atoms_spec (ws := kx_WS) B.pre
    have hh0 : s₁.heap = s.heap := by rw [B.state]; rfl
    have X := Stand.of_body B
    have G : kx_G p e rm s m (As.map (kx_cv ι0)).toArray meth c s0 D cA cc y.cls maxL h0 := ⟨B.exec, B.bytes, findClass_of_methodNamed B.named, hml, B.notSynchronized, hts, hB, hcc, hcs⟩
    have hl := lv_entry (As.map (kx_cv ι0)) (n := maxL) (by rw [kx_wd_ok hfit]; exact hps)
    rw [← kx_in_lc ι0 As 0] at hl
    have hw := body p e s m _ below meth c G B.returns (name_of_methodNamed B.named B.method).1 (B.noHandlers (hts _ hcode)) B.admits _ _ _ hF ι0 s.heap [] 0 0 _ hPw (kx_PA X (by rw [hh0]; exact hPw)) hl (fun v hv => by cases hv) (kx_in_ok hok 0) va_S.rf (by omega) (by omega) (fun _ _ => rfl) ⟨Nat.le_refl _, fun _ _ z => z, hcap, hcap2⟩
    obtain ⟨t, a1, o, b1, b2, b3⟩ := hw s₁ hh0 X
    refine ⟨t, o, ?_, b1, b2, b3⟩
    rw [lg_entry_eq]
    exact a1
theorem kx_loop {B : Nat → (Nat → kx_F) → kx_F} (hB : ∀ J, (∀ b, kx_Sn p l e R s m args below meth c s0 D cA nL ι0 h0 rr hf b (J b)) → ∀ b, kx_Sn p l e R s m args below meth c s0 D cA nL ι0 h0 rr hf b (B b J)) : ∀ n b, kx_Sn p l e R s m args below meth c s0 D cA nL ι0 h0 rr hf b (kx_ex B n b) := by
  intro n
  induction n with
  | zero => intro b lv st h hF; cases hF
  | succ n ih => intro b; exact hB _ ih b
theorem kx_s_no : kx_Sn p l e R s m args below meth c s0 D cA nL ι0 h0 rr hf pc (fun _ _ _ => none) := by
  intro lv st h hF
  cases hF
theorem kx_swl_spec {x : Int32} {cs : List (Int32 × kx_F)} {d : kx_F} {lv : kx_L} {st : List kx_V} {z : kx_R × kx_H} (hz : kx_swl x cs d lv st h = some z) : (∃ q ∈ cs, x = q.1 ∧ q.2 lv st h = some z) ∨ ((∀ q ∈ cs, ¬ x = q.1) ∧ d lv st h = some z) := by
  induction cs with
  | nil => exact Or.inr ⟨fun q hq => (by cases hq), hz⟩
  | cons q r ih =>
    unfold kx_swl at hz
    by_cases hq : x = q.1
    · rw [if_pos hq] at hz
      exact Or.inl ⟨q, List.mem_cons_self, hq, hz⟩
    · rw [if_neg hq] at hz
      rcases ih hz with ⟨q9, h1, h2⟩ | ⟨h1, h2⟩
      · exact Or.inl ⟨q9, List.mem_cons_of_mem _ h1, h2⟩
      · refine Or.inr ⟨fun q9 h9 => ?_, h2⟩
        rcases List.mem_cons.mp h9 with rfl | h9
        · exact hq
        · exact h1 q9 h9
theorem kx_s_tsw (G : kx_G p e R s m args meth c s0 D cA cc own nL h0) {dflt lo hi : Int} {offs : Array Int} {len tgtD : Nat} {cs : List (Int32 × kx_F)} {d : kx_F} (hd : decode cc pc = .ok (.tableswitch dflt lo hi offs, len)) (hD : (pc : Int) + dflt = (tgtD : Int)) (hdF : kx_Sn p l e R s m args below meth c s0 D cA nL ι0 h0 rr hf tgtD d)
    (hcs : ∀ q ∈ cs, ¬ q.1.toInt < lo ∧ ¬ hi < q.1.toInt ∧ ∃ (off : Int) (tgt : Nat), offs[(q.1.toInt - lo).toNat]? = some off ∧ (pc : Int) + off = (tgt : Int) ∧ kx_Sn p l e R s m args below meth c s0 D cA nL ι0 h0 rr hf tgt q.2) (hcov : ∀ x : Int32, (∀ q ∈ cs, ¬ x = q.1) → x.toInt < lo ∨ hi < x.toInt) : kx_Sn p l e R s m args below meth c s0 D cA nL ι0 h0 rr hf pc (kx_sw cs d) := by
  intro lv st h hF
  unfold kx_sw at hF
  split at hF
  · rename_i x r9
    intro ι H locs cells slots ls hP hA hl hs hv hS hC hU hI hE
    rcases kx_swl_spec hF with ⟨q, hq, rfl, hz⟩ | ⟨hn, hz⟩
    · obtain ⟨h1, h2, off, tgt, h3, h4, h5⟩ := hcs q hq
      exact lv_tableIn G.1 G.2.1 hd h1 h2 h3 h4 (h5 _ _ _ hz ι H locs cells slots ls hP hA hl (kx_okt hs) hv hS hC hU hI hE)
    · exact lv_tableOut G.1 G.2.1 hd (hcov x hn) hD (hdF _ _ _ hz ι H locs cells slots ls hP hA hl (kx_okt hs) hv hS hC hU hI hE)
  · cases hF
theorem kx_s_lsw (G : kx_G p e R s m args meth c s0 D cA cc own nL h0) {dflt : Int} {ps : Array (Int × Int)} {len tgtD : Nat} {cs : List (Int32 × kx_F)} {d : kx_F} (hd : decode cc pc = .ok (.lookupswitch dflt ps, len)) (hp : (ps.toList.zip (ps.toList.drop 1)).all (fun (a, next) => a.1 < next.1) = true) (hD : (pc : Int) + dflt = (tgtD : Int)) (hdF : kx_Sn p l e R s m args below meth c s0 D cA nL ι0 h0 rr hf tgtD d)
    (hcs : ∀ q ∈ cs, ∃ (off : Int) (tgt : Nat), Op.lookupswitch.offset ps.toList dflt q.1.toInt = off ∧ (pc : Int) + off = (tgt : Int) ∧ kx_Sn p l e R s m args below meth c s0 D cA nL ι0 h0 rr hf tgt q.2) (hcov : ∀ x : Int32, (∀ q ∈ cs, ¬ x = q.1) → Op.lookupswitch.offset ps.toList dflt x.toInt = dflt) : kx_Sn p l e R s m args below meth c s0 D cA nL ι0 h0 rr hf pc (kx_sw cs d) := by
  intro lv st h hF
  unfold kx_sw at hF
  split at hF
  · rename_i x r9
    intro ι H locs cells slots ls hP hA hl hs hv hS hC hU hI hE
    rcases kx_swl_spec hF with ⟨q, hq, rfl, hz⟩ | ⟨hn, hz⟩
    · obtain ⟨off, tgt, h3, h4, h5⟩ := hcs q hq
      exact lv_lookup G.1 G.2.1 hd hp h3 h4 (h5 _ _ _ hz ι H locs cells slots ls hP hA hl (kx_okt hs) hv hS hC hU hI hE)
    · exact lv_lookup G.1 G.2.1 hd hp (hcov x hn) hD (hdF _ _ _ hz ι H locs cells slots ls hP hA hl (kx_okt hs) hv hS hC hU hI hE)
  · cases hF
end KM
