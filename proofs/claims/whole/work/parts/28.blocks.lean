section KL
variable {p : Program} {l : Launch} {e : Env} {R : Room} {s : State} {m : MethodId} {args : Array Value} {below : List Frame} {meth : Method} {c : Code} {s0 : State} {D : va_G} {cA : Nat → ClassId} {ι0 : Nat → Nat} {h0 hf : kx_H} {rr : kx_R} {C : kx_C} {d : Nat} {J : Nat → kx_F}
/-- all that a helper's walk leans on -/
def kx_XW (p : Program) (l : Launch) (e : Env) (R : Room) (s : State) (m : MethodId) (args : Array Value) (below : List Frame) (meth : Method) (c : Code) (s0 : State) (D : va_G) (cA : Nat → ClassId) (nL : Nat) (ι0 : Nat → Nat) (h0 : kx_H) (rr : kx_R) (hf : kx_H) (cc : ByteArray) (own : String) (C : kx_C) (d : Nat) (HS : List kx_HE) (J : Nat → kx_F) : Prop :=
  kx_G p e R s m args meth c s0 D cA cc own nL h0 ∧ kx_cs9 l s0 D cA C d ∧ kx_need (d + 1) R ∧ c.exceptionTable.toList.map (fun h => (h.startPc, h.endPc, h.handlerPc, h.catchType)) = HS.map kx_h4 ∧ meth.sig.returnType = some .int ∧ kx_NC s0 ∧ ∀ b, kx_Sn p l e R s m args below meth c s0 D cA nL ι0 h0 rr hf b (J b)
/-! the helper spawn -/
def kH_152 : List kx_HE := [(0, 8, 11, 13, 0, 1)]
theorem kh_152 {pc : Nat} (h1 : 0 ≤ pc) (h2 : pc < 8) : kx_hs "TaskDeskLaw" method_3_code 3 pc kH_152 := List.forall_mem_cons.mpr ⟨⟨Nat.le_trans (by decide) h1, Nat.lt_of_lt_of_le h2 (by decide), by decide, by decide, kw_461, kw_472, 1, Or.inl ⟨2, rfl, by decide +kernel, by decide⟩, 1, by decide +kernel, by decide +kernel, by decide +kernel⟩, List.forall_mem_nil _⟩
def bk_152_0 (d : Nat) (C : kx_C) (J : Nat → kx_F) : kx_F := (kx_la 1 (kx_c (kx_i 0) (kx_la 0 (kx_Vic C 23 0 [] kH_152 (kx_i2l (kx_asL 100 (kx_c (kx_i 0) kx_ri)))))))
def bm_152 (d : Nat) (C : kx_C) (b : Nat) (J : Nat → kx_F) : kx_F := bif Nat.beq b 0 then bk_152_0 d C J else fun _ _ _ => none
set_option maxRecDepth 20000 in
theorem sk_152_0 (X : kx_XW p l e R s m args below meth c s0 D cA 3 ι0 h0 rr hf method_3_code "TaskDeskLaw" C d kH_152 J) : kx_Sn p l e R s m args below meth c s0 D cA 3 ι0 h0 rr hf 0 (bk_152_0 d C J) := by
  obtain ⟨G, CS, R9, EX, RT, NC, JS⟩ := X
  exact (kx_s_aload_n (j := 1) G rfl (by decide +kernel) (kx_s_iconst (i := 0) G (by decide +kernel) (by decide +kernel) (kx_s_aload_n (j := 0) G rfl (by decide +kernel) (kx_s_Vic (n := 23) G kx_good CS R9 EX (kh_152 (by decide) (by decide)) NC RT kc_23 rfl kw_462 kw_463 kw_464 (r := kr_0) rfl (by decide) (by decide +kernel) (kx_s_i2l G (by decide +kernel) (kx_s_asL G ka_100 (by decide +kernel) (kx_s_goto (off := 6) (tgt := 14) G (by decide +kernel) rfl (kx_s_iconst (i := 0) G (by decide +kernel) (by decide +kernel) (kx_s_ireturn G RT (by decide +kernel))))))))))
theorem sm_152 (X : kx_XW p l e R s m args below meth c s0 D cA 3 ι0 h0 rr hf method_3_code "TaskDeskLaw" C d kH_152 J) (b : Nat) : kx_Sn p l e R s m args below meth c s0 D cA 3 ι0 h0 rr hf b (bm_152 d C b J) := by
  unfold bm_152
  cases h0 : Nat.beq b 0 with
  | true => rw [Nat.eq_of_beq_eq_true h0]; exact sk_152_0 X
  | false =>
   exact kx_s_no
/-! the helper giveWay -/
def kH_153 : List kx_HE := [(0, 8, 11, 13, 0, 1)]
theorem kh_153 {pc : Nat} (h1 : 0 ≤ pc) (h2 : pc < 8) : kx_hs "TaskDeskLaw" method_4_code 3 pc kH_153 := List.forall_mem_cons.mpr ⟨⟨Nat.le_trans (by decide) h1, Nat.lt_of_lt_of_le h2 (by decide), by decide, by decide, kw_461, kw_472, 1, Or.inl ⟨2, rfl, by decide +kernel, by decide⟩, 1, by decide +kernel, by decide +kernel, by decide +kernel⟩, List.forall_mem_nil _⟩
def bk_153_0 (d : Nat) (C : kx_C) (J : Nat → kx_F) : kx_F := (kx_la 1 (kx_c (kx_i 0) (kx_la 0 (kx_Vic C 29 0 [] kH_153 (kx_i2l (kx_asL 100 (kx_c (kx_i 0) kx_ri)))))))
def bm_153 (d : Nat) (C : kx_C) (b : Nat) (J : Nat → kx_F) : kx_F := bif Nat.beq b 0 then bk_153_0 d C J else fun _ _ _ => none
set_option maxRecDepth 20000 in
theorem sk_153_0 (X : kx_XW p l e R s m args below meth c s0 D cA 3 ι0 h0 rr hf method_4_code "TaskDeskLaw" C d kH_153 J) : kx_Sn p l e R s m args below meth c s0 D cA 3 ι0 h0 rr hf 0 (bk_153_0 d C J) := by
  obtain ⟨G, CS, R9, EX, RT, NC, JS⟩ := X
  exact (kx_s_aload_n (j := 1) G rfl (by decide +kernel) (kx_s_iconst (i := 0) G (by decide +kernel) (by decide +kernel) (kx_s_aload_n (j := 0) G rfl (by decide +kernel) (kx_s_Vic (n := 29) G kx_good CS R9 EX (kh_153 (by decide) (by decide)) NC RT kc_29 rfl kw_559 kw_560 kw_561 (r := kr_0) rfl (by decide) (by decide +kernel) (kx_s_i2l G (by decide +kernel) (kx_s_asL G ka_100 (by decide +kernel) (kx_s_goto (off := 6) (tgt := 14) G (by decide +kernel) rfl (kx_s_iconst (i := 0) G (by decide +kernel) (by decide +kernel) (kx_s_ireturn G RT (by decide +kernel))))))))))
theorem sm_153 (X : kx_XW p l e R s m args below meth c s0 D cA 3 ι0 h0 rr hf method_4_code "TaskDeskLaw" C d kH_153 J) (b : Nat) : kx_Sn p l e R s m args below meth c s0 D cA 3 ι0 h0 rr hf b (bm_153 d C b J) := by
  unfold bm_153
  cases h0 : Nat.beq b 0 with
  | true => rw [Nat.eq_of_beq_eq_true h0]; exact sk_153_0 X
  | false =>
   exact kx_s_no
/-! the helper finish -/
def kH_154 : List kx_HE := [(0, 8, 11, 13, 0, 1)]
theorem kh_154 {pc : Nat} (h1 : 0 ≤ pc) (h2 : pc < 8) : kx_hs "TaskDeskLaw" method_5_code 3 pc kH_154 := List.forall_mem_cons.mpr ⟨⟨Nat.le_trans (by decide) h1, Nat.lt_of_lt_of_le h2 (by decide), by decide, by decide, kw_461, kw_472, 1, Or.inl ⟨2, rfl, by decide +kernel, by decide⟩, 1, by decide +kernel, by decide +kernel, by decide +kernel⟩, List.forall_mem_nil _⟩
def bk_154_0 (d : Nat) (C : kx_C) (J : Nat → kx_F) : kx_F := (kx_la 1 (kx_c (kx_i 0) (kx_la 0 (kx_Vic C 40 0 [] kH_154 (kx_i2l (kx_asL 100 (kx_c (kx_i 0) kx_ri)))))))
def bm_154 (d : Nat) (C : kx_C) (b : Nat) (J : Nat → kx_F) : kx_F := bif Nat.beq b 0 then bk_154_0 d C J else fun _ _ _ => none
set_option maxRecDepth 20000 in
theorem sk_154_0 (X : kx_XW p l e R s m args below meth c s0 D cA 3 ι0 h0 rr hf method_5_code "TaskDeskLaw" C d kH_154 J) : kx_Sn p l e R s m args below meth c s0 D cA 3 ι0 h0 rr hf 0 (bk_154_0 d C J) := by
  obtain ⟨G, CS, R9, EX, RT, NC, JS⟩ := X
  exact (kx_s_aload_n (j := 1) G rfl (by decide +kernel) (kx_s_iconst (i := 0) G (by decide +kernel) (by decide +kernel) (kx_s_aload_n (j := 0) G rfl (by decide +kernel) (kx_s_Vic (n := 40) G kx_good CS R9 EX (kh_154 (by decide) (by decide)) NC RT kc_40 rfl kw_608 kw_609 kw_610 (r := kr_0) rfl (by decide) (by decide +kernel) (kx_s_i2l G (by decide +kernel) (kx_s_asL G ka_100 (by decide +kernel) (kx_s_goto (off := 6) (tgt := 14) G (by decide +kernel) rfl (kx_s_iconst (i := 0) G (by decide +kernel) (by decide +kernel) (kx_s_ireturn G RT (by decide +kernel))))))))))
theorem sm_154 (X : kx_XW p l e R s m args below meth c s0 D cA 3 ι0 h0 rr hf method_5_code "TaskDeskLaw" C d kH_154 J) (b : Nat) : kx_Sn p l e R s m args below meth c s0 D cA 3 ι0 h0 rr hf b (bm_154 d C b J) := by
  unfold bm_154
  cases h0 : Nat.beq b 0 with
  | true => rw [Nat.eq_of_beq_eq_true h0]; exact sk_154_0 X
  | false =>
   exact kx_s_no
/-! the helper sleep -/
def kH_155 : List kx_HE := [(0, 9, 12, 25, 1, 1), (0, 9, 16, 13, 0, 2)]
theorem kh_155 {pc : Nat} (h1 : 0 ≤ pc) (h2 : pc < 9) : kx_hs "TaskDeskLaw" method_6_code 5 pc kH_155 := List.forall_mem_cons.mpr ⟨⟨Nat.le_trans (by decide) h1, Nat.lt_of_lt_of_le h2 (by decide), by decide, by decide, kw_619, kw_627, 2, Or.inr ⟨4, rfl, by decide +kernel, by decide⟩, 1, by decide +kernel, by decide +kernel, by decide +kernel⟩, List.forall_mem_cons.mpr ⟨⟨Nat.le_trans (by decide) h1, Nat.lt_of_lt_of_le h2 (by decide), by decide, by decide, kw_461, kw_472, 2, Or.inr ⟨4, rfl, by decide +kernel, by decide⟩, 2, by decide +kernel, by decide +kernel, by decide +kernel⟩, List.forall_mem_nil _⟩⟩
def bk_155_0 (d : Nat) (C : kx_C) (J : Nat → kx_F) : kx_F := (kx_la 3 (kx_c (kx_i 0) (kx_la 0 (kx_ll 1 (kx_Vic C 42 0 [1] kH_155 (kx_i2l (kx_asL 100 (kx_c (kx_i 0) kx_ri))))))))
def bm_155 (d : Nat) (C : kx_C) (b : Nat) (J : Nat → kx_F) : kx_F := bif Nat.beq b 0 then bk_155_0 d C J else fun _ _ _ => none
set_option maxRecDepth 20000 in
theorem sk_155_0 (X : kx_XW p l e R s m args below meth c s0 D cA 5 ι0 h0 rr hf method_6_code "TaskDeskLaw" C d kH_155 J) : kx_Sn p l e R s m args below meth c s0 D cA 5 ι0 h0 rr hf 0 (bk_155_0 d C J) := by
  obtain ⟨G, CS, R9, EX, RT, NC, JS⟩ := X
  exact (kx_s_aload_n (j := 3) G rfl (by decide +kernel) (kx_s_iconst (i := 0) G (by decide +kernel) (by decide +kernel) (kx_s_aload_n (j := 0) G rfl (by decide +kernel) (kx_s_lload_n (j := 1) G rfl (by decide +kernel) (kx_s_Vic (n := 42) G kx_good CS R9 EX (kh_155 (by decide) (by decide)) NC RT kc_42 rfl kw_620 kw_621 kw_622 (r := kr_0) rfl (by decide) (by decide +kernel) (kx_s_i2l G (by decide +kernel) (kx_s_asL G ka_100 (by decide +kernel) (kx_s_goto (off := 11) (tgt := 20) G (by decide +kernel) rfl (kx_s_iconst (i := 0) G (by decide +kernel) (by decide +kernel) (kx_s_ireturn G RT (by decide +kernel)))))))))))
theorem sm_155 (X : kx_XW p l e R s m args below meth c s0 D cA 5 ι0 h0 rr hf method_6_code "TaskDeskLaw" C d kH_155 J) (b : Nat) : kx_Sn p l e R s m args below meth c s0 D cA 5 ι0 h0 rr hf b (bm_155 d C b J) := by
  unfold bm_155
  cases h0 : Nat.beq b 0 with
  | true => rw [Nat.eq_of_beq_eq_true h0]; exact sk_155_0 X
  | false =>
   exact kx_s_no
/-! the helper channel -/
def kH_156 : List kx_HE := [(0, 9, 12, 25, 1, 1), (0, 9, 15, 13, 0, 2)]
theorem kh_156 {pc : Nat} (h1 : 0 ≤ pc) (h2 : pc < 9) : kx_hs "TaskDeskLaw" method_7_code 4 pc kH_156 := List.forall_mem_cons.mpr ⟨⟨Nat.le_trans (by decide) h1, Nat.lt_of_lt_of_le h2 (by decide), by decide, by decide, kw_619, kw_627, 1, Or.inl ⟨3, rfl, by decide +kernel, by decide⟩, 1, by decide +kernel, by decide +kernel, by decide +kernel⟩, List.forall_mem_cons.mpr ⟨⟨Nat.le_trans (by decide) h1, Nat.lt_of_lt_of_le h2 (by decide), by decide, by decide, kw_461, kw_472, 1, Or.inl ⟨3, rfl, by decide +kernel, by decide⟩, 2, by decide +kernel, by decide +kernel, by decide +kernel⟩, List.forall_mem_nil _⟩⟩
def bk_156_0 (d : Nat) (C : kx_C) (J : Nat → kx_F) : kx_F := (kx_la 2 (kx_c (kx_i 0) (kx_la 0 (kx_li 1 (kx_Vic C 45 0 [0] kH_156 (kx_i2l (kx_asL 100 (kx_c (kx_i 0) kx_ri))))))))
def bm_156 (d : Nat) (C : kx_C) (b : Nat) (J : Nat → kx_F) : kx_F := bif Nat.beq b 0 then bk_156_0 d C J else fun _ _ _ => none
set_option maxRecDepth 20000 in
theorem sk_156_0 (X : kx_XW p l e R s m args below meth c s0 D cA 4 ι0 h0 rr hf method_7_code "TaskDeskLaw" C d kH_156 J) : kx_Sn p l e R s m args below meth c s0 D cA 4 ι0 h0 rr hf 0 (bk_156_0 d C J) := by
  obtain ⟨G, CS, R9, EX, RT, NC, JS⟩ := X
  exact (kx_s_aload_n (j := 2) G rfl (by decide +kernel) (kx_s_iconst (i := 0) G (by decide +kernel) (by decide +kernel) (kx_s_aload_n (j := 0) G rfl (by decide +kernel) (kx_s_iload_n (j := 1) G rfl (by decide +kernel) (kx_s_Vic (n := 45) G kx_good CS R9 EX (kh_156 (by decide) (by decide)) NC RT kc_45 rfl kw_652 kw_653 kw_654 (r := kr_0) rfl (by decide) (by decide +kernel) (kx_s_i2l G (by decide +kernel) (kx_s_asL G ka_100 (by decide +kernel) (kx_s_goto (off := 9) (tgt := 18) G (by decide +kernel) rfl (kx_s_iconst (i := 0) G (by decide +kernel) (by decide +kernel) (kx_s_ireturn G RT (by decide +kernel)))))))))))
theorem sm_156 (X : kx_XW p l e R s m args below meth c s0 D cA 4 ι0 h0 rr hf method_7_code "TaskDeskLaw" C d kH_156 J) (b : Nat) : kx_Sn p l e R s m args below meth c s0 D cA 4 ι0 h0 rr hf b (bm_156 d C b J) := by
  unfold bm_156
  cases h0 : Nat.beq b 0 with
  | true => rw [Nat.eq_of_beq_eq_true h0]; exact sk_156_0 X
  | false =>
   exact kx_s_no
/-! the helper alarm -/
def kH_157 : List kx_HE := [(0, 6, 9, 25, 1, 1), (0, 6, 13, 13, 0, 2)]
theorem kh_157 {pc : Nat} (h1 : 0 ≤ pc) (h2 : pc < 6) : kx_hs "TaskDeskLaw" method_8_code 5 pc kH_157 := List.forall_mem_cons.mpr ⟨⟨Nat.le_trans (by decide) h1, Nat.lt_of_lt_of_le h2 (by decide), by decide, by decide, kw_619, kw_627, 2, Or.inr ⟨4, rfl, by decide +kernel, by decide⟩, 1, by decide +kernel, by decide +kernel, by decide +kernel⟩, List.forall_mem_cons.mpr ⟨⟨Nat.le_trans (by decide) h1, Nat.lt_of_lt_of_le h2 (by decide), by decide, by decide, kw_461, kw_472, 2, Or.inr ⟨4, rfl, by decide +kernel, by decide⟩, 2, by decide +kernel, by decide +kernel, by decide +kernel⟩, List.forall_mem_nil _⟩⟩
def bk_157_0 (d : Nat) (C : kx_C) (J : Nat → kx_F) : kx_F := (kx_la 0 (kx_li 1 (kx_ll 2 (kx_Vvc C 47 0 [0, 1] kH_157 (kx_c (kx_i 0) kx_ri)))))
def bm_157 (d : Nat) (C : kx_C) (b : Nat) (J : Nat → kx_F) : kx_F := bif Nat.beq b 0 then bk_157_0 d C J else fun _ _ _ => none
set_option maxRecDepth 20000 in
theorem sk_157_0 (X : kx_XW p l e R s m args below meth c s0 D cA 5 ι0 h0 rr hf method_8_code "TaskDeskLaw" C d kH_157 J) : kx_Sn p l e R s m args below meth c s0 D cA 5 ι0 h0 rr hf 0 (bk_157_0 d C J) := by
  obtain ⟨G, CS, R9, EX, RT, NC, JS⟩ := X
  exact (kx_s_aload_n (j := 0) G rfl (by decide +kernel) (kx_s_iload_n (j := 1) G rfl (by decide +kernel) (kx_s_lload_n (j := 2) G rfl (by decide +kernel) (kx_s_Vvc (n := 47) G kx_good CS R9 EX (kh_157 (by decide) (by decide)) NC RT kc_47 rfl kw_665 kw_666 kw_667 (r := kr_0) rfl (by decide) (by decide +kernel) (kx_s_goto (off := 11) (tgt := 17) G (by decide +kernel) rfl (kx_s_iconst (i := 0) G (by decide +kernel) (by decide +kernel) (kx_s_ireturn G RT (by decide +kernel))))))))
theorem sm_157 (X : kx_XW p l e R s m args below meth c s0 D cA 5 ι0 h0 rr hf method_8_code "TaskDeskLaw" C d kH_157 J) (b : Nat) : kx_Sn p l e R s m args below meth c s0 D cA 5 ι0 h0 rr hf b (bm_157 d C b J) := by
  unfold bm_157
  cases h0 : Nat.beq b 0 with
  | true => rw [Nat.eq_of_beq_eq_true h0]; exact sk_157_0 X
  | false =>
   exact kx_s_no
/-! the helper send -/
def kH_158 : List kx_HE := [(0, 18, 21, 25, 1, 1), (0, 18, 25, 13, 0, 2), (0, 18, 29, 39, 2, 3)]
theorem kh_158 {pc : Nat} (h1 : 0 ≤ pc) (h2 : pc < 18) : kx_hs "TaskDeskLaw" method_9_code 6 pc kH_158 := List.forall_mem_cons.mpr ⟨⟨Nat.le_trans (by decide) h1, Nat.lt_of_lt_of_le h2 (by decide), by decide, by decide, kw_619, kw_627, 2, Or.inr ⟨5, rfl, by decide +kernel, by decide⟩, 1, by decide +kernel, by decide +kernel, by decide +kernel⟩, List.forall_mem_cons.mpr ⟨⟨Nat.le_trans (by decide) h1, Nat.lt_of_lt_of_le h2 (by decide), by decide, by decide, kw_461, kw_472, 2, Or.inr ⟨5, rfl, by decide +kernel, by decide⟩, 2, by decide +kernel, by decide +kernel, by decide +kernel⟩, List.forall_mem_cons.mpr ⟨⟨Nat.le_trans (by decide) h1, Nat.lt_of_lt_of_le h2 (by decide), by decide, by decide, kw_674, kw_686, 2, Or.inr ⟨5, rfl, by decide +kernel, by decide⟩, 3, by decide +kernel, by decide +kernel, by decide +kernel⟩, List.forall_mem_nil _⟩⟩⟩
def bk_158_0 (d : Nat) (C : kx_C) (J : Nat → kx_F) : kx_F := (kx_la 4 (kx_c (kx_i 0) (kx_la 0 (kx_li 1 (kx_ll 2 (kx_Vic C 48 0 [0, 1] kH_158 (kx_ifeq (kx_c (kx_l 0) (kx_nm [] (J 17))) (kx_c (kx_l 1) (kx_nm [] (J 17))))))))))
def bk_158_17 (d : Nat) (C : kx_C) (J : Nat → kx_F) : kx_F := (kx_asL 100 (kx_c (kx_i 0) kx_ri))
def bm_158 (d : Nat) (C : kx_C) (b : Nat) (J : Nat → kx_F) : kx_F := bif Nat.beq b 0 then bk_158_0 d C J else bif Nat.beq b 17 then bk_158_17 d C J else fun _ _ _ => none
set_option maxRecDepth 20000 in
theorem sk_158_0 (X : kx_XW p l e R s m args below meth c s0 D cA 6 ι0 h0 rr hf method_9_code "TaskDeskLaw" C d kH_158 J) : kx_Sn p l e R s m args below meth c s0 D cA 6 ι0 h0 rr hf 0 (bk_158_0 d C J) := by
  obtain ⟨G, CS, R9, EX, RT, NC, JS⟩ := X
  exact (kx_s_aload G (by decide +kernel) (kx_s_iconst (i := 0) G (by decide +kernel) (by decide +kernel) (kx_s_aload_n (j := 0) G rfl (by decide +kernel) (kx_s_iload_n (j := 1) G rfl (by decide +kernel) (kx_s_lload_n (j := 2) G rfl (by decide +kernel) (kx_s_Vic (n := 48) G kx_good CS R9 EX (kh_158 (by decide) (by decide)) NC RT kc_48 rfl kw_675 kw_676 kw_677 (r := kr_0) rfl (by decide) (by decide +kernel) (kx_s_ifeq (off := 7) (tgt := 16) G (by decide +kernel) rfl (kx_s_lconst (i := 0) G (by decide +kernel) (by decide +kernel) (kx_s_nm (JS 17))) (kx_s_lconst (i := 1) G (by decide +kernel) (by decide +kernel) (kx_s_goto (off := 4) (tgt := 17) G (by decide +kernel) rfl (kx_s_nm (JS 17)))))))))))
set_option maxRecDepth 20000 in
theorem sk_158_17 (X : kx_XW p l e R s m args below meth c s0 D cA 6 ι0 h0 rr hf method_9_code "TaskDeskLaw" C d kH_158 J) : kx_Sn p l e R s m args below meth c s0 D cA 6 ι0 h0 rr hf 17 (bk_158_17 d C J) := by
  obtain ⟨G, CS, R9, EX, RT, NC, JS⟩ := X
  exact (kx_s_asL G ka_100 (by decide +kernel) (kx_s_goto (off := 15) (tgt := 33) G (by decide +kernel) rfl (kx_s_iconst (i := 0) G (by decide +kernel) (by decide +kernel) (kx_s_ireturn G RT (by decide +kernel)))))
theorem sm_158 (X : kx_XW p l e R s m args below meth c s0 D cA 6 ι0 h0 rr hf method_9_code "TaskDeskLaw" C d kH_158 J) (b : Nat) : kx_Sn p l e R s m args below meth c s0 D cA 6 ι0 h0 rr hf b (bm_158 d C b J) := by
  unfold bm_158
  cases h0 : Nat.beq b 0 with
  | true => rw [Nat.eq_of_beq_eq_true h0]; exact sk_158_0 X
  | false =>
   cases h17 : Nat.beq b 17 with
   | true => rw [Nat.eq_of_beq_eq_true h17]; exact sk_158_17 X
   | false =>
    exact kx_s_no
/-! the helper receive -/
def kH_159 : List kx_HE := [(0, 16, 19, 25, 1, 1), (0, 16, 22, 13, 0, 2)]
theorem kh_159 {pc : Nat} (h1 : 0 ≤ pc) (h2 : pc < 16) : kx_hs "TaskDeskLaw" method_10_code 4 pc kH_159 := List.forall_mem_cons.mpr ⟨⟨Nat.le_trans (by decide) h1, Nat.lt_of_lt_of_le h2 (by decide), by decide, by decide, kw_619, kw_627, 1, Or.inl ⟨3, rfl, by decide +kernel, by decide⟩, 1, by decide +kernel, by decide +kernel, by decide +kernel⟩, List.forall_mem_cons.mpr ⟨⟨Nat.le_trans (by decide) h1, Nat.lt_of_lt_of_le h2 (by decide), by decide, by decide, kw_461, kw_472, 1, Or.inl ⟨3, rfl, by decide +kernel, by decide⟩, 2, by decide +kernel, by decide +kernel, by decide +kernel⟩, List.forall_mem_nil _⟩⟩
def bk_159_0 (d : Nat) (C : kx_C) (J : Nat → kx_F) : kx_F := (kx_la 2 (kx_c (kx_i 0) (kx_la 0 (kx_li 1 (kx_Vic C 50 0 [0] kH_159 (kx_ifeq (kx_c (kx_l 0) (kx_nm [] (J 15))) (kx_c (kx_l 1) (kx_nm [] (J 15)))))))))
def bk_159_15 (d : Nat) (C : kx_C) (J : Nat → kx_F) : kx_F := (kx_asL 100 (kx_c (kx_i 0) kx_ri))
def bm_159 (d : Nat) (C : kx_C) (b : Nat) (J : Nat → kx_F) : kx_F := bif Nat.beq b 0 then bk_159_0 d C J else bif Nat.beq b 15 then bk_159_15 d C J else fun _ _ _ => none
set_option maxRecDepth 20000 in
theorem sk_159_0 (X : kx_XW p l e R s m args below meth c s0 D cA 4 ι0 h0 rr hf method_10_code "TaskDeskLaw" C d kH_159 J) : kx_Sn p l e R s m args below meth c s0 D cA 4 ι0 h0 rr hf 0 (bk_159_0 d C J) := by
  obtain ⟨G, CS, R9, EX, RT, NC, JS⟩ := X
  exact (kx_s_aload_n (j := 2) G rfl (by decide +kernel) (kx_s_iconst (i := 0) G (by decide +kernel) (by decide +kernel) (kx_s_aload_n (j := 0) G rfl (by decide +kernel) (kx_s_iload_n (j := 1) G rfl (by decide +kernel) (kx_s_Vic (n := 50) G kx_good CS R9 EX (kh_159 (by decide) (by decide)) NC RT kc_50 rfl kw_703 kw_704 kw_705 (r := kr_0) rfl (by decide) (by decide +kernel) (kx_s_ifeq (off := 7) (tgt := 14) G (by decide +kernel) rfl (kx_s_lconst (i := 0) G (by decide +kernel) (by decide +kernel) (kx_s_nm (JS 15))) (kx_s_lconst (i := 1) G (by decide +kernel) (by decide +kernel) (kx_s_goto (off := 4) (tgt := 15) G (by decide +kernel) rfl (kx_s_nm (JS 15))))))))))
set_option maxRecDepth 20000 in
theorem sk_159_15 (X : kx_XW p l e R s m args below meth c s0 D cA 4 ι0 h0 rr hf method_10_code "TaskDeskLaw" C d kH_159 J) : kx_Sn p l e R s m args below meth c s0 D cA 4 ι0 h0 rr hf 15 (bk_159_15 d C J) := by
  obtain ⟨G, CS, R9, EX, RT, NC, JS⟩ := X
  exact (kx_s_asL G ka_100 (by decide +kernel) (kx_s_goto (off := 9) (tgt := 25) G (by decide +kernel) rfl (kx_s_iconst (i := 0) G (by decide +kernel) (by decide +kernel) (kx_s_ireturn G RT (by decide +kernel)))))
theorem sm_159 (X : kx_XW p l e R s m args below meth c s0 D cA 4 ι0 h0 rr hf method_10_code "TaskDeskLaw" C d kH_159 J) (b : Nat) : kx_Sn p l e R s m args below meth c s0 D cA 4 ι0 h0 rr hf b (bm_159 d C b J) := by
  unfold bm_159
  cases h0 : Nat.beq b 0 with
  | true => rw [Nat.eq_of_beq_eq_true h0]; exact sk_159_0 X
  | false =>
   cases h15 : Nat.beq b 15 with
   | true => rw [Nat.eq_of_beq_eq_true h15]; exact sk_159_15 X
   | false =>
    exact kx_s_no
/-! the helper close -/
def kH_160 : List kx_HE := [(0, 5, 8, 25, 1, 1), (0, 5, 11, 13, 0, 2), (0, 5, 14, 39, 2, 3)]
theorem kh_160 {pc : Nat} (h1 : 0 ≤ pc) (h2 : pc < 5) : kx_hs "TaskDeskLaw" method_11_code 3 pc kH_160 := List.forall_mem_cons.mpr ⟨⟨Nat.le_trans (by decide) h1, Nat.lt_of_lt_of_le h2 (by decide), by decide, by decide, kw_619, kw_627, 1, Or.inl ⟨2, rfl, by decide +kernel, by decide⟩, 1, by decide +kernel, by decide +kernel, by decide +kernel⟩, List.forall_mem_cons.mpr ⟨⟨Nat.le_trans (by decide) h1, Nat.lt_of_lt_of_le h2 (by decide), by decide, by decide, kw_461, kw_472, 1, Or.inl ⟨2, rfl, by decide +kernel, by decide⟩, 2, by decide +kernel, by decide +kernel, by decide +kernel⟩, List.forall_mem_cons.mpr ⟨⟨Nat.le_trans (by decide) h1, Nat.lt_of_lt_of_le h2 (by decide), by decide, by decide, kw_674, kw_686, 1, Or.inl ⟨2, rfl, by decide +kernel, by decide⟩, 3, by decide +kernel, by decide +kernel, by decide +kernel⟩, List.forall_mem_nil _⟩⟩⟩
def bk_160_0 (d : Nat) (C : kx_C) (J : Nat → kx_F) : kx_F := (kx_la 0 (kx_li 1 (kx_Vvc C 53 0 [0] kH_160 (kx_c (kx_i 0) kx_ri))))
def bm_160 (d : Nat) (C : kx_C) (b : Nat) (J : Nat → kx_F) : kx_F := bif Nat.beq b 0 then bk_160_0 d C J else fun _ _ _ => none
set_option maxRecDepth 20000 in
theorem sk_160_0 (X : kx_XW p l e R s m args below meth c s0 D cA 3 ι0 h0 rr hf method_11_code "TaskDeskLaw" C d kH_160 J) : kx_Sn p l e R s m args below meth c s0 D cA 3 ι0 h0 rr hf 0 (bk_160_0 d C J) := by
  obtain ⟨G, CS, R9, EX, RT, NC, JS⟩ := X
  exact (kx_s_aload_n (j := 0) G rfl (by decide +kernel) (kx_s_iload_n (j := 1) G rfl (by decide +kernel) (kx_s_Vvc (n := 53) G kx_good CS R9 EX (kh_160 (by decide) (by decide)) NC RT kc_53 rfl kw_718 kw_719 kw_720 (r := kr_0) rfl (by decide) (by decide +kernel) (kx_s_goto (off := 12) (tgt := 17) G (by decide +kernel) rfl (kx_s_iconst (i := 0) G (by decide +kernel) (by decide +kernel) (kx_s_ireturn G RT (by decide +kernel)))))))
theorem sm_160 (X : kx_XW p l e R s m args below meth c s0 D cA 3 ι0 h0 rr hf method_11_code "TaskDeskLaw" C d kH_160 J) (b : Nat) : kx_Sn p l e R s m args below meth c s0 D cA 3 ι0 h0 rr hf b (bm_160 d C b J) := by
  unfold bm_160
  cases h0 : Nat.beq b 0 with
  | true => rw [Nat.eq_of_beq_eq_true h0]; exact sk_160_0 X
  | false =>
   exact kx_s_no
/-! the helper offer -/
def kH_161 : List kx_HE := [(0, 12, 15, 25, 1, 1), (0, 12, 19, 13, 0, 2)]
theorem kh_161 {pc : Nat} (h1 : 0 ≤ pc) (h2 : pc < 12) : kx_hs "TaskDeskLaw" method_12_code 7 pc kH_161 := List.forall_mem_cons.mpr ⟨⟨Nat.le_trans (by decide) h1, Nat.lt_of_lt_of_le h2 (by decide), by decide, by decide, kw_619, kw_627, 2, Or.inr ⟨6, rfl, by decide +kernel, by decide⟩, 1, by decide +kernel, by decide +kernel, by decide +kernel⟩, List.forall_mem_cons.mpr ⟨⟨Nat.le_trans (by decide) h1, Nat.lt_of_lt_of_le h2 (by decide), by decide, by decide, kw_461, kw_472, 2, Or.inr ⟨6, rfl, by decide +kernel, by decide⟩, 2, by decide +kernel, by decide +kernel, by decide +kernel⟩, List.forall_mem_nil _⟩⟩
def bk_161_0 (d : Nat) (C : kx_C) (J : Nat → kx_F) : kx_F := (kx_la 5 (kx_c (kx_i 0) (kx_la 0 (kx_li 1 (kx_li 2 (kx_ll 3 (kx_Vic C 55 0 [0, 0, 1] kH_161 (kx_i2l (kx_asL 100 (kx_c (kx_i 0) kx_ri))))))))))
def bm_161 (d : Nat) (C : kx_C) (b : Nat) (J : Nat → kx_F) : kx_F := bif Nat.beq b 0 then bk_161_0 d C J else fun _ _ _ => none
set_option maxRecDepth 20000 in
theorem sk_161_0 (X : kx_XW p l e R s m args below meth c s0 D cA 7 ι0 h0 rr hf method_12_code "TaskDeskLaw" C d kH_161 J) : kx_Sn p l e R s m args below meth c s0 D cA 7 ι0 h0 rr hf 0 (bk_161_0 d C J) := by
  obtain ⟨G, CS, R9, EX, RT, NC, JS⟩ := X
  exact (kx_s_aload G (by decide +kernel) (kx_s_iconst (i := 0) G (by decide +kernel) (by decide +kernel) (kx_s_aload_n (j := 0) G rfl (by decide +kernel) (kx_s_iload_n (j := 1) G rfl (by decide +kernel) (kx_s_iload_n (j := 2) G rfl (by decide +kernel) (kx_s_lload_n (j := 3) G rfl (by decide +kernel) (kx_s_Vic (n := 55) G kx_good CS R9 EX (kh_161 (by decide) (by decide)) NC RT kc_55 rfl kw_730 kw_731 kw_732 (r := kr_0) rfl (by decide) (by decide +kernel) (kx_s_i2l G (by decide +kernel) (kx_s_asL G ka_100 (by decide +kernel) (kx_s_goto (off := 11) (tgt := 23) G (by decide +kernel) rfl (kx_s_iconst (i := 0) G (by decide +kernel) (by decide +kernel) (kx_s_ireturn G RT (by decide +kernel)))))))))))))
theorem sm_161 (X : kx_XW p l e R s m args below meth c s0 D cA 7 ι0 h0 rr hf method_12_code "TaskDeskLaw" C d kH_161 J) (b : Nat) : kx_Sn p l e R s m args below meth c s0 D cA 7 ι0 h0 rr hf b (bm_161 d C b J) := by
  unfold bm_161
  cases h0 : Nat.beq b 0 with
  | true => rw [Nat.eq_of_beq_eq_true h0]; exact sk_161_0 X
  | false =>
   exact kx_s_no
/-! the helper choose -/
def kH_162 : List kx_HE := [(0, 17, 20, 25, 1, 1), (0, 17, 24, 13, 0, 2), (0, 17, 28, 39, 2, 3)]
theorem kh_162 {pc : Nat} (h1 : 0 ≤ pc) (h2 : pc < 17) : kx_hs "TaskDeskLaw" method_13_code 5 pc kH_162 := List.forall_mem_cons.mpr ⟨⟨Nat.le_trans (by decide) h1, Nat.lt_of_lt_of_le h2 (by decide), by decide, by decide, kw_619, kw_627, 2, Or.inr ⟨4, rfl, by decide +kernel, by decide⟩, 1, by decide +kernel, by decide +kernel, by decide +kernel⟩, List.forall_mem_cons.mpr ⟨⟨Nat.le_trans (by decide) h1, Nat.lt_of_lt_of_le h2 (by decide), by decide, by decide, kw_461, kw_472, 2, Or.inr ⟨4, rfl, by decide +kernel, by decide⟩, 2, by decide +kernel, by decide +kernel, by decide +kernel⟩, List.forall_mem_cons.mpr ⟨⟨Nat.le_trans (by decide) h1, Nat.lt_of_lt_of_le h2 (by decide), by decide, by decide, kw_674, kw_686, 2, Or.inr ⟨4, rfl, by decide +kernel, by decide⟩, 3, by decide +kernel, by decide +kernel, by decide +kernel⟩, List.forall_mem_nil _⟩⟩⟩
def bk_162_0 (d : Nat) (C : kx_C) (J : Nat → kx_F) : kx_F := (kx_la 3 (kx_c (kx_i 0) (kx_la 0 (kx_li 1 (kx_li 2 (kx_Vic C 56 0 [0, 0] kH_162 (kx_ifeq (kx_c (kx_l 0) (kx_nm [] (J 16))) (kx_c (kx_l 1) (kx_nm [] (J 16))))))))))
def bk_162_16 (d : Nat) (C : kx_C) (J : Nat → kx_F) : kx_F := (kx_asL 100 (kx_c (kx_i 0) kx_ri))
def bm_162 (d : Nat) (C : kx_C) (b : Nat) (J : Nat → kx_F) : kx_F := bif Nat.beq b 0 then bk_162_0 d C J else bif Nat.beq b 16 then bk_162_16 d C J else fun _ _ _ => none
set_option maxRecDepth 20000 in
theorem sk_162_0 (X : kx_XW p l e R s m args below meth c s0 D cA 5 ι0 h0 rr hf method_13_code "TaskDeskLaw" C d kH_162 J) : kx_Sn p l e R s m args below meth c s0 D cA 5 ι0 h0 rr hf 0 (bk_162_0 d C J) := by
  obtain ⟨G, CS, R9, EX, RT, NC, JS⟩ := X
  exact (kx_s_aload_n (j := 3) G rfl (by decide +kernel) (kx_s_iconst (i := 0) G (by decide +kernel) (by decide +kernel) (kx_s_aload_n (j := 0) G rfl (by decide +kernel) (kx_s_iload_n (j := 1) G rfl (by decide +kernel) (kx_s_iload_n (j := 2) G rfl (by decide +kernel) (kx_s_Vic (n := 56) G kx_good CS R9 EX (kh_162 (by decide) (by decide)) NC RT kc_56 rfl kw_738 kw_739 kw_740 (r := kr_0) rfl (by decide) (by decide +kernel) (kx_s_ifeq (off := 7) (tgt := 15) G (by decide +kernel) rfl (kx_s_lconst (i := 0) G (by decide +kernel) (by decide +kernel) (kx_s_nm (JS 16))) (kx_s_lconst (i := 1) G (by decide +kernel) (by decide +kernel) (kx_s_goto (off := 4) (tgt := 16) G (by decide +kernel) rfl (kx_s_nm (JS 16)))))))))))
set_option maxRecDepth 20000 in
theorem sk_162_16 (X : kx_XW p l e R s m args below meth c s0 D cA 5 ι0 h0 rr hf method_13_code "TaskDeskLaw" C d kH_162 J) : kx_Sn p l e R s m args below meth c s0 D cA 5 ι0 h0 rr hf 16 (bk_162_16 d C J) := by
  obtain ⟨G, CS, R9, EX, RT, NC, JS⟩ := X
  exact (kx_s_asL G ka_100 (by decide +kernel) (kx_s_goto (off := 15) (tgt := 32) G (by decide +kernel) rfl (kx_s_iconst (i := 0) G (by decide +kernel) (by decide +kernel) (kx_s_ireturn G RT (by decide +kernel)))))
theorem sm_162 (X : kx_XW p l e R s m args below meth c s0 D cA 5 ι0 h0 rr hf method_13_code "TaskDeskLaw" C d kH_162 J) (b : Nat) : kx_Sn p l e R s m args below meth c s0 D cA 5 ι0 h0 rr hf b (bm_162 d C b J) := by
  unfold bm_162
  cases h0 : Nat.beq b 0 with
  | true => rw [Nat.eq_of_beq_eq_true h0]; exact sk_162_0 X
  | false =>
   cases h16 : Nat.beq b 16 with
   | true => rw [Nat.eq_of_beq_eq_true h16]; exact sk_162_16 X
   | false =>
    exact kx_s_no
/-! the helper gate -/
def kH_163 : List kx_HE := [(0, 10, 13, 25, 1, 1), (0, 10, 17, 13, 0, 2)]
theorem kh_163 {pc : Nat} (h1 : 0 ≤ pc) (h2 : pc < 10) : kx_hs "TaskDeskLaw" method_14_code 5 pc kH_163 := List.forall_mem_cons.mpr ⟨⟨Nat.le_trans (by decide) h1, Nat.lt_of_lt_of_le h2 (by decide), by decide, by decide, kw_619, kw_627, 2, Or.inr ⟨4, rfl, by decide +kernel, by decide⟩, 1, by decide +kernel, by decide +kernel, by decide +kernel⟩, List.forall_mem_cons.mpr ⟨⟨Nat.le_trans (by decide) h1, Nat.lt_of_lt_of_le h2 (by decide), by decide, by decide, kw_461, kw_472, 2, Or.inr ⟨4, rfl, by decide +kernel, by decide⟩, 2, by decide +kernel, by decide +kernel, by decide +kernel⟩, List.forall_mem_nil _⟩⟩
def bk_163_0 (d : Nat) (C : kx_C) (J : Nat → kx_F) : kx_F := (kx_la 3 (kx_c (kx_i 0) (kx_la 0 (kx_li 1 (kx_li 2 (kx_Vic C 63 0 [0, 0] kH_163 (kx_i2l (kx_asL 100 (kx_c (kx_i 0) kx_ri)))))))))
def bm_163 (d : Nat) (C : kx_C) (b : Nat) (J : Nat → kx_F) : kx_F := bif Nat.beq b 0 then bk_163_0 d C J else fun _ _ _ => none
set_option maxRecDepth 20000 in
theorem sk_163_0 (X : kx_XW p l e R s m args below meth c s0 D cA 5 ι0 h0 rr hf method_14_code "TaskDeskLaw" C d kH_163 J) : kx_Sn p l e R s m args below meth c s0 D cA 5 ι0 h0 rr hf 0 (bk_163_0 d C J) := by
  obtain ⟨G, CS, R9, EX, RT, NC, JS⟩ := X
  exact (kx_s_aload_n (j := 3) G rfl (by decide +kernel) (kx_s_iconst (i := 0) G (by decide +kernel) (by decide +kernel) (kx_s_aload_n (j := 0) G rfl (by decide +kernel) (kx_s_iload_n (j := 1) G rfl (by decide +kernel) (kx_s_iload_n (j := 2) G rfl (by decide +kernel) (kx_s_Vic (n := 63) G kx_good CS R9 EX (kh_163 (by decide) (by decide)) NC RT kc_63 rfl kw_771 kw_772 kw_773 (r := kr_0) rfl (by decide) (by decide +kernel) (kx_s_i2l G (by decide +kernel) (kx_s_asL G ka_100 (by decide +kernel) (kx_s_goto (off := 11) (tgt := 21) G (by decide +kernel) rfl (kx_s_iconst (i := 0) G (by decide +kernel) (by decide +kernel) (kx_s_ireturn G RT (by decide +kernel))))))))))))
theorem sm_163 (X : kx_XW p l e R s m args below meth c s0 D cA 5 ι0 h0 rr hf method_14_code "TaskDeskLaw" C d kH_163 J) (b : Nat) : kx_Sn p l e R s m args below meth c s0 D cA 5 ι0 h0 rr hf b (bm_163 d C b J) := by
  unfold bm_163
  cases h0 : Nat.beq b 0 with
  | true => rw [Nat.eq_of_beq_eq_true h0]; exact sk_163_0 X
  | false =>
   exact kx_s_no
/-! the helper enter -/
def kH_164 : List kx_HE := [(0, 16, 19, 25, 1, 1), (0, 16, 22, 13, 0, 2), (0, 16, 25, 39, 2, 3)]
theorem kh_164 {pc : Nat} (h1 : 0 ≤ pc) (h2 : pc < 16) : kx_hs "TaskDeskLaw" method_15_code 4 pc kH_164 := List.forall_mem_cons.mpr ⟨⟨Nat.le_trans (by decide) h1, Nat.lt_of_lt_of_le h2 (by decide), by decide, by decide, kw_619, kw_627, 1, Or.inl ⟨3, rfl, by decide +kernel, by decide⟩, 1, by decide +kernel, by decide +kernel, by decide +kernel⟩, List.forall_mem_cons.mpr ⟨⟨Nat.le_trans (by decide) h1, Nat.lt_of_lt_of_le h2 (by decide), by decide, by decide, kw_461, kw_472, 1, Or.inl ⟨3, rfl, by decide +kernel, by decide⟩, 2, by decide +kernel, by decide +kernel, by decide +kernel⟩, List.forall_mem_cons.mpr ⟨⟨Nat.le_trans (by decide) h1, Nat.lt_of_lt_of_le h2 (by decide), by decide, by decide, kw_674, kw_686, 1, Or.inl ⟨3, rfl, by decide +kernel, by decide⟩, 3, by decide +kernel, by decide +kernel, by decide +kernel⟩, List.forall_mem_nil _⟩⟩⟩
def bk_164_0 (d : Nat) (C : kx_C) (J : Nat → kx_F) : kx_F := (kx_la 2 (kx_c (kx_i 0) (kx_la 0 (kx_li 1 (kx_Vic C 65 0 [0] kH_164 (kx_ifeq (kx_c (kx_l 0) (kx_nm [] (J 15))) (kx_c (kx_l 1) (kx_nm [] (J 15)))))))))
def bk_164_15 (d : Nat) (C : kx_C) (J : Nat → kx_F) : kx_F := (kx_asL 100 (kx_c (kx_i 0) kx_ri))
def bm_164 (d : Nat) (C : kx_C) (b : Nat) (J : Nat → kx_F) : kx_F := bif Nat.beq b 0 then bk_164_0 d C J else bif Nat.beq b 15 then bk_164_15 d C J else fun _ _ _ => none
set_option maxRecDepth 20000 in
theorem sk_164_0 (X : kx_XW p l e R s m args below meth c s0 D cA 4 ι0 h0 rr hf method_15_code "TaskDeskLaw" C d kH_164 J) : kx_Sn p l e R s m args below meth c s0 D cA 4 ι0 h0 rr hf 0 (bk_164_0 d C J) := by
  obtain ⟨G, CS, R9, EX, RT, NC, JS⟩ := X
  exact (kx_s_aload_n (j := 2) G rfl (by decide +kernel) (kx_s_iconst (i := 0) G (by decide +kernel) (by decide +kernel) (kx_s_aload_n (j := 0) G rfl (by decide +kernel) (kx_s_iload_n (j := 1) G rfl (by decide +kernel) (kx_s_Vic (n := 65) G kx_good CS R9 EX (kh_164 (by decide) (by decide)) NC RT kc_65 rfl kw_784 kw_785 kw_786 (r := kr_0) rfl (by decide) (by decide +kernel) (kx_s_ifeq (off := 7) (tgt := 14) G (by decide +kernel) rfl (kx_s_lconst (i := 0) G (by decide +kernel) (by decide +kernel) (kx_s_nm (JS 15))) (kx_s_lconst (i := 1) G (by decide +kernel) (by decide +kernel) (kx_s_goto (off := 4) (tgt := 15) G (by decide +kernel) rfl (kx_s_nm (JS 15))))))))))
set_option maxRecDepth 20000 in
theorem sk_164_15 (X : kx_XW p l e R s m args below meth c s0 D cA 4 ι0 h0 rr hf method_15_code "TaskDeskLaw" C d kH_164 J) : kx_Sn p l e R s m args below meth c s0 D cA 4 ι0 h0 rr hf 15 (bk_164_15 d C J) := by
  obtain ⟨G, CS, R9, EX, RT, NC, JS⟩ := X
  exact (kx_s_asL G ka_100 (by decide +kernel) (kx_s_goto (off := 12) (tgt := 28) G (by decide +kernel) rfl (kx_s_iconst (i := 0) G (by decide +kernel) (by decide +kernel) (kx_s_ireturn G RT (by decide +kernel)))))
theorem sm_164 (X : kx_XW p l e R s m args below meth c s0 D cA 4 ι0 h0 rr hf method_15_code "TaskDeskLaw" C d kH_164 J) (b : Nat) : kx_Sn p l e R s m args below meth c s0 D cA 4 ι0 h0 rr hf b (bm_164 d C b J) := by
  unfold bm_164
  cases h0 : Nat.beq b 0 with
  | true => rw [Nat.eq_of_beq_eq_true h0]; exact sk_164_0 X
  | false =>
   cases h15 : Nat.beq b 15 with
   | true => rw [Nat.eq_of_beq_eq_true h15]; exact sk_164_15 X
   | false =>
    exact kx_s_no
/-! the helper read -/
def kH_165 : List kx_HE := [(0, 16, 19, 25, 1, 1), (0, 16, 22, 13, 0, 2)]
theorem kh_165 {pc : Nat} (h1 : 0 ≤ pc) (h2 : pc < 16) : kx_hs "TaskDeskLaw" method_16_code 4 pc kH_165 := List.forall_mem_cons.mpr ⟨⟨Nat.le_trans (by decide) h1, Nat.lt_of_lt_of_le h2 (by decide), by decide, by decide, kw_619, kw_627, 1, Or.inl ⟨3, rfl, by decide +kernel, by decide⟩, 1, by decide +kernel, by decide +kernel, by decide +kernel⟩, List.forall_mem_cons.mpr ⟨⟨Nat.le_trans (by decide) h1, Nat.lt_of_lt_of_le h2 (by decide), by decide, by decide, kw_461, kw_472, 1, Or.inl ⟨3, rfl, by decide +kernel, by decide⟩, 2, by decide +kernel, by decide +kernel, by decide +kernel⟩, List.forall_mem_nil _⟩⟩
def bk_165_0 (d : Nat) (C : kx_C) (J : Nat → kx_F) : kx_F := (kx_la 2 (kx_c (kx_i 0) (kx_la 0 (kx_li 1 (kx_Vic C 71 0 [0] kH_165 (kx_ifeq (kx_c (kx_l 0) (kx_nm [] (J 15))) (kx_c (kx_l 1) (kx_nm [] (J 15)))))))))
def bk_165_15 (d : Nat) (C : kx_C) (J : Nat → kx_F) : kx_F := (kx_asL 100 (kx_c (kx_i 0) kx_ri))
def bm_165 (d : Nat) (C : kx_C) (b : Nat) (J : Nat → kx_F) : kx_F := bif Nat.beq b 0 then bk_165_0 d C J else bif Nat.beq b 15 then bk_165_15 d C J else fun _ _ _ => none
set_option maxRecDepth 20000 in
theorem sk_165_0 (X : kx_XW p l e R s m args below meth c s0 D cA 4 ι0 h0 rr hf method_16_code "TaskDeskLaw" C d kH_165 J) : kx_Sn p l e R s m args below meth c s0 D cA 4 ι0 h0 rr hf 0 (bk_165_0 d C J) := by
  obtain ⟨G, CS, R9, EX, RT, NC, JS⟩ := X
  exact (kx_s_aload_n (j := 2) G rfl (by decide +kernel) (kx_s_iconst (i := 0) G (by decide +kernel) (by decide +kernel) (kx_s_aload_n (j := 0) G rfl (by decide +kernel) (kx_s_iload_n (j := 1) G rfl (by decide +kernel) (kx_s_Vic (n := 71) G kx_good CS R9 EX (kh_165 (by decide) (by decide)) NC RT kc_71 rfl kw_813 kw_814 kw_815 (r := kr_0) rfl (by decide) (by decide +kernel) (kx_s_ifeq (off := 7) (tgt := 14) G (by decide +kernel) rfl (kx_s_lconst (i := 0) G (by decide +kernel) (by decide +kernel) (kx_s_nm (JS 15))) (kx_s_lconst (i := 1) G (by decide +kernel) (by decide +kernel) (kx_s_goto (off := 4) (tgt := 15) G (by decide +kernel) rfl (kx_s_nm (JS 15))))))))))
set_option maxRecDepth 20000 in
theorem sk_165_15 (X : kx_XW p l e R s m args below meth c s0 D cA 4 ι0 h0 rr hf method_16_code "TaskDeskLaw" C d kH_165 J) : kx_Sn p l e R s m args below meth c s0 D cA 4 ι0 h0 rr hf 15 (bk_165_15 d C J) := by
  obtain ⟨G, CS, R9, EX, RT, NC, JS⟩ := X
  exact (kx_s_asL G ka_100 (by decide +kernel) (kx_s_goto (off := 9) (tgt := 25) G (by decide +kernel) rfl (kx_s_iconst (i := 0) G (by decide +kernel) (by decide +kernel) (kx_s_ireturn G RT (by decide +kernel)))))
theorem sm_165 (X : kx_XW p l e R s m args below meth c s0 D cA 4 ι0 h0 rr hf method_16_code "TaskDeskLaw" C d kH_165 J) (b : Nat) : kx_Sn p l e R s m args below meth c s0 D cA 4 ι0 h0 rr hf b (bm_165 d C b J) := by
  unfold bm_165
  cases h0 : Nat.beq b 0 with
  | true => rw [Nat.eq_of_beq_eq_true h0]; exact sk_165_0 X
  | false =>
   cases h15 : Nat.beq b 15 with
   | true => rw [Nat.eq_of_beq_eq_true h15]; exact sk_165_15 X
   | false =>
    exact kx_s_no
/-! the helper leave -/
def kH_166 : List kx_HE := [(0, 5, 8, 25, 1, 1), (0, 5, 11, 13, 0, 2), (0, 5, 14, 39, 2, 3)]
theorem kh_166 {pc : Nat} (h1 : 0 ≤ pc) (h2 : pc < 5) : kx_hs "TaskDeskLaw" method_17_code 3 pc kH_166 := List.forall_mem_cons.mpr ⟨⟨Nat.le_trans (by decide) h1, Nat.lt_of_lt_of_le h2 (by decide), by decide, by decide, kw_619, kw_627, 1, Or.inl ⟨2, rfl, by decide +kernel, by decide⟩, 1, by decide +kernel, by decide +kernel, by decide +kernel⟩, List.forall_mem_cons.mpr ⟨⟨Nat.le_trans (by decide) h1, Nat.lt_of_lt_of_le h2 (by decide), by decide, by decide, kw_461, kw_472, 1, Or.inl ⟨2, rfl, by decide +kernel, by decide⟩, 2, by decide +kernel, by decide +kernel, by decide +kernel⟩, List.forall_mem_cons.mpr ⟨⟨Nat.le_trans (by decide) h1, Nat.lt_of_lt_of_le h2 (by decide), by decide, by decide, kw_674, kw_686, 1, Or.inl ⟨2, rfl, by decide +kernel, by decide⟩, 3, by decide +kernel, by decide +kernel, by decide +kernel⟩, List.forall_mem_nil _⟩⟩⟩
def bk_166_0 (d : Nat) (C : kx_C) (J : Nat → kx_F) : kx_F := (kx_la 0 (kx_li 1 (kx_Vvc C 72 0 [0] kH_166 (kx_c (kx_i 0) kx_ri))))
def bm_166 (d : Nat) (C : kx_C) (b : Nat) (J : Nat → kx_F) : kx_F := bif Nat.beq b 0 then bk_166_0 d C J else fun _ _ _ => none
set_option maxRecDepth 20000 in
theorem sk_166_0 (X : kx_XW p l e R s m args below meth c s0 D cA 3 ι0 h0 rr hf method_17_code "TaskDeskLaw" C d kH_166 J) : kx_Sn p l e R s m args below meth c s0 D cA 3 ι0 h0 rr hf 0 (bk_166_0 d C J) := by
  obtain ⟨G, CS, R9, EX, RT, NC, JS⟩ := X
  exact (kx_s_aload_n (j := 0) G rfl (by decide +kernel) (kx_s_iload_n (j := 1) G rfl (by decide +kernel) (kx_s_Vvc (n := 72) G kx_good CS R9 EX (kh_166 (by decide) (by decide)) NC RT kc_72 rfl kw_821 kw_822 kw_823 (r := kr_0) rfl (by decide) (by decide +kernel) (kx_s_goto (off := 12) (tgt := 17) G (by decide +kernel) rfl (kx_s_iconst (i := 0) G (by decide +kernel) (by decide +kernel) (kx_s_ireturn G RT (by decide +kernel)))))))
theorem sm_166 (X : kx_XW p l e R s m args below meth c s0 D cA 3 ι0 h0 rr hf method_17_code "TaskDeskLaw" C d kH_166 J) (b : Nat) : kx_Sn p l e R s m args below meth c s0 D cA 3 ι0 h0 rr hf b (bm_166 d C b J) := by
  unfold bm_166
  cases h0 : Nat.beq b 0 with
  | true => rw [Nat.eq_of_beq_eq_true h0]; exact sk_166_0 X
  | false =>
   exact kx_s_no
/-! the helper change -/
def kH_167 : List kx_HE := [(0, 6, 9, 25, 1, 1), (0, 6, 12, 13, 0, 2), (0, 6, 15, 39, 2, 3)]
theorem kh_167 {pc : Nat} (h1 : 0 ≤ pc) (h2 : pc < 6) : kx_hs "TaskDeskLaw" method_18_code 4 pc kH_167 := List.forall_mem_cons.mpr ⟨⟨Nat.le_trans (by decide) h1, Nat.lt_of_lt_of_le h2 (by decide), by decide, by decide, kw_619, kw_627, 1, Or.inl ⟨3, rfl, by decide +kernel, by decide⟩, 1, by decide +kernel, by decide +kernel, by decide +kernel⟩, List.forall_mem_cons.mpr ⟨⟨Nat.le_trans (by decide) h1, Nat.lt_of_lt_of_le h2 (by decide), by decide, by decide, kw_461, kw_472, 1, Or.inl ⟨3, rfl, by decide +kernel, by decide⟩, 2, by decide +kernel, by decide +kernel, by decide +kernel⟩, List.forall_mem_cons.mpr ⟨⟨Nat.le_trans (by decide) h1, Nat.lt_of_lt_of_le h2 (by decide), by decide, by decide, kw_674, kw_686, 1, Or.inl ⟨3, rfl, by decide +kernel, by decide⟩, 3, by decide +kernel, by decide +kernel, by decide +kernel⟩, List.forall_mem_nil _⟩⟩⟩
def bk_167_0 (d : Nat) (C : kx_C) (J : Nat → kx_F) : kx_F := (kx_la 0 (kx_li 1 (kx_li 2 (kx_Vvc C 78 0 [0, 0] kH_167 (kx_c (kx_i 0) kx_ri)))))
def bm_167 (d : Nat) (C : kx_C) (b : Nat) (J : Nat → kx_F) : kx_F := bif Nat.beq b 0 then bk_167_0 d C J else fun _ _ _ => none
set_option maxRecDepth 20000 in
theorem sk_167_0 (X : kx_XW p l e R s m args below meth c s0 D cA 4 ι0 h0 rr hf method_18_code "TaskDeskLaw" C d kH_167 J) : kx_Sn p l e R s m args below meth c s0 D cA 4 ι0 h0 rr hf 0 (bk_167_0 d C J) := by
  obtain ⟨G, CS, R9, EX, RT, NC, JS⟩ := X
  exact (kx_s_aload_n (j := 0) G rfl (by decide +kernel) (kx_s_iload_n (j := 1) G rfl (by decide +kernel) (kx_s_iload_n (j := 2) G rfl (by decide +kernel) (kx_s_Vvc (n := 78) G kx_good CS R9 EX (kh_167 (by decide) (by decide)) NC RT kc_78 rfl kw_849 kw_850 kw_851 (r := kr_0) rfl (by decide) (by decide +kernel) (kx_s_goto (off := 12) (tgt := 18) G (by decide +kernel) rfl (kx_s_iconst (i := 0) G (by decide +kernel) (by decide +kernel) (kx_s_ireturn G RT (by decide +kernel))))))))
theorem sm_167 (X : kx_XW p l e R s m args below meth c s0 D cA 4 ι0 h0 rr hf method_18_code "TaskDeskLaw" C d kH_167 J) (b : Nat) : kx_Sn p l e R s m args below meth c s0 D cA 4 ι0 h0 rr hf b (bm_167 d C b J) := by
  unfold bm_167
  cases h0 : Nat.beq b 0 with
  | true => rw [Nat.eq_of_beq_eq_true h0]; exact sk_167_0 X
  | false =>
   exact kx_s_no
/-! the helper task -/
def kH_168 : List kx_HE := [(0, 10, 13, 77, 3, 1)]
theorem kh_168 {pc : Nat} (h1 : 0 ≤ pc) (h2 : pc < 10) : kx_hs "TaskDeskLaw" method_19_code 5 pc kH_168 := List.forall_mem_cons.mpr ⟨⟨Nat.le_trans (by decide) h1, Nat.lt_of_lt_of_le h2 (by decide), by decide, by decide, kw_871, kw_882, 2, Or.inr ⟨4, rfl, by decide +kernel, by decide⟩, 1, by decide +kernel, by decide +kernel, by decide +kernel⟩, List.forall_mem_nil _⟩
def bk_168_0 (d : Nat) (C : kx_C) (J : Nat → kx_F) : kx_F := (kx_la 3 (kx_c (kx_i 0) (kx_la 0 (kx_li 1 (kx_li 2 (kx_Vic C 82 0 [0, 0] kH_168 (kx_i2l (kx_asL 100 (kx_c (kx_i 0) kx_ri)))))))))
def bm_168 (d : Nat) (C : kx_C) (b : Nat) (J : Nat → kx_F) : kx_F := bif Nat.beq b 0 then bk_168_0 d C J else fun _ _ _ => none
set_option maxRecDepth 20000 in
theorem sk_168_0 (X : kx_XW p l e R s m args below meth c s0 D cA 5 ι0 h0 rr hf method_19_code "TaskDeskLaw" C d kH_168 J) : kx_Sn p l e R s m args below meth c s0 D cA 5 ι0 h0 rr hf 0 (bk_168_0 d C J) := by
  obtain ⟨G, CS, R9, EX, RT, NC, JS⟩ := X
  exact (kx_s_aload_n (j := 3) G rfl (by decide +kernel) (kx_s_iconst (i := 0) G (by decide +kernel) (by decide +kernel) (kx_s_aload_n (j := 0) G rfl (by decide +kernel) (kx_s_iload_n (j := 1) G rfl (by decide +kernel) (kx_s_iload_n (j := 2) G rfl (by decide +kernel) (kx_s_Vic (n := 82) G kx_good CS R9 EX (kh_168 (by decide) (by decide)) NC RT kc_82 rfl kw_872 kw_873 kw_874 (r := kr_0) rfl (by decide) (by decide +kernel) (kx_s_i2l G (by decide +kernel) (kx_s_asL G ka_100 (by decide +kernel) (kx_s_goto (off := 7) (tgt := 17) G (by decide +kernel) rfl (kx_s_iconst (i := 0) G (by decide +kernel) (by decide +kernel) (kx_s_ireturn G RT (by decide +kernel))))))))))))
theorem sm_168 (X : kx_XW p l e R s m args below meth c s0 D cA 5 ι0 h0 rr hf method_19_code "TaskDeskLaw" C d kH_168 J) (b : Nat) : kx_Sn p l e R s m args below meth c s0 D cA 5 ι0 h0 rr hf b (bm_168 d C b J) := by
  unfold bm_168
  cases h0 : Nat.beq b 0 with
  | true => rw [Nat.eq_of_beq_eq_true h0]; exact sk_168_0 X
  | false =>
   exact kx_s_no
/-! the helper outcome -/
def kH_169 : List kx_HE := [(0, 8, 11, 77, 3, 1)]
theorem kh_169 {pc : Nat} (h1 : 0 ≤ pc) (h2 : pc < 8) : kx_hs "TaskDeskLaw" method_20_code 4 pc kH_169 := List.forall_mem_cons.mpr ⟨⟨Nat.le_trans (by decide) h1, Nat.lt_of_lt_of_le h2 (by decide), by decide, by decide, kw_871, kw_882, 1, Or.inl ⟨3, rfl, by decide +kernel, by decide⟩, 1, by decide +kernel, by decide +kernel, by decide +kernel⟩, List.forall_mem_nil _⟩
def bk_169_0 (d : Nat) (C : kx_C) (J : Nat → kx_F) : kx_F := (kx_la 2 (kx_c (kx_i 0) (kx_la 0 (kx_li 1 (kx_Vlc C 85 0 [0] kH_169 (kx_asL 100 (kx_c (kx_i 0) kx_ri)))))))
def bm_169 (d : Nat) (C : kx_C) (b : Nat) (J : Nat → kx_F) : kx_F := bif Nat.beq b 0 then bk_169_0 d C J else fun _ _ _ => none
set_option maxRecDepth 20000 in
theorem sk_169_0 (X : kx_XW p l e R s m args below meth c s0 D cA 4 ι0 h0 rr hf method_20_code "TaskDeskLaw" C d kH_169 J) : kx_Sn p l e R s m args below meth c s0 D cA 4 ι0 h0 rr hf 0 (bk_169_0 d C J) := by
  obtain ⟨G, CS, R9, EX, RT, NC, JS⟩ := X
  exact (kx_s_aload_n (j := 2) G rfl (by decide +kernel) (kx_s_iconst (i := 0) G (by decide +kernel) (by decide +kernel) (kx_s_aload_n (j := 0) G rfl (by decide +kernel) (kx_s_iload_n (j := 1) G rfl (by decide +kernel) (kx_s_Vlc (n := 85) G kx_good CS R9 EX (kh_169 (by decide) (by decide)) NC RT kc_85 rfl kw_904 kw_905 kw_906 (r := kr_0) rfl (by decide) (by decide +kernel) (kx_s_asL G ka_100 (by decide +kernel) (kx_s_goto (off := 6) (tgt := 14) G (by decide +kernel) rfl (kx_s_iconst (i := 0) G (by decide +kernel) (by decide +kernel) (kx_s_ireturn G RT (by decide +kernel))))))))))
theorem sm_169 (X : kx_XW p l e R s m args below meth c s0 D cA 4 ι0 h0 rr hf method_20_code "TaskDeskLaw" C d kH_169 J) (b : Nat) : kx_Sn p l e R s m args below meth c s0 D cA 4 ι0 h0 rr hf b (bm_169 d C b J) := by
  unfold bm_169
  cases h0 : Nat.beq b 0 with
  | true => rw [Nat.eq_of_beq_eq_true h0]; exact sk_169_0 X
  | false =>
   exact kx_s_no
/-! the helper look -/
def kH_170 : List kx_HE := [(0, 10, 13, 77, 3, 1)]
theorem kh_170 {pc : Nat} (h1 : 0 ≤ pc) (h2 : pc < 10) : kx_hs "TaskDeskLaw" method_21_code 5 pc kH_170 := List.forall_mem_cons.mpr ⟨⟨Nat.le_trans (by decide) h1, Nat.lt_of_lt_of_le h2 (by decide), by decide, by decide, kw_871, kw_882, 2, Or.inr ⟨4, rfl, by decide +kernel, by decide⟩, 1, by decide +kernel, by decide +kernel, by decide +kernel⟩, List.forall_mem_nil _⟩
def bk_170_0 (d : Nat) (C : kx_C) (J : Nat → kx_F) : kx_F := (kx_la 3 (kx_c (kx_i 0) (kx_la 0 (kx_li 1 (kx_li 2 (kx_Vic C 86 0 [0, 0] kH_170 (kx_i2l (kx_asL 100 (kx_c (kx_i 0) kx_ri)))))))))
def bm_170 (d : Nat) (C : kx_C) (b : Nat) (J : Nat → kx_F) : kx_F := bif Nat.beq b 0 then bk_170_0 d C J else fun _ _ _ => none
set_option maxRecDepth 20000 in
theorem sk_170_0 (X : kx_XW p l e R s m args below meth c s0 D cA 5 ι0 h0 rr hf method_21_code "TaskDeskLaw" C d kH_170 J) : kx_Sn p l e R s m args below meth c s0 D cA 5 ι0 h0 rr hf 0 (bk_170_0 d C J) := by
  obtain ⟨G, CS, R9, EX, RT, NC, JS⟩ := X
  exact (kx_s_aload_n (j := 3) G rfl (by decide +kernel) (kx_s_iconst (i := 0) G (by decide +kernel) (by decide +kernel) (kx_s_aload_n (j := 0) G rfl (by decide +kernel) (kx_s_iload_n (j := 1) G rfl (by decide +kernel) (kx_s_iload_n (j := 2) G rfl (by decide +kernel) (kx_s_Vic (n := 86) G kx_good CS R9 EX (kh_170 (by decide) (by decide)) NC RT kc_86 rfl kw_911 kw_912 kw_913 (r := kr_0) rfl (by decide) (by decide +kernel) (kx_s_i2l G (by decide +kernel) (kx_s_asL G ka_100 (by decide +kernel) (kx_s_goto (off := 7) (tgt := 17) G (by decide +kernel) rfl (kx_s_iconst (i := 0) G (by decide +kernel) (by decide +kernel) (kx_s_ireturn G RT (by decide +kernel))))))))))))
theorem sm_170 (X : kx_XW p l e R s m args below meth c s0 D cA 5 ι0 h0 rr hf method_21_code "TaskDeskLaw" C d kH_170 J) (b : Nat) : kx_Sn p l e R s m args below meth c s0 D cA 5 ι0 h0 rr hf b (bm_170 d C b J) := by
  unfold bm_170
  cases h0 : Nat.beq b 0 with
  | true => rw [Nat.eq_of_beq_eq_true h0]; exact sk_170_0 X
  | false =>
   exact kx_s_no
/-! the helper watch -/
def kH_171 : List kx_HE := [(0, 10, 13, 77, 3, 1)]
theorem kh_171 {pc : Nat} (h1 : 0 ≤ pc) (h2 : pc < 10) : kx_hs "TaskDeskLaw" method_22_code 5 pc kH_171 := List.forall_mem_cons.mpr ⟨⟨Nat.le_trans (by decide) h1, Nat.lt_of_lt_of_le h2 (by decide), by decide, by decide, kw_871, kw_882, 2, Or.inr ⟨4, rfl, by decide +kernel, by decide⟩, 1, by decide +kernel, by decide +kernel, by decide +kernel⟩, List.forall_mem_nil _⟩
def bk_171_0 (d : Nat) (C : kx_C) (J : Nat → kx_F) : kx_F := (kx_la 3 (kx_c (kx_i 0) (kx_la 0 (kx_li 1 (kx_li 2 (kx_Vic C 87 0 [0, 0] kH_171 (kx_i2l (kx_asL 100 (kx_c (kx_i 0) kx_ri)))))))))
def bm_171 (d : Nat) (C : kx_C) (b : Nat) (J : Nat → kx_F) : kx_F := bif Nat.beq b 0 then bk_171_0 d C J else fun _ _ _ => none
set_option maxRecDepth 20000 in
theorem sk_171_0 (X : kx_XW p l e R s m args below meth c s0 D cA 5 ι0 h0 rr hf method_22_code "TaskDeskLaw" C d kH_171 J) : kx_Sn p l e R s m args below meth c s0 D cA 5 ι0 h0 rr hf 0 (bk_171_0 d C J) := by
  obtain ⟨G, CS, R9, EX, RT, NC, JS⟩ := X
  exact (kx_s_aload_n (j := 3) G rfl (by decide +kernel) (kx_s_iconst (i := 0) G (by decide +kernel) (by decide +kernel) (kx_s_aload_n (j := 0) G rfl (by decide +kernel) (kx_s_iload_n (j := 1) G rfl (by decide +kernel) (kx_s_iload_n (j := 2) G rfl (by decide +kernel) (kx_s_Vic (n := 87) G kx_good CS R9 EX (kh_171 (by decide) (by decide)) NC RT kc_87 rfl kw_919 kw_920 kw_921 (r := kr_0) rfl (by decide) (by decide +kernel) (kx_s_i2l G (by decide +kernel) (kx_s_asL G ka_100 (by decide +kernel) (kx_s_goto (off := 7) (tgt := 17) G (by decide +kernel) rfl (kx_s_iconst (i := 0) G (by decide +kernel) (by decide +kernel) (kx_s_ireturn G RT (by decide +kernel))))))))))))
theorem sm_171 (X : kx_XW p l e R s m args below meth c s0 D cA 5 ι0 h0 rr hf method_22_code "TaskDeskLaw" C d kH_171 J) (b : Nat) : kx_Sn p l e R s m args below meth c s0 D cA 5 ι0 h0 rr hf b (bm_171 d C b J) := by
  unfold bm_171
  cases h0 : Nat.beq b 0 with
  | true => rw [Nat.eq_of_beq_eq_true h0]; exact sk_171_0 X
  | false =>
   exact kx_s_no
end KL
