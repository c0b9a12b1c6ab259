section KB
variable {p : Program} {l : Launch} {e : Env} {R : Room} {s : State} {m : MethodId} {args : Array Value} {below : List Frame} {meth : Method} {c : Code} {s0 : State} {D : va_G} {cA : Nat → ClassId} {ι0 : Nat → Nat} {h0 hf : kx_H} {rr : kx_R} {C : kx_C} {d : Nat} {J : Nat → kx_F}
/-! TaskDesk$Row.<init>()V -/
def bk_1_0 (d : Nat) (C : kx_C) (J : Nat → kx_F) : kx_F := (kx_la 0 (kx_obj kx_rv))
def bm_1 (d : Nat) (C : kx_C) (b : Nat) (J : Nat → kx_F) : kx_F := bif Nat.beq b 0 then bk_1_0 d C J else fun _ _ _ => none
set_option maxRecDepth 20000 in
theorem sk_1_0 (X : kx_X p l e R s m args below meth c s0 D cA 1 ι0 h0 rr hf prog_6_method_1_code "TaskDesk$Row" C d (Option.none : Option Jvm.ClassFile.FieldType) "<init>" J) : kx_Sn p l e R s m args below meth c s0 D cA 1 ι0 h0 rr hf 0 (bk_1_0 d C J) := by
  obtain ⟨G, CS, R9, O9, RT, NM, T0, FL, JS⟩ := X
  exact (kx_s_aload_n (j := 0) G rfl (by decide +kernel) (kx_s_obj G kw_112 kw_103 kw_104 (by have := R9.1; omega) (by have := R9.2; omega) (by decide +kernel) (kx_s_return G RT (by decide +kernel))))
theorem sm_1 (X : kx_X p l e R s m args below meth c s0 D cA 1 ι0 h0 rr hf prog_6_method_1_code "TaskDesk$Row" C d (Option.none : Option Jvm.ClassFile.FieldType) "<init>" J) (b : Nat) : kx_Sn p l e R s m args below meth c s0 D cA 1 ι0 h0 rr hf b (bm_1 d C b J) := by
  unfold bm_1
  cases h0 : Nat.beq b 0 with
  | true => rw [Nat.eq_of_beq_eq_true h0]; exact sk_1_0 X
  | false =>
   exact kx_s_no
/-! TaskDesk$Agenda.<init>()V -/
def bk_2_0 (d : Nat) (C : kx_C) (J : Nat → kx_F) : kx_F := (kx_la 0 (kx_obj (kx_c (kx_i 0) (kx_si 1 (kx_nm [0, 1] (J 6))))))
def bk_2_6 (d : Nat) (C : kx_C) (J : Nat → kx_F) : kx_F := (kx_li 1 (kx_c (kx_i 512) (kx_cge kx_rv (kx_new kx_cc kx_cs 7 4 (kx_dup (kx_Vv C 3 7 [] (kx_sa 2 (kx_la 2 (kx_la 0 (kx_gR 1 1 7 (kx_pR 7 3 7 (kx_la 0 (kx_la 2 (kx_pR 1 1 7 (kx_inc 1 1 (kx_nm [0, 1] (J 6)))))))))))))))))
def bm_2 (d : Nat) (C : kx_C) (b : Nat) (J : Nat → kx_F) : kx_F := bif Nat.beq b 0 then bk_2_0 d C J else bif Nat.beq b 6 then bk_2_6 d C J else fun _ _ _ => none
set_option maxRecDepth 20000 in
theorem sk_2_0 (X : kx_X p l e R s m args below meth c s0 D cA 3 ι0 h0 rr hf prog_2_method_1_code "TaskDesk$Agenda" C d (Option.none : Option Jvm.ClassFile.FieldType) "<init>" J) : kx_Sn p l e R s m args below meth c s0 D cA 3 ι0 h0 rr hf 0 (bk_2_0 d C J) := by
  obtain ⟨G, CS, R9, O9, RT, NM, T0, FL, JS⟩ := X
  exact (kx_s_aload_n (j := 0) G rfl (by decide +kernel) (kx_s_obj G kw_134 kw_103 kw_104 (by have := R9.1; omega) (by have := R9.2; omega) (by decide +kernel) (kx_s_iconst (i := 0) G (by decide +kernel) (by decide +kernel) (kx_s_istore_n (j := 1) G rfl (by decide +kernel) (by decide) (kx_s_nm (JS 6))))))
set_option maxRecDepth 20000 in
theorem sk_2_6 (X : kx_X p l e R s m args below meth c s0 D cA 3 ι0 h0 rr hf prog_2_method_1_code "TaskDesk$Agenda" C d (Option.none : Option Jvm.ClassFile.FieldType) "<init>" J) : kx_Sn p l e R s m args below meth c s0 D cA 3 ι0 h0 rr hf 6 (bk_2_6 d C J) := by
  obtain ⟨G, CS, R9, O9, RT, NM, T0, FL, JS⟩ := X
  exact (kx_s_iload_n (j := 1) G rfl (by decide +kernel) (kx_s_sipush (i := 512) G (by decide +kernel) (by decide +kernel) (kx_s_cge (off := 30) (tgt := 40) G (by decide +kernel) rfl (kx_s_return G RT (by decide +kernel)) (kx_s_new G (r := kr_7) rfl (by decide) rfl ki_7 kt_y7 ky_7 kd_7 kw_135 kw_136 kw_83 (by decide +kernel) (kx_s_dup G (by decide +kernel) (kx_s_INv (n := 3) G kx_good CS R9 (O9 _) kc_3 rfl kw_137 kw_138 rfl rfl (by decide +kernel) (kx_s_astore_n (j := 2) G rfl (by decide +kernel) (by decide) (kx_s_aload_n (j := 2) G rfl (by decide +kernel) (kx_s_aload_n (j := 0) G rfl (by decide +kernel) (kx_s_gR G kf_1_12 (by decide +kernel) (kx_s_pR (ty := .object "TaskDesk$Timer") G kf_1_18 rfl (by decide +kernel) rfl (by decide +kernel) (kx_s_aload_n (j := 0) G rfl (by decide +kernel) (kx_s_aload_n (j := 2) G rfl (by decide +kernel) (kx_s_pR (ty := .object "TaskDesk$Timer") G kf_1_12 rfl (by decide +kernel) rfl (by decide +kernel) (kx_s_iinc (n := 1) G (by decide +kernel) (by decide +kernel) (by decide) (kx_s_goto (off := -31) (tgt := 6) G (by decide +kernel) rfl (kx_s_nm (JS 6))))))))))))))))))
theorem sm_2 (X : kx_X p l e R s m args below meth c s0 D cA 3 ι0 h0 rr hf prog_2_method_1_code "TaskDesk$Agenda" C d (Option.none : Option Jvm.ClassFile.FieldType) "<init>" J) (b : Nat) : kx_Sn p l e R s m args below meth c s0 D cA 3 ι0 h0 rr hf b (bm_2 d C b J) := by
  unfold bm_2
  cases h0 : Nat.beq b 0 with
  | true => rw [Nat.eq_of_beq_eq_true h0]; exact sk_2_0 X
  | false =>
   cases h6 : Nat.beq b 6 with
   | true => rw [Nat.eq_of_beq_eq_true h6]; exact sk_2_6 X
   | false =>
    exact kx_s_no
/-! TaskDesk$Timer.<init>()V -/
def bk_3_0 (d : Nat) (C : kx_C) (J : Nat → kx_F) : kx_F := (kx_la 0 (kx_obj kx_rv))
def bm_3 (d : Nat) (C : kx_C) (b : Nat) (J : Nat → kx_F) : kx_F := bif Nat.beq b 0 then bk_3_0 d C J else fun _ _ _ => none
set_option maxRecDepth 20000 in
theorem sk_3_0 (X : kx_X p l e R s m args below meth c s0 D cA 1 ι0 h0 rr hf prog_8_method_1_code "TaskDesk$Timer" C d (Option.none : Option Jvm.ClassFile.FieldType) "<init>" J) : kx_Sn p l e R s m args below meth c s0 D cA 1 ι0 h0 rr hf 0 (bk_3_0 d C J) := by
  obtain ⟨G, CS, R9, O9, RT, NM, T0, FL, JS⟩ := X
  exact (kx_s_aload_n (j := 0) G rfl (by decide +kernel) (kx_s_obj G kw_140 kw_103 kw_104 (by have := R9.1; omega) (by have := R9.2; omega) (by decide +kernel) (kx_s_return G RT (by decide +kernel))))
theorem sm_3 (X : kx_X p l e R s m args below meth c s0 D cA 1 ι0 h0 rr hf prog_8_method_1_code "TaskDesk$Timer" C d (Option.none : Option Jvm.ClassFile.FieldType) "<init>" J) (b : Nat) : kx_Sn p l e R s m args below meth c s0 D cA 1 ι0 h0 rr hf b (bm_3 d C b J) := by
  unfold bm_3
  cases h0 : Nat.beq b 0 with
  | true => rw [Nat.eq_of_beq_eq_true h0]; exact sk_3_0 X
  | false =>
   exact kx_s_no
/-! TaskDesk$Channel.<init>(I)V -/
def bk_4_0 (d : Nat) (C : kx_C) (J : Nat → kx_F) : kx_F := (kx_la 0 (kx_obj (kx_la 0 (kx_new kx_cc kx_cs 5 3 (kx_dup (kx_Vv C 1 5 [] (kx_pR 2 1 5 (kx_la 0 (kx_new kx_cc kx_cs 5 3 (kx_dup (kx_Vv C 1 5 [] (kx_pR 2 2 5 (kx_la 0 (kx_li 1 (kx_pI 2 0 kx_rv)))))))))))))))
def bm_4 (d : Nat) (C : kx_C) (b : Nat) (J : Nat → kx_F) : kx_F := bif Nat.beq b 0 then bk_4_0 d C J else fun _ _ _ => none
set_option maxRecDepth 20000 in
theorem sk_4_0 (X : kx_X p l e R s m args below meth c s0 D cA 2 ι0 h0 rr hf prog_3_method_1_code "TaskDesk$Channel" C d (Option.none : Option Jvm.ClassFile.FieldType) "<init>" J) : kx_Sn p l e R s m args below meth c s0 D cA 2 ι0 h0 rr hf 0 (bk_4_0 d C J) := by
  obtain ⟨G, CS, R9, O9, RT, NM, T0, FL, JS⟩ := X
  exact (kx_s_aload_n (j := 0) G rfl (by decide +kernel) (kx_s_obj G kw_171 kw_103 kw_104 (by have := R9.1; omega) (by have := R9.2; omega) (by decide +kernel) (kx_s_aload_n (j := 0) G rfl (by decide +kernel) (kx_s_new G (r := kr_5) rfl (by decide) rfl ki_5 kt_y5 ky_5 kd_5 kw_172 kw_108 kw_81 (by decide +kernel) (kx_s_dup G (by decide +kernel) (kx_s_INv (n := 1) G kx_good CS R9 (O9 _) kc_1 rfl kw_173 kw_110 rfl rfl (by decide +kernel) (kx_s_pRF (ty := .object "TaskDesk$Row") G kf_2_10 rfl NM rfl (by decide +kernel) rfl (by decide +kernel) (kx_s_aload_n (j := 0) G rfl (by decide +kernel) (kx_s_new G (r := kr_5) rfl (by decide) rfl ki_5 kt_y5 ky_5 kd_5 kw_172 kw_108 kw_81 (by decide +kernel) (kx_s_dup G (by decide +kernel) (kx_s_INv (n := 1) G kx_good CS R9 (O9 _) kc_1 rfl kw_173 kw_110 rfl rfl (by decide +kernel) (kx_s_pRF (ty := .object "TaskDesk$Row") G kf_2_16 rfl NM rfl (by decide +kernel) rfl (by decide +kernel) (kx_s_aload_n (j := 0) G rfl (by decide +kernel) (kx_s_iload_n (j := 1) G rfl (by decide +kernel) (kx_s_pIF G kf_2_19 rfl NM rfl (by decide +kernel) (by decide +kernel) (kx_s_return G RT (by decide +kernel)))))))))))))))))
theorem sm_4 (X : kx_X p l e R s m args below meth c s0 D cA 2 ι0 h0 rr hf prog_3_method_1_code "TaskDesk$Channel" C d (Option.none : Option Jvm.ClassFile.FieldType) "<init>" J) (b : Nat) : kx_Sn p l e R s m args below meth c s0 D cA 2 ι0 h0 rr hf b (bm_4 d C b J) := by
  unfold bm_4
  cases h0 : Nat.beq b 0 with
  | true => rw [Nat.eq_of_beq_eq_true h0]; exact sk_4_0 X
  | false =>
   exact kx_s_no
/-! TaskDesk$Place.<init>(LTaskDesk$Channel;)V -/
def bk_5_0 (d : Nat) (C : kx_C) (J : Nat → kx_F) : kx_F := (kx_la 0 (kx_obj (kx_la 0 (kx_c (kx_i (-1)) (kx_pI 4 4 (kx_la 0 (kx_la 1 (kx_pR 4 1 2 kx_rv))))))))
def bm_5 (d : Nat) (C : kx_C) (b : Nat) (J : Nat → kx_F) : kx_F := bif Nat.beq b 0 then bk_5_0 d C J else fun _ _ _ => none
set_option maxRecDepth 20000 in
theorem sk_5_0 (X : kx_X p l e R s m args below meth c s0 D cA 2 ι0 h0 rr hf prog_5_method_1_code "TaskDesk$Place" C d (Option.none : Option Jvm.ClassFile.FieldType) "<init>" J) : kx_Sn p l e R s m args below meth c s0 D cA 2 ι0 h0 rr hf 0 (bk_5_0 d C J) := by
  obtain ⟨G, CS, R9, O9, RT, NM, T0, FL, JS⟩ := X
  exact (kx_s_aload_n (j := 0) G rfl (by decide +kernel) (kx_s_obj G kw_219 kw_103 kw_104 (by have := R9.1; omega) (by have := R9.2; omega) (by decide +kernel) (kx_s_aload_n (j := 0) G rfl (by decide +kernel) (kx_s_iconst (i := -1) G (by decide +kernel) (by decide +kernel) (kx_s_pI G kf_4_9 rfl (by decide +kernel) (by decide +kernel) (kx_s_aload_n (j := 0) G rfl (by decide +kernel) (kx_s_aload_n (j := 1) G rfl (by decide +kernel) (kx_s_pR (ty := .object "TaskDesk$Channel") G kf_4_15 rfl (by decide +kernel) rfl (by decide +kernel) (kx_s_return G RT (by decide +kernel))))))))))
theorem sm_5 (X : kx_X p l e R s m args below meth c s0 D cA 2 ι0 h0 rr hf prog_5_method_1_code "TaskDesk$Place" C d (Option.none : Option Jvm.ClassFile.FieldType) "<init>" J) (b : Nat) : kx_Sn p l e R s m args below meth c s0 D cA 2 ι0 h0 rr hf b (bm_5 d C b J) := by
  unfold bm_5
  cases h0 : Nat.beq b 0 with
  | true => rw [Nat.eq_of_beq_eq_true h0]; exact sk_5_0 X
  | false =>
   exact kx_s_no
/-! TaskDesk$Task.<init>(ILTaskDesk$Place;)V -/
def bk_6_0 (d : Nat) (C : kx_C) (J : Nat → kx_F) : kx_F := (kx_la 0 (kx_obj (kx_la 0 (kx_li 1 (kx_pI 6 0 (kx_la 0 (kx_la 2 (kx_pR 6 1 4 kx_rv))))))))
def bm_6 (d : Nat) (C : kx_C) (b : Nat) (J : Nat → kx_F) : kx_F := bif Nat.beq b 0 then bk_6_0 d C J else fun _ _ _ => none
set_option maxRecDepth 20000 in
theorem sk_6_0 (X : kx_X p l e R s m args below meth c s0 D cA 3 ι0 h0 rr hf prog_7_method_1_code "TaskDesk$Task" C d (Option.none : Option Jvm.ClassFile.FieldType) "<init>" J) : kx_Sn p l e R s m args below meth c s0 D cA 3 ι0 h0 rr hf 0 (bk_6_0 d C J) := by
  obtain ⟨G, CS, R9, O9, RT, NM, T0, FL, JS⟩ := X
  exact (kx_s_aload_n (j := 0) G rfl (by decide +kernel) (kx_s_obj G kw_260 kw_103 kw_104 (by have := R9.1; omega) (by have := R9.2; omega) (by decide +kernel) (kx_s_aload_n (j := 0) G rfl (by decide +kernel) (kx_s_iload_n (j := 1) G rfl (by decide +kernel) (kx_s_pIF G kf_6_9 rfl NM rfl (by decide +kernel) (by decide +kernel) (kx_s_aload_n (j := 0) G rfl (by decide +kernel) (kx_s_aload_n (j := 2) G rfl (by decide +kernel) (kx_s_pRF (ty := .object "TaskDesk$Place") G kf_6_15 rfl NM rfl (by decide +kernel) rfl (by decide +kernel) (kx_s_return G RT (by decide +kernel))))))))))
theorem sm_6 (X : kx_X p l e R s m args below meth c s0 D cA 3 ι0 h0 rr hf prog_7_method_1_code "TaskDesk$Task" C d (Option.none : Option Jvm.ClassFile.FieldType) "<init>" J) (b : Nat) : kx_Sn p l e R s m args below meth c s0 D cA 3 ι0 h0 rr hf b (bm_6 d C b J) := by
  unfold bm_6
  cases h0 : Nat.beq b 0 with
  | true => rw [Nat.eq_of_beq_eq_true h0]; exact sk_6_0 X
  | false =>
   exact kx_s_no
/-! TaskDesk$Gate.<init>(I)V -/
def bk_7_0 (d : Nat) (C : kx_C) (J : Nat → kx_F) : kx_F := (kx_la 0 (kx_obj (kx_la 0 (kx_new kx_cc kx_cs 5 3 (kx_dup (kx_Vv C 1 5 [] (kx_pR 3 1 5 (kx_la 0 (kx_new kx_cc kx_cs 5 3 (kx_dup (kx_Vv C 1 5 [] (kx_pR 3 2 5 (kx_la 0 (kx_li 1 (kx_pI 3 0 kx_rv)))))))))))))))
def bm_7 (d : Nat) (C : kx_C) (b : Nat) (J : Nat → kx_F) : kx_F := bif Nat.beq b 0 then bk_7_0 d C J else fun _ _ _ => none
set_option maxRecDepth 20000 in
theorem sk_7_0 (X : kx_X p l e R s m args below meth c s0 D cA 2 ι0 h0 rr hf prog_4_method_1_code "TaskDesk$Gate" C d (Option.none : Option Jvm.ClassFile.FieldType) "<init>" J) : kx_Sn p l e R s m args below meth c s0 D cA 2 ι0 h0 rr hf 0 (bk_7_0 d C J) := by
  obtain ⟨G, CS, R9, O9, RT, NM, T0, FL, JS⟩ := X
  exact (kx_s_aload_n (j := 0) G rfl (by decide +kernel) (kx_s_obj G kw_306 kw_103 kw_104 (by have := R9.1; omega) (by have := R9.2; omega) (by decide +kernel) (kx_s_aload_n (j := 0) G rfl (by decide +kernel) (kx_s_new G (r := kr_5) rfl (by decide) rfl ki_5 kt_y5 ky_5 kd_5 kw_307 kw_108 kw_81 (by decide +kernel) (kx_s_dup G (by decide +kernel) (kx_s_INv (n := 1) G kx_good CS R9 (O9 _) kc_1 rfl kw_308 kw_110 rfl rfl (by decide +kernel) (kx_s_pRF (ty := .object "TaskDesk$Row") G kf_3_12 rfl NM rfl (by decide +kernel) rfl (by decide +kernel) (kx_s_aload_n (j := 0) G rfl (by decide +kernel) (kx_s_new G (r := kr_5) rfl (by decide) rfl ki_5 kt_y5 ky_5 kd_5 kw_307 kw_108 kw_81 (by decide +kernel) (kx_s_dup G (by decide +kernel) (kx_s_INv (n := 1) G kx_good CS R9 (O9 _) kc_1 rfl kw_308 kw_110 rfl rfl (by decide +kernel) (kx_s_pRF (ty := .object "TaskDesk$Row") G kf_3_18 rfl NM rfl (by decide +kernel) rfl (by decide +kernel) (kx_s_aload_n (j := 0) G rfl (by decide +kernel) (kx_s_iload_n (j := 1) G rfl (by decide +kernel) (kx_s_pIF G kf_3_21 rfl NM rfl (by decide +kernel) (by decide +kernel) (kx_s_return G RT (by decide +kernel)))))))))))))))))
theorem sm_7 (X : kx_X p l e R s m args below meth c s0 D cA 2 ι0 h0 rr hf prog_4_method_1_code "TaskDesk$Gate" C d (Option.none : Option Jvm.ClassFile.FieldType) "<init>" J) (b : Nat) : kx_Sn p l e R s m args below meth c s0 D cA 2 ι0 h0 rr hf b (bm_7 d C b J) := by
  unfold bm_7
  cases h0 : Nat.beq b 0 with
  | true => rw [Nat.eq_of_beq_eq_true h0]; exact sk_7_0 X
  | false =>
   exact kx_s_no
/-! TaskDesk$Value.<init>()V -/
def bk_8_0 (d : Nat) (C : kx_C) (J : Nat → kx_F) : kx_F := (kx_la 0 (kx_obj kx_rv))
def bm_8 (d : Nat) (C : kx_C) (b : Nat) (J : Nat → kx_F) : kx_F := bif Nat.beq b 0 then bk_8_0 d C J else fun _ _ _ => none
set_option maxRecDepth 20000 in
theorem sk_8_0 (X : kx_X p l e R s m args below meth c s0 D cA 1 ι0 h0 rr hf prog_9_method_1_code "TaskDesk$Value" C d (Option.none : Option Jvm.ClassFile.FieldType) "<init>" J) : kx_Sn p l e R s m args below meth c s0 D cA 1 ι0 h0 rr hf 0 (bk_8_0 d C J) := by
  obtain ⟨G, CS, R9, O9, RT, NM, T0, FL, JS⟩ := X
  exact (kx_s_aload_n (j := 0) G rfl (by decide +kernel) (kx_s_obj G kw_338 kw_103 kw_104 (by have := R9.1; omega) (by have := R9.2; omega) (by decide +kernel) (kx_s_return G RT (by decide +kernel))))
theorem sm_8 (X : kx_X p l e R s m args below meth c s0 D cA 1 ι0 h0 rr hf prog_9_method_1_code "TaskDesk$Value" C d (Option.none : Option Jvm.ClassFile.FieldType) "<init>" J) (b : Nat) : kx_Sn p l e R s m args below meth c s0 D cA 1 ι0 h0 rr hf b (bm_8 d C b J) := by
  unfold bm_8
  cases h0 : Nat.beq b 0 with
  | true => rw [Nat.eq_of_beq_eq_true h0]; exact sk_8_0 X
  | false =>
   exact kx_s_no
/-! TaskDesk$Task.begin()V -/
def bk_11_0 (d : Nat) (C : kx_C) (J : Nat → kx_F) : kx_F := (kx_la 0 (kx_c (kx_i 1) (kx_pB 6 2 (kx_la 0 (kx_c (kx_i (-1)) (kx_pI 6 4 (kx_la 0 (kx_c (kx_l 0) (kx_c (kx_i 0) (kx_c (kx_i (-1)) (kx_c (kx_i 0) (kx_Vv C 12 6 [1, 0, 0, 0] kx_rv))))))))))))
def bm_11 (d : Nat) (C : kx_C) (b : Nat) (J : Nat → kx_F) : kx_F := bif Nat.beq b 0 then bk_11_0 d C J else fun _ _ _ => none
set_option maxRecDepth 20000 in
theorem sk_11_0 (X : kx_X p l e R s m args below meth c s0 D cA 1 ι0 h0 rr hf prog_7_method_2_code "TaskDesk$Task" C d (Option.none : Option Jvm.ClassFile.FieldType) "begin" J) : kx_Sn p l e R s m args below meth c s0 D cA 1 ι0 h0 rr hf 0 (bk_11_0 d C J) := by
  obtain ⟨G, CS, R9, O9, RT, NM, T0, FL, JS⟩ := X
  exact (kx_s_aload_n (j := 0) G rfl (by decide +kernel) (kx_s_iconst (i := 1) G (by decide +kernel) (by decide +kernel) (kx_s_pB G kf_6_19 rfl (by decide +kernel) (by decide +kernel) (kx_s_aload_n (j := 0) G rfl (by decide +kernel) (kx_s_iconst (i := -1) G (by decide +kernel) (by decide +kernel) (kx_s_pI G kf_6_23 rfl (by decide +kernel) (by decide +kernel) (kx_s_aload_n (j := 0) G rfl (by decide +kernel) (kx_s_lconst (i := 0) G (by decide +kernel) (by decide +kernel) (kx_s_iconst (i := 0) G (by decide +kernel) (by decide +kernel) (kx_s_iconst (i := -1) G (by decide +kernel) (by decide +kernel) (kx_s_iconst (i := 0) G (by decide +kernel) (by decide +kernel) (kx_s_Vv (n := 12) G kx_good CS R9 (O9 _) kc_12 rfl kw_359 kw_360 kw_361 (r := kr_6) rfl (by decide) (by decide +kernel) (kx_s_return G RT (by decide +kernel))))))))))))))
theorem sm_11 (X : kx_X p l e R s m args below meth c s0 D cA 1 ι0 h0 rr hf prog_7_method_2_code "TaskDesk$Task" C d (Option.none : Option Jvm.ClassFile.FieldType) "begin" J) (b : Nat) : kx_Sn p l e R s m args below meth c s0 D cA 1 ι0 h0 rr hf b (bm_11 d C b J) := by
  unfold bm_11
  cases h0 : Nat.beq b 0 with
  | true => rw [Nat.eq_of_beq_eq_true h0]; exact sk_11_0 X
  | false =>
   exact kx_s_no
/-! TaskDesk$Task.tell(JZIZ)V -/
def bk_12_0 (d : Nat) (C : kx_C) (J : Nat → kx_F) : kx_F := (kx_la 0 (kx_ll 1 (kx_pL 6 6 (kx_la 0 (kx_li 3 (kx_pB 6 7 (kx_la 0 (kx_li 4 (kx_pI 6 8 (kx_la 0 (kx_li 5 (kx_pB 6 9 kx_rv))))))))))))
def bm_12 (d : Nat) (C : kx_C) (b : Nat) (J : Nat → kx_F) : kx_F := bif Nat.beq b 0 then bk_12_0 d C J else fun _ _ _ => none
set_option maxRecDepth 20000 in
theorem sk_12_0 (X : kx_X p l e R s m args below meth c s0 D cA 6 ι0 h0 rr hf prog_7_method_3_code "TaskDesk$Task" C d (Option.none : Option Jvm.ClassFile.FieldType) "tell" J) : kx_Sn p l e R s m args below meth c s0 D cA 6 ι0 h0 rr hf 0 (bk_12_0 d C J) := by
  obtain ⟨G, CS, R9, O9, RT, NM, T0, FL, JS⟩ := X
  exact (kx_s_aload_n (j := 0) G rfl (by decide +kernel) (kx_s_lload_n (j := 1) G rfl (by decide +kernel) (kx_s_pL G kf_6_30 rfl (by decide +kernel) (by decide +kernel) (kx_s_aload_n (j := 0) G rfl (by decide +kernel) (kx_s_iload_n (j := 3) G rfl (by decide +kernel) (kx_s_pB G kf_6_34 rfl (by decide +kernel) (by decide +kernel) (kx_s_aload_n (j := 0) G rfl (by decide +kernel) (kx_s_iload G (by decide +kernel) (kx_s_pI G kf_6_37 rfl (by decide +kernel) (by decide +kernel) (kx_s_aload_n (j := 0) G rfl (by decide +kernel) (kx_s_iload G (by decide +kernel) (kx_s_pB G kf_6_40 rfl (by decide +kernel) (by decide +kernel) (kx_s_return G RT (by decide +kernel))))))))))))))
theorem sm_12 (X : kx_X p l e R s m args below meth c s0 D cA 6 ι0 h0 rr hf prog_7_method_3_code "TaskDesk$Task" C d (Option.none : Option Jvm.ClassFile.FieldType) "tell" J) (b : Nat) : kx_Sn p l e R s m args below meth c s0 D cA 6 ι0 h0 rr hf b (bm_12 d C b J) := by
  unfold bm_12
  cases h0 : Nat.beq b 0 with
  | true => rw [Nat.eq_of_beq_eq_true h0]; exact sk_12_0 X
  | false =>
   exact kx_s_no
/-! TaskDesk$Channel.isAwaited()Z -/
def bk_15_0 (d : Nat) (C : kx_C) (J : Nat → kx_F) : kx_F := (kx_la 0 (kx_gR 2 1 5 (kx_gI 5 2 (kx_ifgt (kx_nm [] (J 27)) (kx_la 0 (kx_gR 2 2 5 (kx_gI 5 2 (kx_ifgt (kx_nm [] (J 27)) (kx_la 0 (kx_gI 2 7 (kx_ifle (kx_c (kx_i 0) (kx_nm [] (J 32))) (kx_nm [] (J 27)))))))))))))
def bk_15_27 (d : Nat) (C : kx_C) (J : Nat → kx_F) : kx_F := (kx_c (kx_i 1) (kx_nm [] (J 32)))
def bk_15_32 (d : Nat) (C : kx_C) (J : Nat → kx_F) : kx_F := kx_rz
def bm_15 (d : Nat) (C : kx_C) (b : Nat) (J : Nat → kx_F) : kx_F := bif Nat.beq b 0 then bk_15_0 d C J else bif Nat.beq b 27 then bk_15_27 d C J else bif Nat.beq b 32 then bk_15_32 d C J else fun _ _ _ => none
set_option maxRecDepth 20000 in
theorem sk_15_0 (X : kx_X p l e R s m args below meth c s0 D cA 1 ι0 h0 rr hf prog_3_method_2_code "TaskDesk$Channel" C d (Option.some Jvm.ClassFile.FieldType.boolean) "isAwaited" J) : kx_Sn p l e R s m args below meth c s0 D cA 1 ι0 h0 rr hf 0 (bk_15_0 d C J) := by
  obtain ⟨G, CS, R9, O9, RT, NM, T0, FL, JS⟩ := X
  exact (kx_s_aload_n (j := 0) G rfl (by decide +kernel) (kx_s_gR G kf_2_10 (by decide +kernel) (kx_s_gI G kf_2_23 (by decide +kernel) (kx_s_ifgt (off := 20) (tgt := 27) G (by decide +kernel) rfl (kx_s_nm (JS 27)) (kx_s_aload_n (j := 0) G rfl (by decide +kernel) (kx_s_gR G kf_2_16 (by decide +kernel) (kx_s_gI G kf_2_23 (by decide +kernel) (kx_s_ifgt (off := 10) (tgt := 27) G (by decide +kernel) rfl (kx_s_nm (JS 27)) (kx_s_aload_n (j := 0) G rfl (by decide +kernel) (kx_s_gI G kf_2_26 (by decide +kernel) (kx_s_ifle (off := 7) (tgt := 31) G (by decide +kernel) rfl (kx_s_iconst (i := 0) G (by decide +kernel) (by decide +kernel) (kx_s_nm (JS 32))) (kx_s_nm (JS 27)))))))))))))
set_option maxRecDepth 20000 in
theorem sk_15_27 (X : kx_X p l e R s m args below meth c s0 D cA 1 ι0 h0 rr hf prog_3_method_2_code "TaskDesk$Channel" C d (Option.some Jvm.ClassFile.FieldType.boolean) "isAwaited" J) : kx_Sn p l e R s m args below meth c s0 D cA 1 ι0 h0 rr hf 27 (bk_15_27 d C J) := by
  obtain ⟨G, CS, R9, O9, RT, NM, T0, FL, JS⟩ := X
  exact (kx_s_iconst (i := 1) G (by decide +kernel) (by decide +kernel) (kx_s_goto (off := 4) (tgt := 32) G (by decide +kernel) rfl (kx_s_nm (JS 32))))
set_option maxRecDepth 20000 in
theorem sk_15_32 (X : kx_X p l e R s m args below meth c s0 D cA 1 ι0 h0 rr hf prog_3_method_2_code "TaskDesk$Channel" C d (Option.some Jvm.ClassFile.FieldType.boolean) "isAwaited" J) : kx_Sn p l e R s m args below meth c s0 D cA 1 ι0 h0 rr hf 32 (bk_15_32 d C J) := by
  obtain ⟨G, CS, R9, O9, RT, NM, T0, FL, JS⟩ := X
  exact (kx_s_zreturn G RT (by decide +kernel))
theorem sm_15 (X : kx_X p l e R s m args below meth c s0 D cA 1 ι0 h0 rr hf prog_3_method_2_code "TaskDesk$Channel" C d (Option.some Jvm.ClassFile.FieldType.boolean) "isAwaited" J) (b : Nat) : kx_Sn p l e R s m args below meth c s0 D cA 1 ι0 h0 rr hf b (bm_15 d C b J) := by
  unfold bm_15
  cases h0 : Nat.beq b 0 with
  | true => rw [Nat.eq_of_beq_eq_true h0]; exact sk_15_0 X
  | false =>
   cases h27 : Nat.beq b 27 with
   | true => rw [Nat.eq_of_beq_eq_true h27]; exact sk_15_27 X
   | false =>
    cases h32 : Nat.beq b 32 with
    | true => rw [Nat.eq_of_beq_eq_true h32]; exact sk_15_32 X
    | false =>
     exact kx_s_no
/-! TaskDesk$Channel.removeFirst()V -/
def bk_18_0 (d : Nat) (C : kx_C) (J : Nat → kx_F) : kx_F := (kx_la 0 (kx_gR 2 8 8 (kx_nnul (kx_la 0 (kx_la 0 (kx_gR 2 8 8 (kx_gR 8 1 8 (kx_pR 2 8 8 (kx_la 0 (kx_gR 2 8 8 (kx_nnul (kx_nm [0] (J 31)) (kx_la 0 (kx_c (kx_r 8 none) (kx_pR 2 9 8 (kx_nm [0] (J 31))))))))))))) kx_rv)))
def bk_18_31 (d : Nat) (C : kx_C) (J : Nat → kx_F) : kx_F := (kx_la 0 (kx_dup (kx_gI 2 6 (kx_c (kx_i 1) (kx_ii (fun x y => x - y) (kx_pI 2 6 kx_rv))))))
def bm_18 (d : Nat) (C : kx_C) (b : Nat) (J : Nat → kx_F) : kx_F := bif Nat.beq b 0 then bk_18_0 d C J else bif Nat.beq b 31 then bk_18_31 d C J else fun _ _ _ => none
set_option maxRecDepth 20000 in
theorem sk_18_0 (X : kx_X p l e R s m args below meth c s0 D cA 1 ι0 h0 rr hf prog_3_method_4_code "TaskDesk$Channel" C d (Option.none : Option Jvm.ClassFile.FieldType) "removeFirst" J) : kx_Sn p l e R s m args below meth c s0 D cA 1 ι0 h0 rr hf 0 (bk_18_0 d C J) := by
  obtain ⟨G, CS, R9, O9, RT, NM, T0, FL, JS⟩ := X
  exact (kx_s_aload_n (j := 0) G rfl (by decide +kernel) (kx_s_gR G kf_2_38 (by decide +kernel) (kx_s_ifnonnull (off := 4) (tgt := 8) G (by decide +kernel) rfl (kx_s_aload_n (j := 0) G rfl (by decide +kernel) (kx_s_aload_n (j := 0) G rfl (by decide +kernel) (kx_s_gR G kf_2_38 (by decide +kernel) (kx_s_gR G kf_2_29 (by decide +kernel) (kx_s_pR (ty := .object "TaskDesk$Value") G kf_2_38 rfl (by decide +kernel) rfl (by decide +kernel) (kx_s_aload_n (j := 0) G rfl (by decide +kernel) (kx_s_gR G kf_2_38 (by decide +kernel) (kx_s_ifnonnull (off := 8) (tgt := 31) G (by decide +kernel) rfl (kx_s_nm (JS 31)) (kx_s_aload_n (j := 0) G rfl (by decide +kernel) (kx_s_null G (by decide +kernel) (kx_s_pR (ty := .object "TaskDesk$Value") G kf_2_35 rfl (by decide +kernel) rfl (by decide +kernel) (kx_s_nm (JS 31))))))))))))) (kx_s_return G RT (by decide +kernel)))))
set_option maxRecDepth 20000 in
theorem sk_18_31 (X : kx_X p l e R s m args below meth c s0 D cA 1 ι0 h0 rr hf prog_3_method_4_code "TaskDesk$Channel" C d (Option.none : Option Jvm.ClassFile.FieldType) "removeFirst" J) : kx_Sn p l e R s m args below meth c s0 D cA 1 ι0 h0 rr hf 31 (bk_18_31 d C J) := by
  obtain ⟨G, CS, R9, O9, RT, NM, T0, FL, JS⟩ := X
  exact (kx_s_aload_n (j := 0) G rfl (by decide +kernel) (kx_s_dup G (by decide +kernel) (kx_s_gI G kf_2_41 (by decide +kernel) (kx_s_iconst (i := 1) G (by decide +kernel) (by decide +kernel) (kx_s_isub G (by decide +kernel) (kx_s_pI G kf_2_41 rfl (by decide +kernel) (by decide +kernel) (kx_s_return G RT (by decide +kernel))))))))
theorem sm_18 (X : kx_X p l e R s m args below meth c s0 D cA 1 ι0 h0 rr hf prog_3_method_4_code "TaskDesk$Channel" C d (Option.none : Option Jvm.ClassFile.FieldType) "removeFirst" J) (b : Nat) : kx_Sn p l e R s m args below meth c s0 D cA 1 ι0 h0 rr hf b (bm_18 d C b J) := by
  unfold bm_18
  cases h0 : Nat.beq b 0 with
  | true => rw [Nat.eq_of_beq_eq_true h0]; exact sk_18_0 X
  | false =>
   cases h31 : Nat.beq b 31 with
   | true => rw [Nat.eq_of_beq_eq_true h31]; exact sk_18_31 X
   | false =>
    exact kx_s_no
/-! TaskDesk$Task.waitIn(LTaskDesk$Row;II)V -/
def bk_27_0 (d : Nat) (C : kx_C) (J : Nat → kx_F) : kx_F := (kx_la 0 (kx_li 2 (kx_pI 6 3 (kx_la 0 (kx_li 3 (kx_pI 6 4 (kx_la 1 (kx_la 0 (kx_gR 6 1 4 (kx_Vv C 28 5 [6] kx_rv))))))))))
def bm_27 (d : Nat) (C : kx_C) (b : Nat) (J : Nat → kx_F) : kx_F := bif Nat.beq b 0 then bk_27_0 d C J else fun _ _ _ => none
set_option maxRecDepth 20000 in
theorem sk_27_0 (X : kx_X p l e R s m args below meth c s0 D cA 4 ι0 h0 rr hf prog_7_method_4_code "TaskDesk$Task" C d (Option.none : Option Jvm.ClassFile.FieldType) "waitIn" J) : kx_Sn p l e R s m args below meth c s0 D cA 4 ι0 h0 rr hf 0 (bk_27_0 d C J) := by
  obtain ⟨G, CS, R9, O9, RT, NM, T0, FL, JS⟩ := X
  exact (kx_s_aload_n (j := 0) G rfl (by decide +kernel) (kx_s_iload_n (j := 2) G rfl (by decide +kernel) (kx_s_pI G kf_6_43 rfl (by decide +kernel) (by decide +kernel) (kx_s_aload_n (j := 0) G rfl (by decide +kernel) (kx_s_iload_n (j := 3) G rfl (by decide +kernel) (kx_s_pI G kf_6_23 rfl (by decide +kernel) (by decide +kernel) (kx_s_aload_n (j := 1) G rfl (by decide +kernel) (kx_s_aload_n (j := 0) G rfl (by decide +kernel) (kx_s_gR G kf_6_15 (by decide +kernel) (kx_s_Vv (n := 28) G kx_good CS R9 (O9 _) kc_28 rfl kw_552 kw_553 kw_554 (r := kr_5) rfl (by decide) (by decide +kernel) (kx_s_return G RT (by decide +kernel))))))))))))
theorem sm_27 (X : kx_X p l e R s m args below meth c s0 D cA 4 ι0 h0 rr hf prog_7_method_4_code "TaskDesk$Task" C d (Option.none : Option Jvm.ClassFile.FieldType) "waitIn" J) (b : Nat) : kx_Sn p l e R s m args below meth c s0 D cA 4 ι0 h0 rr hf b (bm_27 d C b J) := by
  unfold bm_27
  cases h0 : Nat.beq b 0 with
  | true => rw [Nat.eq_of_beq_eq_true h0]; exact sk_27_0 X
  | false =>
   exact kx_s_no
/-! TaskDesk$Row.append(LTaskDesk$Place;)V -/
def bk_28_0 (d : Nat) (C : kx_C) (J : Nat → kx_F) : kx_F := (kx_la 1 (kx_la 0 (kx_pR 4 5 5 (kx_la 1 (kx_la 0 (kx_gR 5 1 4 (kx_pR 4 6 4 (kx_la 0 (kx_gR 5 1 4 (kx_nnul (kx_la 0 (kx_gR 5 1 4 (kx_la 1 (kx_pR 4 7 4 (kx_nm [0, 1] (J 36)))))) (kx_la 0 (kx_la 1 (kx_pR 5 0 4 (kx_nm [0, 1] (J 36)))))))))))))))
def bk_28_36 (d : Nat) (C : kx_C) (J : Nat → kx_F) : kx_F := (kx_la 0 (kx_la 1 (kx_pR 5 1 4 (kx_la 0 (kx_dup (kx_gI 5 2 (kx_c (kx_i 1) (kx_ii (fun x y => x + y) (kx_pI 5 2 kx_rv)))))))))
def bm_28 (d : Nat) (C : kx_C) (b : Nat) (J : Nat → kx_F) : kx_F := bif Nat.beq b 0 then bk_28_0 d C J else bif Nat.beq b 36 then bk_28_36 d C J else fun _ _ _ => none
set_option maxRecDepth 20000 in
theorem sk_28_0 (X : kx_X p l e R s m args below meth c s0 D cA 2 ι0 h0 rr hf prog_6_method_2_code "TaskDesk$Row" C d (Option.none : Option Jvm.ClassFile.FieldType) "append" J) : kx_Sn p l e R s m args below meth c s0 D cA 2 ι0 h0 rr hf 0 (bk_28_0 d C J) := by
  obtain ⟨G, CS, R9, O9, RT, NM, T0, FL, JS⟩ := X
  exact (kx_s_aload_n (j := 1) G rfl (by decide +kernel) (kx_s_aload_n (j := 0) G rfl (by decide +kernel) (kx_s_pR (ty := .object "TaskDesk$Row") G kf_5_7 rfl (by decide +kernel) rfl (by decide +kernel) (kx_s_aload_n (j := 1) G rfl (by decide +kernel) (kx_s_aload_n (j := 0) G rfl (by decide +kernel) (kx_s_gR G kf_5_13 (by decide +kernel) (kx_s_pR (ty := .object "TaskDesk$Place") G kf_5_19 rfl (by decide +kernel) rfl (by decide +kernel) (kx_s_aload_n (j := 0) G rfl (by decide +kernel) (kx_s_gR G kf_5_13 (by decide +kernel) (kx_s_ifnonnull (off := 11) (tgt := 28) G (by decide +kernel) rfl (kx_s_aload_n (j := 0) G rfl (by decide +kernel) (kx_s_gR G kf_5_13 (by decide +kernel) (kx_s_aload_n (j := 1) G rfl (by decide +kernel) (kx_s_pR (ty := .object "TaskDesk$Place") G kf_5_25 rfl (by decide +kernel) rfl (by decide +kernel) (kx_s_nm (JS 36)))))) (kx_s_aload_n (j := 0) G rfl (by decide +kernel) (kx_s_aload_n (j := 1) G rfl (by decide +kernel) (kx_s_pR (ty := .object "TaskDesk$Place") G kf_5_22 rfl (by decide +kernel) rfl (by decide +kernel) (kx_s_goto (off := 11) (tgt := 36) G (by decide +kernel) rfl (kx_s_nm (JS 36))))))))))))))))
set_option maxRecDepth 20000 in
theorem sk_28_36 (X : kx_X p l e R s m args below meth c s0 D cA 2 ι0 h0 rr hf prog_6_method_2_code "TaskDesk$Row" C d (Option.none : Option Jvm.ClassFile.FieldType) "append" J) : kx_Sn p l e R s m args below meth c s0 D cA 2 ι0 h0 rr hf 36 (bk_28_36 d C J) := by
  obtain ⟨G, CS, R9, O9, RT, NM, T0, FL, JS⟩ := X
  exact (kx_s_aload_n (j := 0) G rfl (by decide +kernel) (kx_s_aload_n (j := 1) G rfl (by decide +kernel) (kx_s_pR (ty := .object "TaskDesk$Place") G kf_5_13 rfl (by decide +kernel) rfl (by decide +kernel) (kx_s_aload_n (j := 0) G rfl (by decide +kernel) (kx_s_dup G (by decide +kernel) (kx_s_gI G kf_5_28 (by decide +kernel) (kx_s_iconst (i := 1) G (by decide +kernel) (by decide +kernel) (kx_s_iadd G (by decide +kernel) (kx_s_pI G kf_5_28 rfl (by decide +kernel) (by decide +kernel) (kx_s_return G RT (by decide +kernel)))))))))))
theorem sm_28 (X : kx_X p l e R s m args below meth c s0 D cA 2 ι0 h0 rr hf prog_6_method_2_code "TaskDesk$Row" C d (Option.none : Option Jvm.ClassFile.FieldType) "append" J) (b : Nat) : kx_Sn p l e R s m args below meth c s0 D cA 2 ι0 h0 rr hf b (bm_28 d C b J) := by
  unfold bm_28
  cases h0 : Nat.beq b 0 with
  | true => rw [Nat.eq_of_beq_eq_true h0]; exact sk_28_0 X
  | false =>
   cases h36 : Nat.beq b 36 with
   | true => rw [Nat.eq_of_beq_eq_true h36]; exact sk_28_36 X
   | false =>
    exact kx_s_no
/-! TaskDesk$Agenda.takeFirst()LTaskDesk$Timer; -/
def bk_31_0 (d : Nat) (C : kx_C) (J : Nat → kx_F) : kx_F := (kx_la 0 (kx_gR 1 0 7 (kx_sa 1 (kx_la 1 (kx_nul (kx_nm [1] (J 30)) (kx_la 0 (kx_la 1 (kx_gR 7 3 7 (kx_pR 1 0 7 (kx_la 1 (kx_la 0 (kx_gR 1 1 7 (kx_pR 7 3 7 (kx_la 0 (kx_la 1 (kx_pR 1 1 7 (kx_nm [1] (J 30))))))))))))))))))
def bk_31_30 (d : Nat) (C : kx_C) (J : Nat → kx_F) : kx_F := (kx_la 1 kx_rr)
def bm_31 (d : Nat) (C : kx_C) (b : Nat) (J : Nat → kx_F) : kx_F := bif Nat.beq b 0 then bk_31_0 d C J else bif Nat.beq b 30 then bk_31_30 d C J else fun _ _ _ => none
set_option maxRecDepth 20000 in
theorem sk_31_0 (X : kx_X p l e R s m args below meth c s0 D cA 2 ι0 h0 rr hf prog_2_method_4_code "TaskDesk$Agenda" C d (Option.some (Jvm.ClassFile.FieldType.object "TaskDesk$Timer")) "takeFirst" J) : kx_Sn p l e R s m args below meth c s0 D cA 2 ι0 h0 rr hf 0 (bk_31_0 d C J) := by
  obtain ⟨G, CS, R9, O9, RT, NM, T0, FL, JS⟩ := X
  exact (kx_s_aload_n (j := 0) G rfl (by decide +kernel) (kx_s_gR G kf_1_37 (by decide +kernel) (kx_s_astore_n (j := 1) G rfl (by decide +kernel) (by decide) (kx_s_aload_n (j := 1) G rfl (by decide +kernel) (kx_s_ifnull (off := 24) (tgt := 30) G (by decide +kernel) rfl (kx_s_nm (JS 30)) (kx_s_aload_n (j := 0) G rfl (by decide +kernel) (kx_s_aload_n (j := 1) G rfl (by decide +kernel) (kx_s_gR G kf_1_18 (by decide +kernel) (kx_s_pR (ty := .object "TaskDesk$Timer") G kf_1_37 rfl (by decide +kernel) rfl (by decide +kernel) (kx_s_aload_n (j := 1) G rfl (by decide +kernel) (kx_s_aload_n (j := 0) G rfl (by decide +kernel) (kx_s_gR G kf_1_12 (by decide +kernel) (kx_s_pR (ty := .object "TaskDesk$Timer") G kf_1_18 rfl (by decide +kernel) rfl (by decide +kernel) (kx_s_aload_n (j := 0) G rfl (by decide +kernel) (kx_s_aload_n (j := 1) G rfl (by decide +kernel) (kx_s_pR (ty := .object "TaskDesk$Timer") G kf_1_12 rfl (by decide +kernel) rfl (by decide +kernel) (kx_s_nm (JS 30))))))))))))))))))
set_option maxRecDepth 20000 in
theorem sk_31_30 (X : kx_X p l e R s m args below meth c s0 D cA 2 ι0 h0 rr hf prog_2_method_4_code "TaskDesk$Agenda" C d (Option.some (Jvm.ClassFile.FieldType.object "TaskDesk$Timer")) "takeFirst" J) : kx_Sn p l e R s m args below meth c s0 D cA 2 ι0 h0 rr hf 30 (bk_31_30 d C J) := by
  obtain ⟨G, CS, R9, O9, RT, NM, T0, FL, JS⟩ := X
  exact (kx_s_aload_n (j := 1) G rfl (by decide +kernel) (kx_s_areturn G RT (by decide +kernel)))
theorem sm_31 (X : kx_X p l e R s m args below meth c s0 D cA 2 ι0 h0 rr hf prog_2_method_4_code "TaskDesk$Agenda" C d (Option.some (Jvm.ClassFile.FieldType.object "TaskDesk$Timer")) "takeFirst" J) (b : Nat) : kx_Sn p l e R s m args below meth c s0 D cA 2 ι0 h0 rr hf b (bm_31 d C b J) := by
  unfold bm_31
  cases h0 : Nat.beq b 0 with
  | true => rw [Nat.eq_of_beq_eq_true h0]; exact sk_31_0 X
  | false =>
   cases h30 : Nat.beq b 30 with
   | true => rw [Nat.eq_of_beq_eq_true h30]; exact sk_31_30 X
   | false =>
    exact kx_s_no
/-! TaskDesk$Place.stepOut()V -/
def bk_37_0 (d : Nat) (C : kx_C) (J : Nat → kx_F) : kx_F := (kx_la 0 (kx_gR 4 5 5 (kx_nnul (kx_la 0 (kx_gR 4 6 4 (kx_nnul (kx_la 0 (kx_gR 4 6 4 (kx_la 0 (kx_gR 4 7 4 (kx_pR 4 7 4 (kx_nm [0] (J 40))))))) (kx_la 0 (kx_gR 4 5 5 (kx_la 0 (kx_gR 4 7 4 (kx_pR 5 0 4 (kx_nm [0] (J 40)))))))))) kx_rv)))
def bk_37_40 (d : Nat) (C : kx_C) (J : Nat → kx_F) : kx_F := (kx_la 0 (kx_gR 4 7 4 (kx_nnul (kx_la 0 (kx_gR 4 7 4 (kx_la 0 (kx_gR 4 6 4 (kx_pR 4 6 4 (kx_nm [0] (J 72))))))) (kx_la 0 (kx_gR 4 5 5 (kx_la 0 (kx_gR 4 6 4 (kx_pR 5 1 4 (kx_nm [0] (J 72))))))))))
def bk_37_72 (d : Nat) (C : kx_C) (J : Nat → kx_F) : kx_F := (kx_la 0 (kx_gR 4 5 5 (kx_dup (kx_gI 5 2 (kx_c (kx_i 1) (kx_ii (fun x y => x - y) (kx_pI 5 2 (kx_la 0 (kx_c (kx_r 5 none) (kx_pR 4 5 5 (kx_la 0 (kx_c (kx_r 4 none) (kx_pR 4 6 4 (kx_la 0 (kx_c (kx_r 4 none) (kx_pR 4 7 4 kx_rv))))))))))))))))
def bm_37 (d : Nat) (C : kx_C) (b : Nat) (J : Nat → kx_F) : kx_F := bif Nat.beq b 0 then bk_37_0 d C J else bif Nat.beq b 40 then bk_37_40 d C J else bif Nat.beq b 72 then bk_37_72 d C J else fun _ _ _ => none
set_option maxRecDepth 20000 in
theorem sk_37_0 (X : kx_X p l e R s m args below meth c s0 D cA 1 ι0 h0 rr hf prog_5_method_2_code "TaskDesk$Place" C d (Option.none : Option Jvm.ClassFile.FieldType) "stepOut" J) : kx_Sn p l e R s m args below meth c s0 D cA 1 ι0 h0 rr hf 0 (bk_37_0 d C J) := by
  obtain ⟨G, CS, R9, O9, RT, NM, T0, FL, JS⟩ := X
  exact (kx_s_aload_n (j := 0) G rfl (by decide +kernel) (kx_s_gR G kf_4_19 (by decide +kernel) (kx_s_ifnonnull (off := 4) (tgt := 8) G (by decide +kernel) rfl (kx_s_aload_n (j := 0) G rfl (by decide +kernel) (kx_s_gR G kf_4_23 (by decide +kernel) (kx_s_ifnonnull (off := 17) (tgt := 29) G (by decide +kernel) rfl (kx_s_aload_n (j := 0) G rfl (by decide +kernel) (kx_s_gR G kf_4_23 (by decide +kernel) (kx_s_aload_n (j := 0) G rfl (by decide +kernel) (kx_s_gR G kf_4_27 (by decide +kernel) (kx_s_pR (ty := .object "TaskDesk$Place") G kf_4_27 rfl (by decide +kernel) rfl (by decide +kernel) (kx_s_nm (JS 40))))))) (kx_s_aload_n (j := 0) G rfl (by decide +kernel) (kx_s_gR G kf_4_19 (by decide +kernel) (kx_s_aload_n (j := 0) G rfl (by decide +kernel) (kx_s_gR G kf_4_27 (by decide +kernel) (kx_s_pR (ty := .object "TaskDesk$Place") G kf_4_30 rfl (by decide +kernel) rfl (by decide +kernel) (kx_s_goto (off := 14) (tgt := 40) G (by decide +kernel) rfl (kx_s_nm (JS 40))))))))))) (kx_s_return G RT (by decide +kernel)))))
set_option maxRecDepth 20000 in
theorem sk_37_40 (X : kx_X p l e R s m args below meth c s0 D cA 1 ι0 h0 rr hf prog_5_method_2_code "TaskDesk$Place" C d (Option.none : Option Jvm.ClassFile.FieldType) "stepOut" J) : kx_Sn p l e R s m args below meth c s0 D cA 1 ι0 h0 rr hf 40 (bk_37_40 d C J) := by
  obtain ⟨G, CS, R9, O9, RT, NM, T0, FL, JS⟩ := X
  exact (kx_s_aload_n (j := 0) G rfl (by decide +kernel) (kx_s_gR G kf_4_27 (by decide +kernel) (kx_s_ifnonnull (off := 17) (tgt := 61) G (by decide +kernel) rfl (kx_s_aload_n (j := 0) G rfl (by decide +kernel) (kx_s_gR G kf_4_27 (by decide +kernel) (kx_s_aload_n (j := 0) G rfl (by decide +kernel) (kx_s_gR G kf_4_23 (by decide +kernel) (kx_s_pR (ty := .object "TaskDesk$Place") G kf_4_23 rfl (by decide +kernel) rfl (by decide +kernel) (kx_s_nm (JS 72))))))) (kx_s_aload_n (j := 0) G rfl (by decide +kernel) (kx_s_gR G kf_4_19 (by decide +kernel) (kx_s_aload_n (j := 0) G rfl (by decide +kernel) (kx_s_gR G kf_4_23 (by decide +kernel) (kx_s_pR (ty := .object "TaskDesk$Place") G kf_4_35 rfl (by decide +kernel) rfl (by decide +kernel) (kx_s_goto (off := 14) (tgt := 72) G (by decide +kernel) rfl (kx_s_nm (JS 72)))))))))))
set_option maxRecDepth 20000 in
theorem sk_37_72 (X : kx_X p l e R s m args below meth c s0 D cA 1 ι0 h0 rr hf prog_5_method_2_code "TaskDesk$Place" C d (Option.none : Option Jvm.ClassFile.FieldType) "stepOut" J) : kx_Sn p l e R s m args below meth c s0 D cA 1 ι0 h0 rr hf 72 (bk_37_72 d C J) := by
  obtain ⟨G, CS, R9, O9, RT, NM, T0, FL, JS⟩ := X
  exact (kx_s_aload_n (j := 0) G rfl (by decide +kernel) (kx_s_gR G kf_4_19 (by decide +kernel) (kx_s_dup G (by decide +kernel) (kx_s_gI G kf_4_38 (by decide +kernel) (kx_s_iconst (i := 1) G (by decide +kernel) (by decide +kernel) (kx_s_isub G (by decide +kernel) (kx_s_pI G kf_4_38 rfl (by decide +kernel) (by decide +kernel) (kx_s_aload_n (j := 0) G rfl (by decide +kernel) (kx_s_null G (by decide +kernel) (kx_s_pR (ty := .object "TaskDesk$Row") G kf_4_19 rfl (by decide +kernel) rfl (by decide +kernel) (kx_s_aload_n (j := 0) G rfl (by decide +kernel) (kx_s_null G (by decide +kernel) (kx_s_pR (ty := .object "TaskDesk$Place") G kf_4_23 rfl (by decide +kernel) rfl (by decide +kernel) (kx_s_aload_n (j := 0) G rfl (by decide +kernel) (kx_s_null G (by decide +kernel) (kx_s_pR (ty := .object "TaskDesk$Place") G kf_4_27 rfl (by decide +kernel) rfl (by decide +kernel) (kx_s_return G RT (by decide +kernel))))))))))))))))))
theorem sm_37 (X : kx_X p l e R s m args below meth c s0 D cA 1 ι0 h0 rr hf prog_5_method_2_code "TaskDesk$Place" C d (Option.none : Option Jvm.ClassFile.FieldType) "stepOut" J) (b : Nat) : kx_Sn p l e R s m args below meth c s0 D cA 1 ι0 h0 rr hf b (bm_37 d C b J) := by
  unfold bm_37
  cases h0 : Nat.beq b 0 with
  | true => rw [Nat.eq_of_beq_eq_true h0]; exact sk_37_0 X
  | false =>
   cases h40 : Nat.beq b 40 with
   | true => rw [Nat.eq_of_beq_eq_true h40]; exact sk_37_40 X
   | false =>
    cases h72 : Nat.beq b 72 with
    | true => rw [Nat.eq_of_beq_eq_true h72]; exact sk_37_72 X
    | false =>
     exact kx_s_no
/-! TaskDesk$Channel.append(LTaskDesk$Value;)V -/
def bk_39_0 (d : Nat) (C : kx_C) (J : Nat → kx_F) : kx_F := (kx_la 1 (kx_c (kx_r 8 none) (kx_pR 8 1 8 (kx_la 0 (kx_gR 2 9 8 (kx_nnul (kx_la 0 (kx_gR 2 9 8 (kx_la 1 (kx_pR 8 1 8 (kx_nm [0, 1] (J 28)))))) (kx_la 0 (kx_la 1 (kx_pR 2 8 8 (kx_nm [0, 1] (J 28)))))))))))
def bk_39_28 (d : Nat) (C : kx_C) (J : Nat → kx_F) : kx_F := (kx_la 0 (kx_la 1 (kx_pR 2 9 8 (kx_la 0 (kx_dup (kx_gI 2 6 (kx_c (kx_i 1) (kx_ii (fun x y => x + y) (kx_pI 2 6 kx_rv)))))))))
def bm_39 (d : Nat) (C : kx_C) (b : Nat) (J : Nat → kx_F) : kx_F := bif Nat.beq b 0 then bk_39_0 d C J else bif Nat.beq b 28 then bk_39_28 d C J else fun _ _ _ => none
set_option maxRecDepth 20000 in
theorem sk_39_0 (X : kx_X p l e R s m args below meth c s0 D cA 2 ι0 h0 rr hf prog_3_method_3_code "TaskDesk$Channel" C d (Option.none : Option Jvm.ClassFile.FieldType) "append" J) : kx_Sn p l e R s m args below meth c s0 D cA 2 ι0 h0 rr hf 0 (bk_39_0 d C J) := by
  obtain ⟨G, CS, R9, O9, RT, NM, T0, FL, JS⟩ := X
  exact (kx_s_aload_n (j := 1) G rfl (by decide +kernel) (kx_s_null G (by decide +kernel) (kx_s_pR (ty := .object "TaskDesk$Value") G kf_2_29 rfl (by decide +kernel) rfl (by decide +kernel) (kx_s_aload_n (j := 0) G rfl (by decide +kernel) (kx_s_gR G kf_2_35 (by decide +kernel) (kx_s_ifnonnull (off := 11) (tgt := 20) G (by decide +kernel) rfl (kx_s_aload_n (j := 0) G rfl (by decide +kernel) (kx_s_gR G kf_2_35 (by decide +kernel) (kx_s_aload_n (j := 1) G rfl (by decide +kernel) (kx_s_pR (ty := .object "TaskDesk$Value") G kf_2_29 rfl (by decide +kernel) rfl (by decide +kernel) (kx_s_nm (JS 28)))))) (kx_s_aload_n (j := 0) G rfl (by decide +kernel) (kx_s_aload_n (j := 1) G rfl (by decide +kernel) (kx_s_pR (ty := .object "TaskDesk$Value") G kf_2_38 rfl (by decide +kernel) rfl (by decide +kernel) (kx_s_goto (off := 11) (tgt := 28) G (by decide +kernel) rfl (kx_s_nm (JS 28))))))))))))
set_option maxRecDepth 20000 in
theorem sk_39_28 (X : kx_X p l e R s m args below meth c s0 D cA 2 ι0 h0 rr hf prog_3_method_3_code "TaskDesk$Channel" C d (Option.none : Option Jvm.ClassFile.FieldType) "append" J) : kx_Sn p l e R s m args below meth c s0 D cA 2 ι0 h0 rr hf 28 (bk_39_28 d C J) := by
  obtain ⟨G, CS, R9, O9, RT, NM, T0, FL, JS⟩ := X
  exact (kx_s_aload_n (j := 0) G rfl (by decide +kernel) (kx_s_aload_n (j := 1) G rfl (by decide +kernel) (kx_s_pR (ty := .object "TaskDesk$Value") G kf_2_35 rfl (by decide +kernel) rfl (by decide +kernel) (kx_s_aload_n (j := 0) G rfl (by decide +kernel) (kx_s_dup G (by decide +kernel) (kx_s_gI G kf_2_41 (by decide +kernel) (kx_s_iconst (i := 1) G (by decide +kernel) (by decide +kernel) (kx_s_iadd G (by decide +kernel) (kx_s_pI G kf_2_41 rfl (by decide +kernel) (by decide +kernel) (kx_s_return G RT (by decide +kernel)))))))))))
theorem sm_39 (X : kx_X p l e R s m args below meth c s0 D cA 2 ι0 h0 rr hf prog_3_method_3_code "TaskDesk$Channel" C d (Option.none : Option Jvm.ClassFile.FieldType) "append" J) (b : Nat) : kx_Sn p l e R s m args below meth c s0 D cA 2 ι0 h0 rr hf b (bm_39 d C b J) := by
  unfold bm_39
  cases h0 : Nat.beq b 0 with
  | true => rw [Nat.eq_of_beq_eq_true h0]; exact sk_39_0 X
  | false =>
   cases h28 : Nat.beq b 28 with
   | true => rw [Nat.eq_of_beq_eq_true h28]; exact sk_39_28 X
   | false =>
    exact kx_s_no
/-! TaskDesk$Agenda.note(JLTaskDesk$Task;LTaskDesk$Channel;)V -/
def bk_43_0 (d : Nat) (C : kx_C) (J : Nat → kx_F) : kx_F := (kx_la 0 (kx_gR 1 1 7 (kx_sa 5 (kx_la 5 (kx_nnul (kx_la 0 (kx_la 5 (kx_gR 7 3 7 (kx_pR 1 1 7 (kx_la 5 (kx_ll 1 (kx_pL 7 0 (kx_la 5 (kx_la 3 (kx_pR 7 1 6 (kx_la 5 (kx_la 4 (kx_pR 7 2 2 (kx_la 0 (kx_ll 1 (kx_Vr C 44 1 [1] 7 (kx_sa 6 (kx_la 6 (kx_nnul (kx_la 5 (kx_la 6 (kx_gR 7 3 7 (kx_pR 7 3 7 (kx_la 6 (kx_la 5 (kx_pR 7 3 7 (kx_nm [] (J 87))))))))) (kx_la 5 (kx_la 0 (kx_gR 1 0 7 (kx_pR 7 3 7 (kx_la 0 (kx_la 5 (kx_pR 1 0 7 (kx_nm [] (J 87)))))))))))))))))))))))))))) kx_rv)))))
def bk_43_87 (d : Nat) (C : kx_C) (J : Nat → kx_F) : kx_F := kx_rv
def bm_43 (d : Nat) (C : kx_C) (b : Nat) (J : Nat → kx_F) : kx_F := bif Nat.beq b 0 then bk_43_0 d C J else bif Nat.beq b 87 then bk_43_87 d C J else fun _ _ _ => none
set_option maxRecDepth 20000 in
theorem sk_43_0 (X : kx_X p l e R s m args below meth c s0 D cA 7 ι0 h0 rr hf prog_2_method_2_code "TaskDesk$Agenda" C d (Option.none : Option Jvm.ClassFile.FieldType) "note" J) : kx_Sn p l e R s m args below meth c s0 D cA 7 ι0 h0 rr hf 0 (bk_43_0 d C J) := by
  obtain ⟨G, CS, R9, O9, RT, NM, T0, FL, JS⟩ := X
  exact (kx_s_aload_n (j := 0) G rfl (by decide +kernel) (kx_s_gR G kf_1_12 (by decide +kernel) (kx_s_astore G (by decide +kernel) (by decide) (kx_s_aload G (by decide +kernel) (kx_s_ifnonnull (off := 4) (tgt := 12) G (by decide +kernel) rfl (kx_s_aload_n (j := 0) G rfl (by decide +kernel) (kx_s_aload G (by decide +kernel) (kx_s_gR G kf_1_18 (by decide +kernel) (kx_s_pR (ty := .object "TaskDesk$Timer") G kf_1_12 rfl (by decide +kernel) rfl (by decide +kernel) (kx_s_aload G (by decide +kernel) (kx_s_lload_n (j := 1) G rfl (by decide +kernel) (kx_s_pL G kf_1_21 rfl (by decide +kernel) (by decide +kernel) (kx_s_aload G (by decide +kernel) (kx_s_aload_n (j := 3) G rfl (by decide +kernel) (kx_s_pR (ty := .object "TaskDesk$Task") G kf_1_25 rfl (by decide +kernel) rfl (by decide +kernel) (kx_s_aload G (by decide +kernel) (kx_s_aload G (by decide +kernel) (kx_s_pR (ty := .object "TaskDesk$Channel") G kf_1_29 rfl (by decide +kernel) rfl (by decide +kernel) (kx_s_aload_n (j := 0) G rfl (by decide +kernel) (kx_s_lload_n (j := 1) G rfl (by decide +kernel) (kx_s_Vr (n := 44) G kx_good CS R9 (O9 _) kc_44 rfl kw_645 kw_647 kw_18 (r := kr_1) rfl (by decide) (by decide +kernel) (kx_s_astore G (by decide +kernel) (by decide) (kx_s_aload G (by decide +kernel) (kx_s_ifnonnull (off := 21) (tgt := 70) G (by decide +kernel) rfl (kx_s_aload G (by decide +kernel) (kx_s_aload G (by decide +kernel) (kx_s_gR G kf_1_18 (by decide +kernel) (kx_s_pR (ty := .object "TaskDesk$Timer") G kf_1_18 rfl (by decide +kernel) rfl (by decide +kernel) (kx_s_aload G (by decide +kernel) (kx_s_aload G (by decide +kernel) (kx_s_pR (ty := .object "TaskDesk$Timer") G kf_1_18 rfl (by decide +kernel) rfl (by decide +kernel) (kx_s_nm (JS 87))))))))) (kx_s_aload G (by decide +kernel) (kx_s_aload_n (j := 0) G rfl (by decide +kernel) (kx_s_gR G kf_1_37 (by decide +kernel) (kx_s_pR (ty := .object "TaskDesk$Timer") G kf_1_18 rfl (by decide +kernel) rfl (by decide +kernel) (kx_s_aload_n (j := 0) G rfl (by decide +kernel) (kx_s_aload G (by decide +kernel) (kx_s_pR (ty := .object "TaskDesk$Timer") G kf_1_37 rfl (by decide +kernel) rfl (by decide +kernel) (kx_s_goto (off := 20) (tgt := 87) G (by decide +kernel) rfl (kx_s_nm (JS 87))))))))))))))))))))))))))))) (kx_s_return G RT (by decide +kernel)))))))
set_option maxRecDepth 20000 in
theorem sk_43_87 (X : kx_X p l e R s m args below meth c s0 D cA 7 ι0 h0 rr hf prog_2_method_2_code "TaskDesk$Agenda" C d (Option.none : Option Jvm.ClassFile.FieldType) "note" J) : kx_Sn p l e R s m args below meth c s0 D cA 7 ι0 h0 rr hf 87 (bk_43_87 d C J) := by
  obtain ⟨G, CS, R9, O9, RT, NM, T0, FL, JS⟩ := X
  exact (kx_s_return G RT (by decide +kernel))
theorem sm_43 (X : kx_X p l e R s m args below meth c s0 D cA 7 ι0 h0 rr hf prog_2_method_2_code "TaskDesk$Agenda" C d (Option.none : Option Jvm.ClassFile.FieldType) "note" J) (b : Nat) : kx_Sn p l e R s m args below meth c s0 D cA 7 ι0 h0 rr hf b (bm_43 d C b J) := by
  unfold bm_43
  cases h0 : Nat.beq b 0 with
  | true => rw [Nat.eq_of_beq_eq_true h0]; exact sk_43_0 X
  | false =>
   cases h87 : Nat.beq b 87 with
   | true => rw [Nat.eq_of_beq_eq_true h87]; exact sk_43_87 X
   | false =>
    exact kx_s_no
/-! TaskDesk$Agenda.lastNotAfter(J)LTaskDesk$Timer; -/
def bk_44_0 (d : Nat) (C : kx_C) (J : Nat → kx_F) : kx_F := (kx_c (kx_r 7 none) (kx_sa 3 (kx_la 0 (kx_gR 1 0 7 (kx_sa 4 (kx_nm [1, 3, 4] (J 8)))))))
def bk_44_8 (d : Nat) (C : kx_C) (J : Nat → kx_F) : kx_F := (kx_la 4 (kx_nul (kx_nm [3] (J 36)) (kx_la 4 (kx_gL 7 0 (kx_ll 1 (kx_lcmp (kx_ifgt (kx_nm [3] (J 36)) (kx_la 4 (kx_sa 3 (kx_la 4 (kx_gR 7 3 7 (kx_sa 4 (kx_nm [1, 3, 4] (J 8))))))))))))))
def bk_44_36 (d : Nat) (C : kx_C) (J : Nat → kx_F) : kx_F := (kx_la 3 kx_rr)
def bm_44 (d : Nat) (C : kx_C) (b : Nat) (J : Nat → kx_F) : kx_F := bif Nat.beq b 0 then bk_44_0 d C J else bif Nat.beq b 8 then bk_44_8 d C J else bif Nat.beq b 36 then bk_44_36 d C J else fun _ _ _ => none
set_option maxRecDepth 20000 in
theorem sk_44_0 (X : kx_X p l e R s m args below meth c s0 D cA 5 ι0 h0 rr hf prog_2_method_3_code "TaskDesk$Agenda" C d (Option.some (Jvm.ClassFile.FieldType.object "TaskDesk$Timer")) "lastNotAfter" J) : kx_Sn p l e R s m args below meth c s0 D cA 5 ι0 h0 rr hf 0 (bk_44_0 d C J) := by
  obtain ⟨G, CS, R9, O9, RT, NM, T0, FL, JS⟩ := X
  exact (kx_s_null G (by decide +kernel) (kx_s_astore_n (j := 3) G rfl (by decide +kernel) (by decide) (kx_s_aload_n (j := 0) G rfl (by decide +kernel) (kx_s_gR G kf_1_37 (by decide +kernel) (kx_s_astore G (by decide +kernel) (by decide) (kx_s_nm (JS 8)))))))
set_option maxRecDepth 20000 in
theorem sk_44_8 (X : kx_X p l e R s m args below meth c s0 D cA 5 ι0 h0 rr hf prog_2_method_3_code "TaskDesk$Agenda" C d (Option.some (Jvm.ClassFile.FieldType.object "TaskDesk$Timer")) "lastNotAfter" J) : kx_Sn p l e R s m args below meth c s0 D cA 5 ι0 h0 rr hf 8 (bk_44_8 d C J) := by
  obtain ⟨G, CS, R9, O9, RT, NM, T0, FL, JS⟩ := X
  exact (kx_s_aload G (by decide +kernel) (kx_s_ifnull (off := 26) (tgt := 36) G (by decide +kernel) rfl (kx_s_nm (JS 36)) (kx_s_aload G (by decide +kernel) (kx_s_gL G kf_1_21 (by decide +kernel) (kx_s_lload_n (j := 1) G rfl (by decide +kernel) (kx_s_lcmp G (by decide +kernel) (kx_s_ifgt (off := 16) (tgt := 36) G (by decide +kernel) rfl (kx_s_nm (JS 36)) (kx_s_aload G (by decide +kernel) (kx_s_astore_n (j := 3) G rfl (by decide +kernel) (by decide) (kx_s_aload G (by decide +kernel) (kx_s_gR G kf_1_18 (by decide +kernel) (kx_s_astore G (by decide +kernel) (by decide) (kx_s_goto (off := -25) (tgt := 8) G (by decide +kernel) rfl (kx_s_nm (JS 8)))))))))))))))
set_option maxRecDepth 20000 in
theorem sk_44_36 (X : kx_X p l e R s m args below meth c s0 D cA 5 ι0 h0 rr hf prog_2_method_3_code "TaskDesk$Agenda" C d (Option.some (Jvm.ClassFile.FieldType.object "TaskDesk$Timer")) "lastNotAfter" J) : kx_Sn p l e R s m args below meth c s0 D cA 5 ι0 h0 rr hf 36 (bk_44_36 d C J) := by
  obtain ⟨G, CS, R9, O9, RT, NM, T0, FL, JS⟩ := X
  exact (kx_s_aload_n (j := 3) G rfl (by decide +kernel) (kx_s_areturn G RT (by decide +kernel)))
theorem sm_44 (X : kx_X p l e R s m args below meth c s0 D cA 5 ι0 h0 rr hf prog_2_method_3_code "TaskDesk$Agenda" C d (Option.some (Jvm.ClassFile.FieldType.object "TaskDesk$Timer")) "lastNotAfter" J) (b : Nat) : kx_Sn p l e R s m args below meth c s0 D cA 5 ι0 h0 rr hf b (bm_44 d C b J) := by
  unfold bm_44
  cases h0 : Nat.beq b 0 with
  | true => rw [Nat.eq_of_beq_eq_true h0]; exact sk_44_0 X
  | false =>
   cases h8 : Nat.beq b 8 with
   | true => rw [Nat.eq_of_beq_eq_true h8]; exact sk_44_8 X
   | false =>
    cases h36 : Nat.beq b 36 with
    | true => rw [Nat.eq_of_beq_eq_true h36]; exact sk_44_36 X
    | false =>
     exact kx_s_no
/-! TaskDesk$Task.adopt(LTaskDesk$Place;)V -/
def bk_62_0 (d : Nat) (C : kx_C) (J : Nat → kx_F) : kx_F := (kx_la 1 (kx_la 0 (kx_pR 4 0 6 (kx_la 1 (kx_la 0 (kx_gR 6 5 4 (kx_pR 4 8 4 (kx_la 0 (kx_la 1 (kx_pR 6 5 4 kx_rv))))))))))
def bm_62 (d : Nat) (C : kx_C) (b : Nat) (J : Nat → kx_F) : kx_F := bif Nat.beq b 0 then bk_62_0 d C J else fun _ _ _ => none
set_option maxRecDepth 20000 in
theorem sk_62_0 (X : kx_X p l e R s m args below meth c s0 D cA 2 ι0 h0 rr hf prog_7_method_5_code "TaskDesk$Task" C d (Option.none : Option Jvm.ClassFile.FieldType) "adopt" J) : kx_Sn p l e R s m args below meth c s0 D cA 2 ι0 h0 rr hf 0 (bk_62_0 d C J) := by
  obtain ⟨G, CS, R9, O9, RT, NM, T0, FL, JS⟩ := X
  exact (kx_s_aload_n (j := 1) G rfl (by decide +kernel) (kx_s_aload_n (j := 0) G rfl (by decide +kernel) (kx_s_pR (ty := .object "TaskDesk$Task") G kf_6_52 rfl (by decide +kernel) rfl (by decide +kernel) (kx_s_aload_n (j := 1) G rfl (by decide +kernel) (kx_s_aload_n (j := 0) G rfl (by decide +kernel) (kx_s_gR G kf_6_58 (by decide +kernel) (kx_s_pR (ty := .object "TaskDesk$Place") G kf_6_61 rfl (by decide +kernel) rfl (by decide +kernel) (kx_s_aload_n (j := 0) G rfl (by decide +kernel) (kx_s_aload_n (j := 1) G rfl (by decide +kernel) (kx_s_pR (ty := .object "TaskDesk$Place") G kf_6_58 rfl (by decide +kernel) rfl (by decide +kernel) (kx_s_return G RT (by decide +kernel))))))))))))
theorem sm_62 (X : kx_X p l e R s m args below meth c s0 D cA 2 ι0 h0 rr hf prog_7_method_5_code "TaskDesk$Task" C d (Option.none : Option Jvm.ClassFile.FieldType) "adopt" J) (b : Nat) : kx_Sn p l e R s m args below meth c s0 D cA 2 ι0 h0 rr hf b (bm_62 d C b J) := by
  unfold bm_62
  cases h0 : Nat.beq b 0 with
  | true => rw [Nat.eq_of_beq_eq_true h0]; exact sk_62_0 X
  | false =>
   exact kx_s_no
/-! TaskDesk$Gate.letsInAtOnce()Z -/
def bk_69_0 (d : Nat) (C : kx_C) (J : Nat → kx_F) : kx_F := (kx_la 0 (kx_gI 3 3 (kx_sw [(3, (kx_c (kx_i 0) kx_rz)), (4, (kx_la 0 (kx_gI 3 4 (kx_c (kx_i 1) (kx_ceq (kx_c (kx_i 0) (kx_nm [] (J 47))) (kx_c (kx_i 1) (kx_nm [] (J 47))))))))] (kx_la 0 (kx_gI 3 4 (kx_ifne (kx_c (kx_i 0) (kx_nm [] (J 60))) (kx_c (kx_i 1) (kx_nm [] (J 60)))))))))
def bk_69_47 (d : Nat) (C : kx_C) (J : Nat → kx_F) : kx_F := kx_rz
def bk_69_60 (d : Nat) (C : kx_C) (J : Nat → kx_F) : kx_F := kx_rz
def bm_69 (d : Nat) (C : kx_C) (b : Nat) (J : Nat → kx_F) : kx_F := bif Nat.beq b 0 then bk_69_0 d C J else bif Nat.beq b 47 then bk_69_47 d C J else bif Nat.beq b 60 then bk_69_60 d C J else fun _ _ _ => none
set_option maxRecDepth 20000 in
theorem sk_69_0 (X : kx_X p l e R s m args below meth c s0 D cA 1 ι0 h0 rr hf prog_4_method_2_code "TaskDesk$Gate" C d (Option.some Jvm.ClassFile.FieldType.boolean) "letsInAtOnce" J) : kx_Sn p l e R s m args below meth c s0 D cA 1 ι0 h0 rr hf 0 (bk_69_0 d C J) := by
  obtain ⟨G, CS, R9, O9, RT, NM, T0, FL, JS⟩ := X
  exact (kx_s_aload_n (j := 0) G rfl (by decide +kernel) (kx_s_gI G kf_3_25 (by decide +kernel) (kx_s_lsw (dflt := 44) (ps := #[(3, 28), (4, 30)]) (len := 28) G (by decide +kernel) (by decide +kernel) (tgtD := 48) rfl (kx_s_aload_n (j := 0) G rfl (by decide +kernel) (kx_s_gI G kf_3_28 (by decide +kernel) (kx_s_ifne (off := 7) (tgt := 59) G (by decide +kernel) rfl (kx_s_iconst (i := 0) G (by decide +kernel) (by decide +kernel) (kx_s_nm (JS 60))) (kx_s_iconst (i := 1) G (by decide +kernel) (by decide +kernel) (kx_s_goto (off := 4) (tgt := 60) G (by decide +kernel) rfl (kx_s_nm (JS 60))))))) (List.forall_mem_cons.mpr ⟨kx_lq (28) 32 (by decide +kernel) rfl (kx_s_iconst (i := 0) G (by decide +kernel) (by decide +kernel) (kx_s_zreturn G RT (by decide +kernel))), List.forall_mem_cons.mpr ⟨kx_lq (30) 34 (by decide +kernel) rfl (kx_s_aload_n (j := 0) G rfl (by decide +kernel) (kx_s_gI G kf_3_28 (by decide +kernel) (kx_s_iconst (i := 1) G (by decide +kernel) (by decide +kernel) (kx_s_ceq (off := 7) (tgt := 46) G (by decide +kernel) rfl (kx_s_iconst (i := 0) G (by decide +kernel) (by decide +kernel) (kx_s_nm (JS 47))) (kx_s_iconst (i := 1) G (by decide +kernel) (by decide +kernel) (kx_s_goto (off := 4) (tgt := 47) G (by decide +kernel) rfl (kx_s_nm (JS 47)))))))), List.forall_mem_nil _⟩⟩) (kx_lcov_2 (by decide +kernel) (by decide +kernel)))))
set_option maxRecDepth 20000 in
theorem sk_69_47 (X : kx_X p l e R s m args below meth c s0 D cA 1 ι0 h0 rr hf prog_4_method_2_code "TaskDesk$Gate" C d (Option.some Jvm.ClassFile.FieldType.boolean) "letsInAtOnce" J) : kx_Sn p l e R s m args below meth c s0 D cA 1 ι0 h0 rr hf 47 (bk_69_47 d C J) := by
  obtain ⟨G, CS, R9, O9, RT, NM, T0, FL, JS⟩ := X
  exact (kx_s_zreturn G RT (by decide +kernel))
set_option maxRecDepth 20000 in
theorem sk_69_60 (X : kx_X p l e R s m args below meth c s0 D cA 1 ι0 h0 rr hf prog_4_method_2_code "TaskDesk$Gate" C d (Option.some Jvm.ClassFile.FieldType.boolean) "letsInAtOnce" J) : kx_Sn p l e R s m args below meth c s0 D cA 1 ι0 h0 rr hf 60 (bk_69_60 d C J) := by
  obtain ⟨G, CS, R9, O9, RT, NM, T0, FL, JS⟩ := X
  exact (kx_s_zreturn G RT (by decide +kernel))
theorem sm_69 (X : kx_X p l e R s m args below meth c s0 D cA 1 ι0 h0 rr hf prog_4_method_2_code "TaskDesk$Gate" C d (Option.some Jvm.ClassFile.FieldType.boolean) "letsInAtOnce" J) (b : Nat) : kx_Sn p l e R s m args below meth c s0 D cA 1 ι0 h0 rr hf b (bm_69 d C b J) := by
  unfold bm_69
  cases h0 : Nat.beq b 0 with
  | true => rw [Nat.eq_of_beq_eq_true h0]; exact sk_69_0 X
  | false =>
   cases h47 : Nat.beq b 47 with
   | true => rw [Nat.eq_of_beq_eq_true h47]; exact sk_69_47 X
   | false =>
    cases h60 : Nat.beq b 60 with
    | true => rw [Nat.eq_of_beq_eq_true h60]; exact sk_69_60 X
    | false =>
     exact kx_s_no
/-! TaskDesk$Gate.take()V -/
def bk_70_0 (d : Nat) (C : kx_C) (J : Nat → kx_F) : kx_F := (kx_la 0 (kx_gI 3 3 (kx_ifne (kx_la 0 (kx_gI 3 3 (kx_c (kx_i 1) (kx_cne (kx_la 0 (kx_gI 3 3 (kx_c (kx_i 4) (kx_cne (kx_nm [] (J 51)) (kx_la 0 (kx_gI 3 4 (kx_ifne (kx_nm [] (J 51)) (kx_la 0 (kx_c (kx_i 1) (kx_pI 3 4 (kx_nm [] (J 51)))))))))))) (kx_la 0 (kx_c (kx_i (-1)) (kx_pI 3 4 (kx_nm [] (J 51))))))))) (kx_la 0 (kx_c (kx_i 1) (kx_pI 3 4 (kx_nm [] (J 51))))))))
def bk_70_51 (d : Nat) (C : kx_C) (J : Nat → kx_F) : kx_F := kx_rv
def bm_70 (d : Nat) (C : kx_C) (b : Nat) (J : Nat → kx_F) : kx_F := bif Nat.beq b 0 then bk_70_0 d C J else bif Nat.beq b 51 then bk_70_51 d C J else fun _ _ _ => none
set_option maxRecDepth 20000 in
theorem sk_70_0 (X : kx_X p l e R s m args below meth c s0 D cA 1 ι0 h0 rr hf prog_4_method_3_code "TaskDesk$Gate" C d (Option.none : Option Jvm.ClassFile.FieldType) "take" J) : kx_Sn p l e R s m args below meth c s0 D cA 1 ι0 h0 rr hf 0 (bk_70_0 d C J) := by
  obtain ⟨G, CS, R9, O9, RT, NM, T0, FL, JS⟩ := X
  exact (kx_s_aload_n (j := 0) G rfl (by decide +kernel) (kx_s_gI G kf_3_25 (by decide +kernel) (kx_s_ifne (off := 11) (tgt := 15) G (by decide +kernel) rfl (kx_s_aload_n (j := 0) G rfl (by decide +kernel) (kx_s_gI G kf_3_25 (by decide +kernel) (kx_s_iconst (i := 1) G (by decide +kernel) (by decide +kernel) (kx_s_cne (off := 11) (tgt := 31) G (by decide +kernel) rfl (kx_s_aload_n (j := 0) G rfl (by decide +kernel) (kx_s_gI G kf_3_25 (by decide +kernel) (kx_s_iconst (i := 4) G (by decide +kernel) (by decide +kernel) (kx_s_cne (off := 15) (tgt := 51) G (by decide +kernel) rfl (kx_s_nm (JS 51)) (kx_s_aload_n (j := 0) G rfl (by decide +kernel) (kx_s_gI G kf_3_28 (by decide +kernel) (kx_s_ifne (off := 8) (tgt := 51) G (by decide +kernel) rfl (kx_s_nm (JS 51)) (kx_s_aload_n (j := 0) G rfl (by decide +kernel) (kx_s_iconst (i := 1) G (by decide +kernel) (by decide +kernel) (kx_s_pI G kf_3_28 rfl (by decide +kernel) (by decide +kernel) (kx_s_nm (JS 51)))))))))))) (kx_s_aload_n (j := 0) G rfl (by decide +kernel) (kx_s_iconst (i := -1) G (by decide +kernel) (by decide +kernel) (kx_s_pI G kf_3_28 rfl (by decide +kernel) (by decide +kernel) (kx_s_goto (off := 23) (tgt := 51) G (by decide +kernel) rfl (kx_s_nm (JS 51)))))))))) (kx_s_aload_n (j := 0) G rfl (by decide +kernel) (kx_s_iconst (i := 1) G (by decide +kernel) (by decide +kernel) (kx_s_pI G kf_3_28 rfl (by decide +kernel) (by decide +kernel) (kx_s_goto (off := 39) (tgt := 51) G (by decide +kernel) rfl (kx_s_nm (JS 51)))))))))
set_option maxRecDepth 20000 in
theorem sk_70_51 (X : kx_X p l e R s m args below meth c s0 D cA 1 ι0 h0 rr hf prog_4_method_3_code "TaskDesk$Gate" C d (Option.none : Option Jvm.ClassFile.FieldType) "take" J) : kx_Sn p l e R s m args below meth c s0 D cA 1 ι0 h0 rr hf 51 (bk_70_51 d C J) := by
  obtain ⟨G, CS, R9, O9, RT, NM, T0, FL, JS⟩ := X
  exact (kx_s_return G RT (by decide +kernel))
theorem sm_70 (X : kx_X p l e R s m args below meth c s0 D cA 1 ι0 h0 rr hf prog_4_method_3_code "TaskDesk$Gate" C d (Option.none : Option Jvm.ClassFile.FieldType) "take" J) (b : Nat) : kx_Sn p l e R s m args below meth c s0 D cA 1 ι0 h0 rr hf b (bm_70 d C b J) := by
  unfold bm_70
  cases h0 : Nat.beq b 0 with
  | true => rw [Nat.eq_of_beq_eq_true h0]; exact sk_70_0 X
  | false =>
   cases h51 : Nat.beq b 51 with
   | true => rw [Nat.eq_of_beq_eq_true h51]; exact sk_70_51 X
   | false =>
    exact kx_s_no
/-! TaskDesk$Gate.canBeLeft()Z -/
def bk_73_0 (d : Nat) (C : kx_C) (J : Nat → kx_F) : kx_F := (kx_la 0 (kx_gI 3 3 (kx_sw [(0, (kx_la 0 (kx_gI 3 4 (kx_c (kx_i 1) (kx_cne (kx_c (kx_i 0) (kx_nm [] (J 49))) (kx_c (kx_i 1) (kx_nm [] (J 49)))))))), (1, (kx_la 0 (kx_gI 3 4 (kx_c (kx_i (-1)) (kx_cne (kx_c (kx_i 0) (kx_nm [] (J 63))) (kx_c (kx_i 1) (kx_nm [] (J 63)))))))), (2, (kx_la 0 (kx_gI 3 4 (kx_ifle (kx_c (kx_i 0) (kx_nm [] (J 76))) (kx_c (kx_i 1) (kx_nm [] (J 76))))))), (3, (kx_c (kx_i 1) kx_rz))] (kx_la 0 (kx_gI 3 4 (kx_c (kx_i 1) (kx_cne (kx_c (kx_i 0) (kx_nm [] (J 92))) (kx_c (kx_i 1) (kx_nm [] (J 92))))))))))
def bk_73_49 (d : Nat) (C : kx_C) (J : Nat → kx_F) : kx_F := kx_rz
def bk_73_63 (d : Nat) (C : kx_C) (J : Nat → kx_F) : kx_F := kx_rz
def bk_73_76 (d : Nat) (C : kx_C) (J : Nat → kx_F) : kx_F := kx_rz
def bk_73_92 (d : Nat) (C : kx_C) (J : Nat → kx_F) : kx_F := kx_rz
def bm_73 (d : Nat) (C : kx_C) (b : Nat) (J : Nat → kx_F) : kx_F := bif Nat.beq b 0 then bk_73_0 d C J else bif Nat.beq b 49 then bk_73_49 d C J else bif Nat.beq b 63 then bk_73_63 d C J else bif Nat.beq b 76 then bk_73_76 d C J else bif Nat.beq b 92 then bk_73_92 d C J else fun _ _ _ => none
set_option maxRecDepth 20000 in
theorem sk_73_0 (X : kx_X p l e R s m args below meth c s0 D cA 1 ι0 h0 rr hf prog_4_method_4_code "TaskDesk$Gate" C d (Option.some Jvm.ClassFile.FieldType.boolean) "canBeLeft" J) : kx_Sn p l e R s m args below meth c s0 D cA 1 ι0 h0 rr hf 0 (bk_73_0 d C J) := by
  obtain ⟨G, CS, R9, O9, RT, NM, T0, FL, JS⟩ := X
  exact (kx_s_aload_n (j := 0) G rfl (by decide +kernel) (kx_s_gI G kf_3_25 (by decide +kernel) (kx_s_tsw (dflt := 75) (lo := 0) (hi := 3) (offs := #[32, 46, 60, 73]) (len := 32) G (by decide +kernel) (tgtD := 79) rfl (kx_s_aload_n (j := 0) G rfl (by decide +kernel) (kx_s_gI G kf_3_28 (by decide +kernel) (kx_s_iconst (i := 1) G (by decide +kernel) (by decide +kernel) (kx_s_cne (off := 7) (tgt := 91) G (by decide +kernel) rfl (kx_s_iconst (i := 0) G (by decide +kernel) (by decide +kernel) (kx_s_nm (JS 92))) (kx_s_iconst (i := 1) G (by decide +kernel) (by decide +kernel) (kx_s_goto (off := 4) (tgt := 92) G (by decide +kernel) rfl (kx_s_nm (JS 92)))))))) (List.forall_mem_cons.mpr ⟨kx_tq (32) 36 (by decide +kernel) (by decide +kernel) (by decide +kernel) rfl (kx_s_aload_n (j := 0) G rfl (by decide +kernel) (kx_s_gI G kf_3_28 (by decide +kernel) (kx_s_iconst (i := 1) G (by decide +kernel) (by decide +kernel) (kx_s_cne (off := 7) (tgt := 48) G (by decide +kernel) rfl (kx_s_iconst (i := 0) G (by decide +kernel) (by decide +kernel) (kx_s_nm (JS 49))) (kx_s_iconst (i := 1) G (by decide +kernel) (by decide +kernel) (kx_s_goto (off := 4) (tgt := 49) G (by decide +kernel) rfl (kx_s_nm (JS 49)))))))), List.forall_mem_cons.mpr ⟨kx_tq (46) 50 (by decide +kernel) (by decide +kernel) (by decide +kernel) rfl (kx_s_aload_n (j := 0) G rfl (by decide +kernel) (kx_s_gI G kf_3_28 (by decide +kernel) (kx_s_iconst (i := -1) G (by decide +kernel) (by decide +kernel) (kx_s_cne (off := 7) (tgt := 62) G (by decide +kernel) rfl (kx_s_iconst (i := 0) G (by decide +kernel) (by decide +kernel) (kx_s_nm (JS 63))) (kx_s_iconst (i := 1) G (by decide +kernel) (by decide +kernel) (kx_s_goto (off := 4) (tgt := 63) G (by decide +kernel) rfl (kx_s_nm (JS 63)))))))), List.forall_mem_cons.mpr ⟨kx_tq (60) 64 (by decide +kernel) (by decide +kernel) (by decide +kernel) rfl (kx_s_aload_n (j := 0) G rfl (by decide +kernel) (kx_s_gI G kf_3_28 (by decide +kernel) (kx_s_ifle (off := 7) (tgt := 75) G (by decide +kernel) rfl (kx_s_iconst (i := 0) G (by decide +kernel) (by decide +kernel) (kx_s_nm (JS 76))) (kx_s_iconst (i := 1) G (by decide +kernel) (by decide +kernel) (kx_s_goto (off := 4) (tgt := 76) G (by decide +kernel) rfl (kx_s_nm (JS 76))))))), List.forall_mem_cons.mpr ⟨kx_tq (73) 77 (by decide +kernel) (by decide +kernel) (by decide +kernel) rfl (kx_s_iconst (i := 1) G (by decide +kernel) (by decide +kernel) (kx_s_zreturn G RT (by decide +kernel))), List.forall_mem_nil _⟩⟩⟩⟩) (kx_cov 4 (by decide) (vs := [0, 1, 2, 3]) rfl (by decide +kernel)))))
set_option maxRecDepth 20000 in
theorem sk_73_49 (X : kx_X p l e R s m args below meth c s0 D cA 1 ι0 h0 rr hf prog_4_method_4_code "TaskDesk$Gate" C d (Option.some Jvm.ClassFile.FieldType.boolean) "canBeLeft" J) : kx_Sn p l e R s m args below meth c s0 D cA 1 ι0 h0 rr hf 49 (bk_73_49 d C J) := by
  obtain ⟨G, CS, R9, O9, RT, NM, T0, FL, JS⟩ := X
  exact (kx_s_zreturn G RT (by decide +kernel))
set_option maxRecDepth 20000 in
theorem sk_73_63 (X : kx_X p l e R s m args below meth c s0 D cA 1 ι0 h0 rr hf prog_4_method_4_code "TaskDesk$Gate" C d (Option.some Jvm.ClassFile.FieldType.boolean) "canBeLeft" J) : kx_Sn p l e R s m args below meth c s0 D cA 1 ι0 h0 rr hf 63 (bk_73_63 d C J) := by
  obtain ⟨G, CS, R9, O9, RT, NM, T0, FL, JS⟩ := X
  exact (kx_s_zreturn G RT (by decide +kernel))
set_option maxRecDepth 20000 in
theorem sk_73_76 (X : kx_X p l e R s m args below meth c s0 D cA 1 ι0 h0 rr hf prog_4_method_4_code "TaskDesk$Gate" C d (Option.some Jvm.ClassFile.FieldType.boolean) "canBeLeft" J) : kx_Sn p l e R s m args below meth c s0 D cA 1 ι0 h0 rr hf 76 (bk_73_76 d C J) := by
  obtain ⟨G, CS, R9, O9, RT, NM, T0, FL, JS⟩ := X
  exact (kx_s_zreturn G RT (by decide +kernel))
set_option maxRecDepth 20000 in
theorem sk_73_92 (X : kx_X p l e R s m args below meth c s0 D cA 1 ι0 h0 rr hf prog_4_method_4_code "TaskDesk$Gate" C d (Option.some Jvm.ClassFile.FieldType.boolean) "canBeLeft" J) : kx_Sn p l e R s m args below meth c s0 D cA 1 ι0 h0 rr hf 92 (bk_73_92 d C J) := by
  obtain ⟨G, CS, R9, O9, RT, NM, T0, FL, JS⟩ := X
  exact (kx_s_zreturn G RT (by decide +kernel))
theorem sm_73 (X : kx_X p l e R s m args below meth c s0 D cA 1 ι0 h0 rr hf prog_4_method_4_code "TaskDesk$Gate" C d (Option.some Jvm.ClassFile.FieldType.boolean) "canBeLeft" J) (b : Nat) : kx_Sn p l e R s m args below meth c s0 D cA 1 ι0 h0 rr hf b (bm_73 d C b J) := by
  unfold bm_73
  cases h0 : Nat.beq b 0 with
  | true => rw [Nat.eq_of_beq_eq_true h0]; exact sk_73_0 X
  | false =>
   cases h49 : Nat.beq b 49 with
   | true => rw [Nat.eq_of_beq_eq_true h49]; exact sk_73_49 X
   | false =>
    cases h63 : Nat.beq b 63 with
    | true => rw [Nat.eq_of_beq_eq_true h63]; exact sk_73_63 X
    | false =>
     cases h76 : Nat.beq b 76 with
     | true => rw [Nat.eq_of_beq_eq_true h76]; exact sk_73_76 X
     | false =>
      cases h92 : Nat.beq b 92 with
      | true => rw [Nat.eq_of_beq_eq_true h92]; exact sk_73_92 X
      | false =>
       exact kx_s_no
/-! TaskDesk$Gate.canChangeBy(I)Z -/
def bk_79_0 (d : Nat) (C : kx_C) (J : Nat → kx_F) : kx_F := (kx_la 0 (kx_gI 3 3 (kx_sw [(1, (kx_la 0 (kx_gI 3 4 (kx_ifle (kx_c (kx_i 0) (kx_nm [] (J 44))) (kx_c (kx_i 1) (kx_nm [] (J 44))))))), (2, (kx_la 0 (kx_gI 3 4 (kx_i2l (kx_li 1 (kx_i2l (kx_jj (fun x y => x + y) (kx_sl 2 (kx_ll 2 (kx_c (kx_l 0) (kx_lcmp (kx_iflt (kx_nm [] (J 72)) (kx_ll 2 (kx_c (kx_l 1000000000) (kx_lcmp (kx_ifgt (kx_nm [] (J 72)) (kx_c (kx_i 1) (kx_nm [] (J 73)))))))))))))))))))] (kx_la 0 (kx_gI 3 3 (kx_c (kx_i 3) (kx_cne (kx_c (kx_i 0) (kx_nm [] (J 87))) (kx_c (kx_i 1) (kx_nm [] (J 87))))))))))
def bk_79_44 (d : Nat) (C : kx_C) (J : Nat → kx_F) : kx_F := kx_rz
def bk_79_72 (d : Nat) (C : kx_C) (J : Nat → kx_F) : kx_F := (kx_c (kx_i 0) (kx_nm [] (J 73)))
def bk_79_73 (d : Nat) (C : kx_C) (J : Nat → kx_F) : kx_F := kx_rz
def bk_79_87 (d : Nat) (C : kx_C) (J : Nat → kx_F) : kx_F := kx_rz
def bm_79 (d : Nat) (C : kx_C) (b : Nat) (J : Nat → kx_F) : kx_F := bif Nat.beq b 0 then bk_79_0 d C J else bif Nat.beq b 44 then bk_79_44 d C J else bif Nat.beq b 72 then bk_79_72 d C J else bif Nat.beq b 73 then bk_79_73 d C J else bif Nat.beq b 87 then bk_79_87 d C J else fun _ _ _ => none
set_option maxRecDepth 20000 in
theorem sk_79_0 (X : kx_X p l e R s m args below meth c s0 D cA 4 ι0 h0 rr hf prog_4_method_5_code "TaskDesk$Gate" C d (Option.some Jvm.ClassFile.FieldType.boolean) "canChangeBy" J) : kx_Sn p l e R s m args below meth c s0 D cA 4 ι0 h0 rr hf 0 (bk_79_0 d C J) := by
  obtain ⟨G, CS, R9, O9, RT, NM, T0, FL, JS⟩ := X
  exact (kx_s_aload_n (j := 0) G rfl (by decide +kernel) (kx_s_gI G kf_3_25 (by decide +kernel) (kx_s_lsw (dflt := 70) (ps := #[(1, 28), (2, 41)]) (len := 28) G (by decide +kernel) (by decide +kernel) (tgtD := 74) rfl (kx_s_aload_n (j := 0) G rfl (by decide +kernel) (kx_s_gI G kf_3_25 (by decide +kernel) (kx_s_iconst (i := 3) G (by decide +kernel) (by decide +kernel) (kx_s_cne (off := 7) (tgt := 86) G (by decide +kernel) rfl (kx_s_iconst (i := 0) G (by decide +kernel) (by decide +kernel) (kx_s_nm (JS 87))) (kx_s_iconst (i := 1) G (by decide +kernel) (by decide +kernel) (kx_s_goto (off := 4) (tgt := 87) G (by decide +kernel) rfl (kx_s_nm (JS 87)))))))) (List.forall_mem_cons.mpr ⟨kx_lq (28) 32 (by decide +kernel) rfl (kx_s_aload_n (j := 0) G rfl (by decide +kernel) (kx_s_gI G kf_3_28 (by decide +kernel) (kx_s_ifle (off := 7) (tgt := 43) G (by decide +kernel) rfl (kx_s_iconst (i := 0) G (by decide +kernel) (by decide +kernel) (kx_s_nm (JS 44))) (kx_s_iconst (i := 1) G (by decide +kernel) (by decide +kernel) (kx_s_goto (off := 4) (tgt := 44) G (by decide +kernel) rfl (kx_s_nm (JS 44))))))), List.forall_mem_cons.mpr ⟨kx_lq (41) 45 (by decide +kernel) rfl (kx_s_aload_n (j := 0) G rfl (by decide +kernel) (kx_s_gI G kf_3_28 (by decide +kernel) (kx_s_i2l G (by decide +kernel) (kx_s_iload_n (j := 1) G rfl (by decide +kernel) (kx_s_i2l G (by decide +kernel) (kx_s_ladd G (by decide +kernel) (kx_s_lstore_n (j := 2) G rfl (by decide +kernel) (by decide) (kx_s_lload_n (j := 2) G rfl (by decide +kernel) (kx_s_lconst (i := 0) G (by decide +kernel) (by decide +kernel) (kx_s_lcmp G (by decide +kernel) (kx_s_iflt (off := 15) (tgt := 72) G (by decide +kernel) rfl (kx_s_nm (JS 72)) (kx_s_lload_n (j := 2) G rfl (by decide +kernel) (kx_s_ldc2 G kw_858 (by decide +kernel) (kx_s_lcmp G (by decide +kernel) (kx_s_ifgt (off := 7) (tgt := 72) G (by decide +kernel) rfl (kx_s_nm (JS 72)) (kx_s_iconst (i := 1) G (by decide +kernel) (by decide +kernel) (kx_s_goto (off := 4) (tgt := 73) G (by decide +kernel) rfl (kx_s_nm (JS 73))))))))))))))))))), List.forall_mem_nil _⟩⟩) (kx_lcov_2 (by decide +kernel) (by decide +kernel)))))
set_option maxRecDepth 20000 in
theorem sk_79_44 (X : kx_X p l e R s m args below meth c s0 D cA 4 ι0 h0 rr hf prog_4_method_5_code "TaskDesk$Gate" C d (Option.some Jvm.ClassFile.FieldType.boolean) "canChangeBy" J) : kx_Sn p l e R s m args below meth c s0 D cA 4 ι0 h0 rr hf 44 (bk_79_44 d C J) := by
  obtain ⟨G, CS, R9, O9, RT, NM, T0, FL, JS⟩ := X
  exact (kx_s_zreturn G RT (by decide +kernel))
set_option maxRecDepth 20000 in
theorem sk_79_72 (X : kx_X p l e R s m args below meth c s0 D cA 4 ι0 h0 rr hf prog_4_method_5_code "TaskDesk$Gate" C d (Option.some Jvm.ClassFile.FieldType.boolean) "canChangeBy" J) : kx_Sn p l e R s m args below meth c s0 D cA 4 ι0 h0 rr hf 72 (bk_79_72 d C J) := by
  obtain ⟨G, CS, R9, O9, RT, NM, T0, FL, JS⟩ := X
  exact (kx_s_iconst (i := 0) G (by decide +kernel) (by decide +kernel) (kx_s_nm (JS 73)))
set_option maxRecDepth 20000 in
theorem sk_79_73 (X : kx_X p l e R s m args below meth c s0 D cA 4 ι0 h0 rr hf prog_4_method_5_code "TaskDesk$Gate" C d (Option.some Jvm.ClassFile.FieldType.boolean) "canChangeBy" J) : kx_Sn p l e R s m args below meth c s0 D cA 4 ι0 h0 rr hf 73 (bk_79_73 d C J) := by
  obtain ⟨G, CS, R9, O9, RT, NM, T0, FL, JS⟩ := X
  exact (kx_s_zreturn G RT (by decide +kernel))
set_option maxRecDepth 20000 in
theorem sk_79_87 (X : kx_X p l e R s m args below meth c s0 D cA 4 ι0 h0 rr hf prog_4_method_5_code "TaskDesk$Gate" C d (Option.some Jvm.ClassFile.FieldType.boolean) "canChangeBy" J) : kx_Sn p l e R s m args below meth c s0 D cA 4 ι0 h0 rr hf 87 (bk_79_87 d C J) := by
  obtain ⟨G, CS, R9, O9, RT, NM, T0, FL, JS⟩ := X
  exact (kx_s_zreturn G RT (by decide +kernel))
theorem sm_79 (X : kx_X p l e R s m args below meth c s0 D cA 4 ι0 h0 rr hf prog_4_method_5_code "TaskDesk$Gate" C d (Option.some Jvm.ClassFile.FieldType.boolean) "canChangeBy" J) (b : Nat) : kx_Sn p l e R s m args below meth c s0 D cA 4 ι0 h0 rr hf b (bm_79 d C b J) := by
  unfold bm_79
  cases h0 : Nat.beq b 0 with
  | true => rw [Nat.eq_of_beq_eq_true h0]; exact sk_79_0 X
  | false =>
   cases h44 : Nat.beq b 44 with
   | true => rw [Nat.eq_of_beq_eq_true h44]; exact sk_79_44 X
   | false =>
    cases h72 : Nat.beq b 72 with
    | true => rw [Nat.eq_of_beq_eq_true h72]; exact sk_79_72 X
    | false =>
     cases h73 : Nat.beq b 73 with
     | true => rw [Nat.eq_of_beq_eq_true h73]; exact sk_79_73 X
     | false =>
      cases h87 : Nat.beq b 87 with
      | true => rw [Nat.eq_of_beq_eq_true h87]; exact sk_79_87 X
      | false =>
       exact kx_s_no
end KB
