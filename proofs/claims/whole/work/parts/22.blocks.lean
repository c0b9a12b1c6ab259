section KB
variable {p : Program} {l : Launch} {e : Env} {R : Room} {s : State} {m : MethodId} {args : Array Value} {below : List Frame} {meth : Method} {c : Code} {s0 : State} {D : va_G} {cA : Nat → ClassId} {ι0 : Nat → Nat} {h0 hf : kx_H} {rr : kx_R} {C : kx_C} {d : Nat} {J : Nat → kx_F}
/-! TaskDesk.<init>()V -/
def bk_0_0 (d : Nat) (C : kx_C) (J : Nat → kx_F) : kx_F := (kx_la 0 (kx_obj (kx_la 0 (kx_c (kx_i 256) (kx_newa kx_cc kx_cs 102 (kx_pR 0 0 102 (kx_la 0 (kx_new kx_cc kx_cs 5 3 (kx_dup (kx_Vv C 1 5 [] (kx_pR 0 2 5 (kx_la 0 (kx_new kx_cc kx_cs 1 2 (kx_dup (kx_Vv C 2 1 [] (kx_pR 0 6 1 (kx_la 0 (kx_c (kx_i 512) (kx_newa kx_cc kx_cs 103 (kx_pR 0 8 103 (kx_la 0 (kx_new kx_cc kx_cs 2 10 (kx_dup (kx_c (kx_i (-1)) (kx_Vv C 4 2 [0] (kx_pR 0 9 2 (kx_la 0 (kx_c (kx_i 16) (kx_newa kx_cc kx_cs 104 (kx_pR 0 13 104 (kx_la 0 (kx_c (kx_i 256) (kx_newa kx_cc kx_cs 105 (kx_pR 0 16 105 (kx_c (kx_i 0) (kx_si 1 (kx_nm [0, 1] (J 79))))))))))))))))))))))))))))))))))))))
def bk_0_79 (d : Nat) (C : kx_C) (J : Nat → kx_F) : kx_F := (kx_li 1 (kx_c (kx_i 256) (kx_cge (kx_c (kx_i 0) (kx_si 1 (kx_nm [0, 1] (J 128)))) (kx_new kx_cc kx_cs 4 9 (kx_dup (kx_la 0 (kx_gR 0 9 2 (kx_Vv C 5 4 [4] (kx_sa 2 (kx_new kx_cc kx_cs 6 10 (kx_dup (kx_li 1 (kx_la 2 (kx_Vv C 6 6 [0, 6] (kx_sa 3 (kx_la 2 (kx_la 3 (kx_pR 4 0 6 (kx_la 0 (kx_gR 0 0 102 (kx_li 1 (kx_la 3 (kx_asR 102 6 (kx_inc 1 1 (kx_nm [0, 1] (J 79))))))))))))))))))))))))))
def bk_0_128 (d : Nat) (C : kx_C) (J : Nat → kx_F) : kx_F := (kx_li 1 (kx_c (kx_i 512) (kx_cge (kx_c (kx_i 0) (kx_si 1 (kx_nm [0, 1] (J 157)))) (kx_la 0 (kx_gR 0 8 103 (kx_li 1 (kx_new kx_cc kx_cs 2 10 (kx_dup (kx_li 1 (kx_Vv C 4 2 [0] (kx_asR 103 2 (kx_inc 1 1 (kx_nm [0, 1] (J 128))))))))))))))
def bk_0_157 (d : Nat) (C : kx_C) (J : Nat → kx_F) : kx_F := (kx_li 1 (kx_c (kx_i 256) (kx_cge (kx_c (kx_i 0) (kx_si 1 (kx_nm [0, 1] (J 186)))) (kx_la 0 (kx_gR 0 16 105 (kx_li 1 (kx_new kx_cc kx_cs 3 6 (kx_dup (kx_li 1 (kx_Vv C 7 3 [0] (kx_asR 105 3 (kx_inc 1 1 (kx_nm [0, 1] (J 157))))))))))))))
def bk_0_186 (d : Nat) (C : kx_C) (J : Nat → kx_F) : kx_F := (kx_li 1 (kx_c (kx_i 512) (kx_cge (kx_la 0 (kx_gR 0 0 102 (kx_c (kx_i 0) (kx_aR 102 6 (kx_sa 1 (kx_la 1 (kx_Vv C 11 6 [] (kx_la 1 (kx_c (kx_i 0) (kx_pI 6 3 (kx_la 0 (kx_c (kx_i 1) (kx_pI 0 1 (kx_la 0 (kx_la 1 (kx_pR 0 3 6 kx_rv)))))))))))))))) (kx_la 0 (kx_new kx_cc kx_cs 8 2 (kx_dup (kx_Vv C 8 8 [] (kx_Vv C 9 0 [10] (kx_la 0 (kx_new kx_cc kx_cs 4 9 (kx_dup (kx_la 0 (kx_gR 0 9 2 (kx_Vv C 5 4 [4] (kx_Vv C 10 0 [6] (kx_inc 1 1 (kx_nm [0, 1] (J 186))))))))))))))))))
def bm_0 (d : Nat) (C : kx_C) (b : Nat) (J : Nat → kx_F) : kx_F := bif Nat.beq b 0 then bk_0_0 d C J else bif Nat.beq b 79 then bk_0_79 d C J else bif Nat.beq b 128 then bk_0_128 d C J else bif Nat.beq b 157 then bk_0_157 d C J else bif Nat.beq b 186 then bk_0_186 d C J else fun _ _ _ => none
set_option maxRecDepth 20000 in
theorem sk_0_0 (X : kx_X p l e R s m args below meth c s0 D cA 4 ι0 h0 rr hf prog_1_method_1_code "TaskDesk" C d (Option.none : Option Jvm.ClassFile.FieldType) "<init>" J) : kx_Sn p l e R s m args below meth c s0 D cA 4 ι0 h0 rr hf 0 (bk_0_0 d C J) := by
  obtain ⟨G, CS, R9, O9, RT, NM, T0, FL, JS⟩ := X
  exact (kx_s_aload_n (j := 0) G rfl (by decide +kernel) (kx_s_obj G kw_102 kw_103 kw_104 (by have := R9.1; omega) (by have := R9.2; omega) (by decide +kernel) (kx_s_aload_n (j := 0) G rfl (by decide +kernel) (kx_s_sipush (i := 256) G (by decide +kernel) (by decide +kernel) (kx_s_anew G (r9 := kr_6) ka_102 kw_105 kw_106 (by decide +kernel) (kx_s_pRF (ty := .array (.object "TaskDesk$Task")) G kf_0_11 rfl NM rfl (by decide +kernel) rfl (by decide +kernel) (kx_s_aload_n (j := 0) G rfl (by decide +kernel) (kx_s_new G (r := kr_5) rfl (by decide) rfl ki_5 kt_y5 ky_5 kd_5 kw_107 kw_108 kw_81 (by decide +kernel) (kx_s_dup G (by decide +kernel) (kx_s_INv (n := 1) G kx_good CS R9 (O9 _) kc_1 rfl kw_109 kw_110 rfl rfl (by decide +kernel) (kx_s_pRF (ty := .object "TaskDesk$Row") G kf_0_18 rfl NM rfl (by decide +kernel) rfl (by decide +kernel) (kx_s_aload_n (j := 0) G rfl (by decide +kernel) (kx_s_new G (r := kr_1) rfl (by decide) rfl ki_1 kt_y1 ky_1 kd_1 kw_129 kw_130 kw_82 (by decide +kernel) (kx_s_dup G (by decide +kernel) (kx_s_Iv (n := 2) G kx_good CS R9 (O9 _) kc_2 rfl kw_131 kw_132 rfl rfl (by decide +kernel) (kx_s_pRF (ty := .object "TaskDesk$Agenda") G kf_0_25 rfl NM rfl (by decide +kernel) rfl (by decide +kernel) (kx_s_aload_n (j := 0) G rfl (by decide +kernel) (kx_s_sipush (i := 512) G (by decide +kernel) (by decide +kernel) (kx_s_anew G (r9 := kr_2) ka_103 kw_165 kw_166 (by decide +kernel) (kx_s_pRF (ty := .array (.object "TaskDesk$Channel")) G kf_0_31 rfl NM rfl (by decide +kernel) rfl (by decide +kernel) (kx_s_aload_n (j := 0) G rfl (by decide +kernel) (kx_s_new G (r := kr_2) rfl (by decide) rfl ki_2 kt_y2 ky_2 kd_2 kw_165 kw_167 kw_84 (by decide +kernel) (kx_s_dup G (by decide +kernel) (kx_s_iconst (i := -1) G (by decide +kernel) (by decide +kernel) (kx_s_Iv (n := 4) G kx_good CS R9 (O9 _) kc_4 rfl kw_168 kw_169 rfl rfl (by decide +kernel) (kx_s_pRF (ty := .object "TaskDesk$Channel") G kf_0_38 rfl NM rfl (by decide +kernel) rfl (by decide +kernel) (kx_s_aload_n (j := 0) G rfl (by decide +kernel) (kx_s_bipush (i := 16) G (by decide +kernel) (by decide +kernel) (kx_s_anew G (r9 := kr_4) ka_104 kw_211 kw_212 (by decide +kernel) (kx_s_pRF (ty := .array (.object "TaskDesk$Place")) G kf_0_44 rfl NM rfl (by decide +kernel) rfl (by decide +kernel) (kx_s_aload_n (j := 0) G rfl (by decide +kernel) (kx_s_sipush (i := 256) G (by decide +kernel) (by decide +kernel) (kx_s_anew G (r9 := kr_3) ka_105 kw_213 kw_214 (by decide +kernel) (kx_s_pRF (ty := .array (.object "TaskDesk$Gate")) G kf_0_50 rfl NM rfl (by decide +kernel) rfl (by decide +kernel) (kx_s_iconst (i := 0) G (by decide +kernel) (by decide +kernel) (kx_s_istore_n (j := 1) G rfl (by decide +kernel) (by decide) (kx_s_nm (JS 79))))))))))))))))))))))))))))))))))))))
set_option maxRecDepth 20000 in
theorem sk_0_79 (X : kx_X p l e R s m args below meth c s0 D cA 4 ι0 h0 rr hf prog_1_method_1_code "TaskDesk" C d (Option.none : Option Jvm.ClassFile.FieldType) "<init>" J) : kx_Sn p l e R s m args below meth c s0 D cA 4 ι0 h0 rr hf 79 (bk_0_79 d C J) := by
  obtain ⟨G, CS, R9, O9, RT, NM, T0, FL, JS⟩ := X
  exact (kx_s_iload_n (j := 1) G rfl (by decide +kernel) (kx_s_sipush (i := 256) G (by decide +kernel) (by decide +kernel) (kx_s_cge (off := 43) (tgt := 126) G (by decide +kernel) rfl (kx_s_iconst (i := 0) G (by decide +kernel) (by decide +kernel) (kx_s_istore_n (j := 1) G rfl (by decide +kernel) (by decide) (kx_s_nm (JS 128)))) (kx_s_new G (r := kr_4) rfl (by decide) rfl ki_4 kt_y4 ky_4 kd_4 kw_211 kw_215 kw_85 (by decide +kernel) (kx_s_dup G (by decide +kernel) (kx_s_aload_n (j := 0) G rfl (by decide +kernel) (kx_s_gR G kf_0_38 (by decide +kernel) (kx_s_Iv (n := 5) G kx_good CS R9 (O9 _) kc_5 rfl kw_216 kw_217 rfl rfl (by decide +kernel) (kx_s_astore_n (j := 2) G rfl (by decide +kernel) (by decide) (kx_s_new G (r := kr_6) rfl (by decide) rfl ki_6 kt_y6 ky_6 kd_6 kw_105 kw_256 kw_86 (by decide +kernel) (kx_s_dup G (by decide +kernel) (kx_s_iload_n (j := 1) G rfl (by decide +kernel) (kx_s_aload_n (j := 2) G rfl (by decide +kernel) (kx_s_Iv (n := 6) G kx_good CS R9 (O9 _) kc_6 rfl kw_257 kw_258 rfl rfl (by decide +kernel) (kx_s_astore_n (j := 3) G rfl (by decide +kernel) (by decide) (kx_s_aload_n (j := 2) G rfl (by decide +kernel) (kx_s_aload_n (j := 3) G rfl (by decide +kernel) (kx_s_pR (ty := .object "TaskDesk$Task") G kf_0_60 rfl (by decide +kernel) rfl (by decide +kernel) (kx_s_aload_n (j := 0) G rfl (by decide +kernel) (kx_s_gR G kf_0_11 (by decide +kernel) (kx_s_iload_n (j := 1) G rfl (by decide +kernel) (kx_s_aload_n (j := 3) G rfl (by decide +kernel) (kx_s_asR G ka_102 rfl (by decide) (by decide +kernel) (kx_s_iinc (n := 1) G (by decide +kernel) (by decide +kernel) (by decide) (kx_s_goto (off := -44) (tgt := 79) G (by decide +kernel) rfl (kx_s_nm (JS 79)))))))))))))))))))))))))))
set_option maxRecDepth 20000 in
theorem sk_0_128 (X : kx_X p l e R s m args below meth c s0 D cA 4 ι0 h0 rr hf prog_1_method_1_code "TaskDesk" C d (Option.none : Option Jvm.ClassFile.FieldType) "<init>" J) : kx_Sn p l e R s m args below meth c s0 D cA 4 ι0 h0 rr hf 128 (bk_0_128 d C J) := by
  obtain ⟨G, CS, R9, O9, RT, NM, T0, FL, JS⟩ := X
  exact (kx_s_iload_n (j := 1) G rfl (by decide +kernel) (kx_s_sipush (i := 512) G (by decide +kernel) (by decide +kernel) (kx_s_cge (off := 23) (tgt := 155) G (by decide +kernel) rfl (kx_s_iconst (i := 0) G (by decide +kernel) (by decide +kernel) (kx_s_istore_n (j := 1) G rfl (by decide +kernel) (by decide) (kx_s_nm (JS 157)))) (kx_s_aload_n (j := 0) G rfl (by decide +kernel) (kx_s_gR G kf_0_31 (by decide +kernel) (kx_s_iload_n (j := 1) G rfl (by decide +kernel) (kx_s_new G (r := kr_2) rfl (by decide) rfl ki_2 kt_y2 ky_2 kd_2 kw_165 kw_167 kw_84 (by decide +kernel) (kx_s_dup G (by decide +kernel) (kx_s_iload_n (j := 1) G rfl (by decide +kernel) (kx_s_Iv (n := 4) G kx_good CS R9 (O9 _) kc_4 rfl kw_168 kw_169 rfl rfl (by decide +kernel) (kx_s_asR G ka_103 rfl (by decide) (by decide +kernel) (kx_s_iinc (n := 1) G (by decide +kernel) (by decide +kernel) (by decide) (kx_s_goto (off := -24) (tgt := 128) G (by decide +kernel) rfl (kx_s_nm (JS 128)))))))))))))))
set_option maxRecDepth 20000 in
theorem sk_0_157 (X : kx_X p l e R s m args below meth c s0 D cA 4 ι0 h0 rr hf prog_1_method_1_code "TaskDesk" C d (Option.none : Option Jvm.ClassFile.FieldType) "<init>" J) : kx_Sn p l e R s m args below meth c s0 D cA 4 ι0 h0 rr hf 157 (bk_0_157 d C J) := by
  obtain ⟨G, CS, R9, O9, RT, NM, T0, FL, JS⟩ := X
  exact (kx_s_iload_n (j := 1) G rfl (by decide +kernel) (kx_s_sipush (i := 256) G (by decide +kernel) (by decide +kernel) (kx_s_cge (off := 23) (tgt := 184) G (by decide +kernel) rfl (kx_s_iconst (i := 0) G (by decide +kernel) (by decide +kernel) (kx_s_istore_n (j := 1) G rfl (by decide +kernel) (by decide) (kx_s_nm (JS 186)))) (kx_s_aload_n (j := 0) G rfl (by decide +kernel) (kx_s_gR G kf_0_50 (by decide +kernel) (kx_s_iload_n (j := 1) G rfl (by decide +kernel) (kx_s_new G (r := kr_3) rfl (by decide) rfl ki_3 kt_y3 ky_3 kd_3 kw_213 kw_302 kw_87 (by decide +kernel) (kx_s_dup G (by decide +kernel) (kx_s_iload_n (j := 1) G rfl (by decide +kernel) (kx_s_Iv (n := 7) G kx_good CS R9 (O9 _) kc_7 rfl kw_303 kw_304 rfl rfl (by decide +kernel) (kx_s_asR G ka_105 rfl (by decide) (by decide +kernel) (kx_s_iinc (n := 1) G (by decide +kernel) (by decide +kernel) (by decide) (kx_s_goto (off := -24) (tgt := 157) G (by decide +kernel) rfl (kx_s_nm (JS 157)))))))))))))))
set_option maxRecDepth 20000 in
theorem sk_0_186 (X : kx_X p l e R s m args below meth c s0 D cA 4 ι0 h0 rr hf prog_1_method_1_code "TaskDesk" C d (Option.none : Option Jvm.ClassFile.FieldType) "<init>" J) : kx_Sn p l e R s m args below meth c s0 D cA 4 ι0 h0 rr hf 186 (bk_0_186 d C J) := by
  obtain ⟨G, CS, R9, O9, RT, NM, T0, FL, JS⟩ := X
  exact (kx_s_iload_n (j := 1) G rfl (by decide +kernel) (kx_s_sipush (i := 512) G (by decide +kernel) (by decide +kernel) (kx_s_cge (off := 35) (tgt := 225) G (by decide +kernel) rfl (kx_s_aload_n (j := 0) G rfl (by decide +kernel) (kx_s_gR G kf_0_11 (by decide +kernel) (kx_s_iconst (i := 0) G (by decide +kernel) (by decide +kernel) (kx_s_aR G rfl ka_102 (by decide +kernel) (kx_s_astore_n (j := 1) G rfl (by decide +kernel) (by decide) (kx_s_aload_n (j := 1) G rfl (by decide +kernel) (kx_s_Vv (n := 11) G kx_good CS R9 (O9 _) kc_11 rfl kw_355 kw_356 kw_357 (r := kr_6) rfl (by decide) (by decide +kernel) (kx_s_aload_n (j := 1) G rfl (by decide +kernel) (kx_s_iconst (i := 0) G (by decide +kernel) (by decide +kernel) (kx_s_pI G kf_0_79 rfl (by decide +kernel) (by decide +kernel) (kx_s_aload_n (j := 0) G rfl (by decide +kernel) (kx_s_iconst (i := 1) G (by decide +kernel) (by decide +kernel) (kx_s_pI G kf_0_83 rfl (by decide +kernel) (by decide +kernel) (kx_s_aload_n (j := 0) G rfl (by decide +kernel) (kx_s_aload_n (j := 1) G rfl (by decide +kernel) (kx_s_pR (ty := .object "TaskDesk$Task") G kf_0_86 rfl (by decide +kernel) rfl (by decide +kernel) (kx_s_return G RT (by decide +kernel)))))))))))))))))) (kx_s_aload_n (j := 0) G rfl (by decide +kernel) (kx_s_new G (r := kr_8) rfl (by decide) rfl ki_8 kt_y8 ky_8 kd_8 kw_333 kw_334 kw_88 (by decide +kernel) (kx_s_dup G (by decide +kernel) (kx_s_INv (n := 8) G kx_good CS R9 (O9 _) kc_8 rfl kw_335 kw_336 rfl rfl (by decide +kernel) (kx_s_Vv (n := 9) G kx_good CS R9 (O9 _) kc_9 rfl kw_347 kw_349 kw_0 (r := kr_0) rfl (by decide) (by decide +kernel) (kx_s_aload_n (j := 0) G rfl (by decide +kernel) (kx_s_new G (r := kr_4) rfl (by decide) rfl ki_4 kt_y4 ky_4 kd_4 kw_211 kw_215 kw_85 (by decide +kernel) (kx_s_dup G (by decide +kernel) (kx_s_aload_n (j := 0) G rfl (by decide +kernel) (kx_s_gR G kf_0_38 (by decide +kernel) (kx_s_Iv (n := 5) G kx_good CS R9 (O9 _) kc_5 rfl kw_216 kw_217 rfl rfl (by decide +kernel) (kx_s_Vv (n := 10) G kx_good CS R9 (O9 _) kc_10 rfl kw_351 kw_353 kw_1 (r := kr_0) rfl (by decide) (by decide +kernel) (kx_s_iinc (n := 1) G (by decide +kernel) (by decide +kernel) (by decide) (kx_s_goto (off := -36) (tgt := 186) G (by decide +kernel) rfl (kx_s_nm (JS 186)))))))))))))))))))
theorem sm_0 (X : kx_X p l e R s m args below meth c s0 D cA 4 ι0 h0 rr hf prog_1_method_1_code "TaskDesk" C d (Option.none : Option Jvm.ClassFile.FieldType) "<init>" J) (b : Nat) : kx_Sn p l e R s m args below meth c s0 D cA 4 ι0 h0 rr hf b (bm_0 d C b J) := by
  unfold bm_0
  cases h0 : Nat.beq b 0 with
  | true => rw [Nat.eq_of_beq_eq_true h0]; exact sk_0_0 X
  | false =>
   cases h79 : Nat.beq b 79 with
   | true => rw [Nat.eq_of_beq_eq_true h79]; exact sk_0_79 X
   | false =>
    cases h128 : Nat.beq b 128 with
    | true => rw [Nat.eq_of_beq_eq_true h128]; exact sk_0_128 X
    | false =>
     cases h157 : Nat.beq b 157 with
     | true => rw [Nat.eq_of_beq_eq_true h157]; exact sk_0_157 X
     | false =>
      cases h186 : Nat.beq b 186 with
      | true => rw [Nat.eq_of_beq_eq_true h186]; exact sk_0_186 X
      | false =>
       exact kx_s_no
/-! TaskDesk.keepValue(LTaskDesk$Value;)V -/
def bk_9_0 (d : Nat) (C : kx_C) (J : Nat → kx_F) : kx_F := (kx_la 1 (kx_la 0 (kx_gR 0 12 8 (kx_pR 8 1 8 (kx_la 0 (kx_la 1 (kx_pR 0 12 8 kx_rv)))))))
def bm_9 (d : Nat) (C : kx_C) (b : Nat) (J : Nat → kx_F) : kx_F := bif Nat.beq b 0 then bk_9_0 d C J else fun _ _ _ => none
set_option maxRecDepth 20000 in
theorem sk_9_0 (X : kx_X p l e R s m args below meth c s0 D cA 2 ι0 h0 rr hf prog_1_method_49_code "TaskDesk" C d (Option.none : Option Jvm.ClassFile.FieldType) "keepValue" J) : kx_Sn p l e R s m args below meth c s0 D cA 2 ι0 h0 rr hf 0 (bk_9_0 d C J) := by
  obtain ⟨G, CS, R9, O9, RT, NM, T0, FL, JS⟩ := X
  exact (kx_s_aload_n (j := 1) G rfl (by decide +kernel) (kx_s_aload_n (j := 0) G rfl (by decide +kernel) (kx_s_gR G kf_0_441 (by decide +kernel) (kx_s_pR (ty := .object "TaskDesk$Value") G kf_0_445 rfl (by decide +kernel) rfl (by decide +kernel) (kx_s_aload_n (j := 0) G rfl (by decide +kernel) (kx_s_aload_n (j := 1) G rfl (by decide +kernel) (kx_s_pR (ty := .object "TaskDesk$Value") G kf_0_441 rfl (by decide +kernel) rfl (by decide +kernel) (kx_s_return G RT (by decide +kernel)))))))))
theorem sm_9 (X : kx_X p l e R s m args below meth c s0 D cA 2 ι0 h0 rr hf prog_1_method_49_code "TaskDesk" C d (Option.none : Option Jvm.ClassFile.FieldType) "keepValue" J) (b : Nat) : kx_Sn p l e R s m args below meth c s0 D cA 2 ι0 h0 rr hf b (bm_9 d C b J) := by
  unfold bm_9
  cases h0 : Nat.beq b 0 with
  | true => rw [Nat.eq_of_beq_eq_true h0]; exact sk_9_0 X
  | false =>
   exact kx_s_no
/-! TaskDesk.keepPlace(LTaskDesk$Place;)V -/
def bk_10_0 (d : Nat) (C : kx_C) (J : Nat → kx_F) : kx_F := (kx_la 1 (kx_la 0 (kx_gR 0 15 4 (kx_pR 4 8 4 (kx_la 0 (kx_la 1 (kx_pR 0 15 4 kx_rv)))))))
def bm_10 (d : Nat) (C : kx_C) (b : Nat) (J : Nat → kx_F) : kx_F := bif Nat.beq b 0 then bk_10_0 d C J else fun _ _ _ => none
set_option maxRecDepth 20000 in
theorem sk_10_0 (X : kx_X p l e R s m args below meth c s0 D cA 2 ι0 h0 rr hf prog_1_method_56_code "TaskDesk" C d (Option.none : Option Jvm.ClassFile.FieldType) "keepPlace" J) : kx_Sn p l e R s m args below meth c s0 D cA 2 ι0 h0 rr hf 0 (bk_10_0 d C J) := by
  obtain ⟨G, CS, R9, O9, RT, NM, T0, FL, JS⟩ := X
  exact (kx_s_aload_n (j := 1) G rfl (by decide +kernel) (kx_s_aload_n (j := 0) G rfl (by decide +kernel) (kx_s_gR G kf_0_241 (by decide +kernel) (kx_s_pR (ty := .object "TaskDesk$Place") G kf_0_249 rfl (by decide +kernel) rfl (by decide +kernel) (kx_s_aload_n (j := 0) G rfl (by decide +kernel) (kx_s_aload_n (j := 1) G rfl (by decide +kernel) (kx_s_pR (ty := .object "TaskDesk$Place") G kf_0_241 rfl (by decide +kernel) rfl (by decide +kernel) (kx_s_return G RT (by decide +kernel)))))))))
theorem sm_10 (X : kx_X p l e R s m args below meth c s0 D cA 2 ι0 h0 rr hf prog_1_method_56_code "TaskDesk" C d (Option.none : Option Jvm.ClassFile.FieldType) "keepPlace" J) (b : Nat) : kx_Sn p l e R s m args below meth c s0 D cA 2 ι0 h0 rr hf b (bm_10 d C b J) := by
  unfold bm_10
  cases h0 : Nat.beq b 0 with
  | true => rw [Nat.eq_of_beq_eq_true h0]; exact sk_10_0 X
  | false =>
   exact kx_s_no
/-! TaskDesk.release(I)Z -/
def bk_13_0 (d : Nat) (C : kx_C) (J : Nat → kx_F) : kx_F := (kx_la 0 (kx_li 1 (kx_Vr C 14 0 [0] 2 (kx_sa 2 (kx_la 2 (kx_nul (kx_nm [] (J 25)) (kx_la 2 (kx_Vi C 15 2 [] (kx_ifne (kx_nm [] (J 25)) (kx_la 0 (kx_la 2 (kx_Vi C 16 0 [4] (kx_ifeq (kx_la 2 (kx_gI 2 6 (kx_si 3 (kx_nm [0, 2, 3] (J 32))))) (kx_nm [] (J 25)))))))))))))))
def bk_13_25 (d : Nat) (C : kx_C) (J : Nat → kx_F) : kx_F := (kx_c (kx_i 0) kx_rz)
def bk_13_32 (d : Nat) (C : kx_C) (J : Nat → kx_F) : kx_F := (kx_li 3 (kx_ifle (kx_la 2 (kx_c (kx_i 0) (kx_pB 2 3 (kx_la 0 (kx_dup (kx_gI 0 10 (kx_c (kx_i 1) (kx_ii (fun x y => x - y) (kx_pI 0 10 (kx_la 0 (kx_dup (kx_gI 0 11 (kx_la 2 (kx_gI 2 5 (kx_ii (fun x y => x - y) (kx_pI 0 11 (kx_c (kx_i 1) kx_rz))))))))))))))))) (kx_la 0 (kx_la 2 (kx_Vl C 17 0 [4] (kx_pop2 (kx_inc 3 (-1) (kx_nm [0, 2, 3] (J 32)))))))))
def bm_13 (d : Nat) (C : kx_C) (b : Nat) (J : Nat → kx_F) : kx_F := bif Nat.beq b 0 then bk_13_0 d C J else bif Nat.beq b 25 then bk_13_25 d C J else bif Nat.beq b 32 then bk_13_32 d C J else fun _ _ _ => none
set_option maxRecDepth 20000 in
theorem sk_13_0 (X : kx_X p l e R s m args below meth c s0 D cA 4 ι0 h0 rr hf prog_1_method_7_code "TaskDesk" C d (Option.some Jvm.ClassFile.FieldType.boolean) "release" J) : kx_Sn p l e R s m args below meth c s0 D cA 4 ι0 h0 rr hf 0 (bk_13_0 d C J) := by
  obtain ⟨G, CS, R9, O9, RT, NM, T0, FL, JS⟩ := X
  exact (kx_s_aload_n (j := 0) G rfl (by decide +kernel) (kx_s_iload_n (j := 1) G rfl (by decide +kernel) (kx_s_Vr (n := 14) G kx_good CS R9 (O9 _) kc_14 rfl kw_422 kw_424 kw_2 (r := kr_0) rfl (by decide) (by decide +kernel) (kx_s_astore_n (j := 2) G rfl (by decide +kernel) (by decide) (kx_s_aload_n (j := 2) G rfl (by decide +kernel) (kx_s_ifnull (off := 18) (tgt := 25) G (by decide +kernel) rfl (kx_s_nm (JS 25)) (kx_s_aload_n (j := 2) G rfl (by decide +kernel) (kx_s_Vi (n := 15) G kx_good CS R9 (O9 _) kc_15 rfl kw_426 kw_427 kw_428 (r := kr_2) rfl (by decide) (by decide +kernel) (kx_s_ifne (off := 11) (tgt := 25) G (by decide +kernel) rfl (kx_s_nm (JS 25)) (kx_s_aload_n (j := 0) G rfl (by decide +kernel) (kx_s_aload_n (j := 2) G rfl (by decide +kernel) (kx_s_Vi (n := 16) G kx_good CS R9 (O9 _) kc_16 rfl kw_430 kw_432 kw_3 (r := kr_0) rfl (by decide) (by decide +kernel) (kx_s_ifeq (off := 5) (tgt := 27) G (by decide +kernel) rfl (kx_s_aload_n (j := 2) G rfl (by decide +kernel) (kx_s_gI G kf_0_175 (by decide +kernel) (kx_s_istore_n (j := 3) G rfl (by decide +kernel) (by decide) (kx_s_nm (JS 32))))) (kx_s_nm (JS 25)))))))))))))))
set_option maxRecDepth 20000 in
theorem sk_13_25 (X : kx_X p l e R s m args below meth c s0 D cA 4 ι0 h0 rr hf prog_1_method_7_code "TaskDesk" C d (Option.some Jvm.ClassFile.FieldType.boolean) "release" J) : kx_Sn p l e R s m args below meth c s0 D cA 4 ι0 h0 rr hf 25 (bk_13_25 d C J) := by
  obtain ⟨G, CS, R9, O9, RT, NM, T0, FL, JS⟩ := X
  exact (kx_s_iconst (i := 0) G (by decide +kernel) (by decide +kernel) (kx_s_zreturn G RT (by decide +kernel)))
set_option maxRecDepth 20000 in
theorem sk_13_32 (X : kx_X p l e R s m args below meth c s0 D cA 4 ι0 h0 rr hf prog_1_method_7_code "TaskDesk" C d (Option.some Jvm.ClassFile.FieldType.boolean) "release" J) : kx_Sn p l e R s m args below meth c s0 D cA 4 ι0 h0 rr hf 32 (bk_13_32 d C J) := by
  obtain ⟨G, CS, R9, O9, RT, NM, T0, FL, JS⟩ := X
  exact (kx_s_iload_n (j := 3) G rfl (by decide +kernel) (kx_s_ifle (off := 15) (tgt := 48) G (by decide +kernel) rfl (kx_s_aload_n (j := 2) G rfl (by decide +kernel) (kx_s_iconst (i := 0) G (by decide +kernel) (by decide +kernel) (kx_s_pB G kf_0_150 rfl (by decide +kernel) (by decide +kernel) (kx_s_aload_n (j := 0) G rfl (by decide +kernel) (kx_s_dup G (by decide +kernel) (kx_s_gI G kf_0_159 (by decide +kernel) (kx_s_iconst (i := 1) G (by decide +kernel) (by decide +kernel) (kx_s_isub G (by decide +kernel) (kx_s_pI G kf_0_159 rfl (by decide +kernel) (by decide +kernel) (kx_s_aload_n (j := 0) G rfl (by decide +kernel) (kx_s_dup G (by decide +kernel) (kx_s_gI G kf_0_145 (by decide +kernel) (kx_s_aload_n (j := 2) G rfl (by decide +kernel) (kx_s_gI G kf_0_156 (by decide +kernel) (kx_s_isub G (by decide +kernel) (kx_s_pI G kf_0_145 rfl (by decide +kernel) (by decide +kernel) (kx_s_iconst (i := 1) G (by decide +kernel) (by decide +kernel) (kx_s_zreturn G RT (by decide +kernel))))))))))))))))))) (kx_s_aload_n (j := 0) G rfl (by decide +kernel) (kx_s_aload_n (j := 2) G rfl (by decide +kernel) (kx_s_Vl (n := 17) G kx_good CS R9 (O9 _) kc_17 rfl kw_434 kw_436 kw_4 (r := kr_0) rfl (by decide) (by decide +kernel) (kx_s_pop2 G (by decide +kernel) (kx_s_iinc (n := -1) G (by decide +kernel) (by decide +kernel) (by decide) (kx_s_goto (off := -13) (tgt := 32) G (by decide +kernel) rfl (kx_s_nm (JS 32))))))))))
theorem sm_13 (X : kx_X p l e R s m args below meth c s0 D cA 4 ι0 h0 rr hf prog_1_method_7_code "TaskDesk" C d (Option.some Jvm.ClassFile.FieldType.boolean) "release" J) (b : Nat) : kx_Sn p l e R s m args below meth c s0 D cA 4 ι0 h0 rr hf b (bm_13 d C b J) := by
  unfold bm_13
  cases h0 : Nat.beq b 0 with
  | true => rw [Nat.eq_of_beq_eq_true h0]; exact sk_13_0 X
  | false =>
   cases h25 : Nat.beq b 25 with
   | true => rw [Nat.eq_of_beq_eq_true h25]; exact sk_13_25 X
   | false =>
    cases h32 : Nat.beq b 32 with
    | true => rw [Nat.eq_of_beq_eq_true h32]; exact sk_13_32 X
    | false =>
     exact kx_s_no
/-! TaskDesk.channelAt(I)LTaskDesk$Channel; -/
def bk_14_0 (d : Nat) (C : kx_C) (J : Nat → kx_F) : kx_F := (kx_li 1 (kx_iflt (kx_nm [] (J 23)) (kx_li 1 (kx_c (kx_i 512) (kx_cge (kx_nm [] (J 23)) (kx_la 0 (kx_gR 0 8 103 (kx_li 1 (kx_aR 103 2 (kx_gB 2 3 (kx_ifne (kx_la 0 (kx_gR 0 8 103 (kx_li 1 (kx_aR 103 2 kx_rr)))) (kx_nm [] (J 23)))))))))))))
def bk_14_23 (d : Nat) (C : kx_C) (J : Nat → kx_F) : kx_F := (kx_c (kx_r 2 none) kx_rr)
def bm_14 (d : Nat) (C : kx_C) (b : Nat) (J : Nat → kx_F) : kx_F := bif Nat.beq b 0 then bk_14_0 d C J else bif Nat.beq b 23 then bk_14_23 d C J else fun _ _ _ => none
set_option maxRecDepth 20000 in
theorem sk_14_0 (X : kx_X p l e R s m args below meth c s0 D cA 2 ι0 h0 rr hf prog_1_method_30_code "TaskDesk" C d (Option.some (Jvm.ClassFile.FieldType.object "TaskDesk$Channel")) "channelAt" J) : kx_Sn p l e R s m args below meth c s0 D cA 2 ι0 h0 rr hf 0 (bk_14_0 d C J) := by
  obtain ⟨G, CS, R9, O9, RT, NM, T0, FL, JS⟩ := X
  exact (kx_s_iload_n (j := 1) G rfl (by decide +kernel) (kx_s_iflt (off := 22) (tgt := 23) G (by decide +kernel) rfl (kx_s_nm (JS 23)) (kx_s_iload_n (j := 1) G rfl (by decide +kernel) (kx_s_sipush (i := 512) G (by decide +kernel) (by decide +kernel) (kx_s_cge (off := 15) (tgt := 23) G (by decide +kernel) rfl (kx_s_nm (JS 23)) (kx_s_aload_n (j := 0) G rfl (by decide +kernel) (kx_s_gR G kf_0_31 (by decide +kernel) (kx_s_iload_n (j := 1) G rfl (by decide +kernel) (kx_s_aR G rfl ka_103 (by decide +kernel) (kx_s_gB G kf_0_150 (by decide +kernel) (kx_s_ifne (off := 5) (tgt := 25) G (by decide +kernel) rfl (kx_s_aload_n (j := 0) G rfl (by decide +kernel) (kx_s_gR G kf_0_31 (by decide +kernel) (kx_s_iload_n (j := 1) G rfl (by decide +kernel) (kx_s_aR G rfl ka_103 (by decide +kernel) (kx_s_areturn G RT (by decide +kernel)))))) (kx_s_nm (JS 23)))))))))))))
set_option maxRecDepth 20000 in
theorem sk_14_23 (X : kx_X p l e R s m args below meth c s0 D cA 2 ι0 h0 rr hf prog_1_method_30_code "TaskDesk" C d (Option.some (Jvm.ClassFile.FieldType.object "TaskDesk$Channel")) "channelAt" J) : kx_Sn p l e R s m args below meth c s0 D cA 2 ι0 h0 rr hf 23 (bk_14_23 d C J) := by
  obtain ⟨G, CS, R9, O9, RT, NM, T0, FL, JS⟩ := X
  exact (kx_s_null G (by decide +kernel) (kx_s_areturn G RT (by decide +kernel)))
theorem sm_14 (X : kx_X p l e R s m args below meth c s0 D cA 2 ι0 h0 rr hf prog_1_method_30_code "TaskDesk" C d (Option.some (Jvm.ClassFile.FieldType.object "TaskDesk$Channel")) "channelAt" J) (b : Nat) : kx_Sn p l e R s m args below meth c s0 D cA 2 ι0 h0 rr hf b (bm_14 d C b J) := by
  unfold bm_14
  cases h0 : Nat.beq b 0 with
  | true => rw [Nat.eq_of_beq_eq_true h0]; exact sk_14_0 X
  | false =>
   cases h23 : Nat.beq b 23 with
   | true => rw [Nat.eq_of_beq_eq_true h23]; exact sk_14_23 X
   | false =>
    exact kx_s_no
/-! TaskDesk.isTold(LTaskDesk$Channel;)Z -/
def bk_16_0 (d : Nat) (C : kx_C) (J : Nat → kx_F) : kx_F := (kx_c (kx_i 0) (kx_si 2 (kx_nm [0, 1, 2] (J 2))))
def bk_16_2 (d : Nat) (C : kx_C) (J : Nat → kx_F) : kx_F := (kx_li 2 (kx_la 0 (kx_gI 0 14 (kx_cge (kx_c (kx_i 0) kx_rz) (kx_la 0 (kx_gR 0 13 104 (kx_li 2 (kx_aR 104 4 (kx_nul (kx_nm [0, 1, 2] (J 34)) (kx_la 0 (kx_gR 0 13 104 (kx_li 2 (kx_aR 104 4 (kx_gR 4 1 2 (kx_la 1 (kx_ane (kx_nm [0, 1, 2] (J 34)) (kx_c (kx_i 1) kx_rz)))))))))))))))))
def bk_16_34 (d : Nat) (C : kx_C) (J : Nat → kx_F) : kx_F := (kx_inc 2 1 (kx_nm [0, 1, 2] (J 2)))
def bm_16 (d : Nat) (C : kx_C) (b : Nat) (J : Nat → kx_F) : kx_F := bif Nat.beq b 0 then bk_16_0 d C J else bif Nat.beq b 2 then bk_16_2 d C J else bif Nat.beq b 34 then bk_16_34 d C J else fun _ _ _ => none
set_option maxRecDepth 20000 in
theorem sk_16_0 (X : kx_X p l e R s m args below meth c s0 D cA 3 ι0 h0 rr hf prog_1_method_50_code "TaskDesk" C d (Option.some Jvm.ClassFile.FieldType.boolean) "isTold" J) : kx_Sn p l e R s m args below meth c s0 D cA 3 ι0 h0 rr hf 0 (bk_16_0 d C J) := by
  obtain ⟨G, CS, R9, O9, RT, NM, T0, FL, JS⟩ := X
  exact (kx_s_iconst (i := 0) G (by decide +kernel) (by decide +kernel) (kx_s_istore_n (j := 2) G rfl (by decide +kernel) (by decide) (kx_s_nm (JS 2))))
set_option maxRecDepth 20000 in
theorem sk_16_2 (X : kx_X p l e R s m args below meth c s0 D cA 3 ι0 h0 rr hf prog_1_method_50_code "TaskDesk" C d (Option.some Jvm.ClassFile.FieldType.boolean) "isTold" J) : kx_Sn p l e R s m args below meth c s0 D cA 3 ι0 h0 rr hf 2 (bk_16_2 d C J) := by
  obtain ⟨G, CS, R9, O9, RT, NM, T0, FL, JS⟩ := X
  exact (kx_s_iload_n (j := 2) G rfl (by decide +kernel) (kx_s_aload_n (j := 0) G rfl (by decide +kernel) (kx_s_gI G kf_0_244 (by decide +kernel) (kx_s_cge (off := 33) (tgt := 40) G (by decide +kernel) rfl (kx_s_iconst (i := 0) G (by decide +kernel) (by decide +kernel) (kx_s_zreturn G RT (by decide +kernel))) (kx_s_aload_n (j := 0) G rfl (by decide +kernel) (kx_s_gR G kf_0_44 (by decide +kernel) (kx_s_iload_n (j := 2) G rfl (by decide +kernel) (kx_s_aR G rfl ka_104 (by decide +kernel) (kx_s_ifnull (off := 18) (tgt := 34) G (by decide +kernel) rfl (kx_s_nm (JS 34)) (kx_s_aload_n (j := 0) G rfl (by decide +kernel) (kx_s_gR G kf_0_44 (by decide +kernel) (kx_s_iload_n (j := 2) G rfl (by decide +kernel) (kx_s_aR G rfl ka_104 (by decide +kernel) (kx_s_gR G kf_0_252 (by decide +kernel) (kx_s_aload_n (j := 1) G rfl (by decide +kernel) (kx_s_ane (off := 5) (tgt := 34) G (by decide +kernel) rfl (kx_s_nm (JS 34)) (kx_s_iconst (i := 1) G (by decide +kernel) (by decide +kernel) (kx_s_zreturn G RT (by decide +kernel)))))))))))))))))))
set_option maxRecDepth 20000 in
theorem sk_16_34 (X : kx_X p l e R s m args below meth c s0 D cA 3 ι0 h0 rr hf prog_1_method_50_code "TaskDesk" C d (Option.some Jvm.ClassFile.FieldType.boolean) "isTold" J) : kx_Sn p l e R s m args below meth c s0 D cA 3 ι0 h0 rr hf 34 (bk_16_34 d C J) := by
  obtain ⟨G, CS, R9, O9, RT, NM, T0, FL, JS⟩ := X
  exact (kx_s_iinc (n := 1) G (by decide +kernel) (by decide +kernel) (by decide) (kx_s_goto (off := -35) (tgt := 2) G (by decide +kernel) rfl (kx_s_nm (JS 2))))
theorem sm_16 (X : kx_X p l e R s m args below meth c s0 D cA 3 ι0 h0 rr hf prog_1_method_50_code "TaskDesk" C d (Option.some Jvm.ClassFile.FieldType.boolean) "isTold" J) (b : Nat) : kx_Sn p l e R s m args below meth c s0 D cA 3 ι0 h0 rr hf b (bm_16 d C b J) := by
  unfold bm_16
  cases h0 : Nat.beq b 0 with
  | true => rw [Nat.eq_of_beq_eq_true h0]; exact sk_16_0 X
  | false =>
   cases h2 : Nat.beq b 2 with
   | true => rw [Nat.eq_of_beq_eq_true h2]; exact sk_16_2 X
   | false =>
    cases h34 : Nat.beq b 34 with
    | true => rw [Nat.eq_of_beq_eq_true h34]; exact sk_16_34 X
    | false =>
     exact kx_s_no
/-! TaskDesk.takeValue(LTaskDesk$Channel;)J -/
def bk_17_0 (d : Nat) (C : kx_C) (J : Nat → kx_F) : kx_F := (kx_la 1 (kx_gR 2 8 8 (kx_sa 2 (kx_la 2 (kx_nnul (kx_la 1 (kx_Vv C 18 2 [] (kx_la 0 (kx_la 2 (kx_Vv C 9 0 [10] (kx_la 2 (kx_gL 8 0 kx_rl))))))) (kx_c (kx_l 0) kx_rl))))))
def bm_17 (d : Nat) (C : kx_C) (b : Nat) (J : Nat → kx_F) : kx_F := bif Nat.beq b 0 then bk_17_0 d C J else fun _ _ _ => none
set_option maxRecDepth 20000 in
theorem sk_17_0 (X : kx_X p l e R s m args below meth c s0 D cA 3 ι0 h0 rr hf prog_1_method_48_code "TaskDesk" C d (Option.some Jvm.ClassFile.FieldType.long) "takeValue" J) : kx_Sn p l e R s m args below meth c s0 D cA 3 ι0 h0 rr hf 0 (bk_17_0 d C J) := by
  obtain ⟨G, CS, R9, O9, RT, NM, T0, FL, JS⟩ := X
  exact (kx_s_aload_n (j := 1) G rfl (by decide +kernel) (kx_s_gR G kf_0_453 (by decide +kernel) (kx_s_astore_n (j := 2) G rfl (by decide +kernel) (by decide) (kx_s_aload_n (j := 2) G rfl (by decide +kernel) (kx_s_ifnonnull (off := 5) (tgt := 11) G (by decide +kernel) rfl (kx_s_aload_n (j := 1) G rfl (by decide +kernel) (kx_s_Vv (n := 18) G kx_good CS R9 (O9 _) kc_18 rfl kw_438 kw_439 kw_440 (r := kr_2) rfl (by decide) (by decide +kernel) (kx_s_aload_n (j := 0) G rfl (by decide +kernel) (kx_s_aload_n (j := 2) G rfl (by decide +kernel) (kx_s_Vv (n := 9) G kx_good CS R9 (O9 _) kc_9 rfl kw_347 kw_349 kw_0 (r := kr_0) rfl (by decide) (by decide +kernel) (kx_s_aload_n (j := 2) G rfl (by decide +kernel) (kx_s_gL G kf_0_448 (by decide +kernel) (kx_s_lreturn G RT (by decide +kernel))))))))) (kx_s_lconst (i := 0) G (by decide +kernel) (by decide +kernel) (kx_s_lreturn G RT (by decide +kernel))))))))
theorem sm_17 (X : kx_X p l e R s m args below meth c s0 D cA 3 ι0 h0 rr hf prog_1_method_48_code "TaskDesk" C d (Option.some Jvm.ClassFile.FieldType.long) "takeValue" J) (b : Nat) : kx_Sn p l e R s m args below meth c s0 D cA 3 ι0 h0 rr hf b (bm_17 d C b J) := by
  unfold bm_17
  cases h0 : Nat.beq b 0 with
  | true => rw [Nat.eq_of_beq_eq_true h0]; exact sk_17_0 X
  | false =>
   exact kx_s_no
/-! TaskDesk.current()I -/
def bk_19_0 (d : Nat) (C : kx_C) (J : Nat → kx_F) : kx_F := (kx_la 0 (kx_gR 0 3 6 (kx_nnul (kx_la 0 (kx_gR 0 3 6 (kx_gI 6 0 (kx_nm [] (J 18))))) (kx_c (kx_i (-1)) (kx_nm [] (J 18))))))
def bk_19_18 (d : Nat) (C : kx_C) (J : Nat → kx_F) : kx_F := kx_ri
def bm_19 (d : Nat) (C : kx_C) (b : Nat) (J : Nat → kx_F) : kx_F := bif Nat.beq b 0 then bk_19_0 d C J else bif Nat.beq b 18 then bk_19_18 d C J else fun _ _ _ => none
set_option maxRecDepth 20000 in
theorem sk_19_0 (X : kx_X p l e R s m args below meth c s0 D cA 1 ι0 h0 rr hf prog_1_method_19_code "TaskDesk" C d (Option.some Jvm.ClassFile.FieldType.int) "current" J) : kx_Sn p l e R s m args below meth c s0 D cA 1 ι0 h0 rr hf 0 (bk_19_0 d C J) := by
  obtain ⟨G, CS, R9, O9, RT, NM, T0, FL, JS⟩ := X
  exact (kx_s_aload_n (j := 0) G rfl (by decide +kernel) (kx_s_gR G kf_0_86 (by decide +kernel) (kx_s_ifnonnull (off := 7) (tgt := 11) G (by decide +kernel) rfl (kx_s_aload_n (j := 0) G rfl (by decide +kernel) (kx_s_gR G kf_0_86 (by decide +kernel) (kx_s_gI G kf_0_107 (by decide +kernel) (kx_s_nm (JS 18))))) (kx_s_iconst (i := -1) G (by decide +kernel) (by decide +kernel) (kx_s_goto (off := 10) (tgt := 18) G (by decide +kernel) rfl (kx_s_nm (JS 18)))))))
set_option maxRecDepth 20000 in
theorem sk_19_18 (X : kx_X p l e R s m args below meth c s0 D cA 1 ι0 h0 rr hf prog_1_method_19_code "TaskDesk" C d (Option.some Jvm.ClassFile.FieldType.int) "current" J) : kx_Sn p l e R s m args below meth c s0 D cA 1 ι0 h0 rr hf 18 (bk_19_18 d C J) := by
  obtain ⟨G, CS, R9, O9, RT, NM, T0, FL, JS⟩ := X
  exact (kx_s_ireturn G RT (by decide +kernel))
theorem sm_19 (X : kx_X p l e R s m args below meth c s0 D cA 1 ι0 h0 rr hf prog_1_method_19_code "TaskDesk" C d (Option.some Jvm.ClassFile.FieldType.int) "current" J) (b : Nat) : kx_Sn p l e R s m args below meth c s0 D cA 1 ι0 h0 rr hf b (bm_19 d C b J) := by
  unfold bm_19
  cases h0 : Nat.beq b 0 with
  | true => rw [Nat.eq_of_beq_eq_true h0]; exact sk_19_0 X
  | false =>
   cases h18 : Nat.beq b 18 with
   | true => rw [Nat.eq_of_beq_eq_true h18]; exact sk_19_18 X
   | false =>
    exact kx_s_no
/-! TaskDesk.clock()J -/
def bk_20_0 (d : Nat) (C : kx_C) (J : Nat → kx_F) : kx_F := (kx_la 0 (kx_gL 0 5 kx_rl))
def bm_20 (d : Nat) (C : kx_C) (b : Nat) (J : Nat → kx_F) : kx_F := bif Nat.beq b 0 then bk_20_0 d C J else fun _ _ _ => none
set_option maxRecDepth 20000 in
theorem sk_20_0 (X : kx_X p l e R s m args below meth c s0 D cA 1 ι0 h0 rr hf prog_1_method_24_code "TaskDesk" C d (Option.some Jvm.ClassFile.FieldType.long) "clock" J) : kx_Sn p l e R s m args below meth c s0 D cA 1 ι0 h0 rr hf 0 (bk_20_0 d C J) := by
  obtain ⟨G, CS, R9, O9, RT, NM, T0, FL, JS⟩ := X
  exact (kx_s_aload_n (j := 0) G rfl (by decide +kernel) (kx_s_gL G kf_0_131 (by decide +kernel) (kx_s_lreturn G RT (by decide +kernel))))
theorem sm_20 (X : kx_X p l e R s m args below meth c s0 D cA 1 ι0 h0 rr hf prog_1_method_24_code "TaskDesk" C d (Option.some Jvm.ClassFile.FieldType.long) "clock" J) (b : Nat) : kx_Sn p l e R s m args below meth c s0 D cA 1 ι0 h0 rr hf b (bm_20 d C b J) := by
  unfold bm_20
  cases h0 : Nat.beq b 0 with
  | true => rw [Nat.eq_of_beq_eq_true h0]; exact sk_20_0 X
  | false =>
   exact kx_s_no
/-! TaskDesk.count(I)I -/
def bk_21_0 (d : Nat) (C : kx_C) (J : Nat → kx_F) : kx_F := (kx_li 1 (kx_sw [(0, (kx_la 0 (kx_gI 0 1 kx_ri))), (1, (kx_la 0 (kx_gR 0 2 5 (kx_gI 5 2 kx_ri)))), (2, (kx_la 0 (kx_gI 0 10 kx_ri))), (3, (kx_la 0 (kx_gI 0 11 kx_ri))), (4, (kx_la 0 (kx_gI 0 17 kx_ri))), (5, (kx_la 0 (kx_gI 0 7 kx_ri))), (6, (kx_la 0 (kx_gI 0 14 kx_ri))), (7, (kx_la 0 (kx_Vi C 22 0 [] kx_ri)))] (kx_c (kx_i (-1)) kx_ri)))
def bm_21 (d : Nat) (C : kx_C) (b : Nat) (J : Nat → kx_F) : kx_F := bif Nat.beq b 0 then bk_21_0 d C J else fun _ _ _ => none
set_option maxRecDepth 20000 in
theorem sk_21_0 (X : kx_X p l e R s m args below meth c s0 D cA 2 ι0 h0 rr hf prog_1_method_25_code "TaskDesk" C d (Option.some Jvm.ClassFile.FieldType.int) "count" J) : kx_Sn p l e R s m args below meth c s0 D cA 2 ι0 h0 rr hf 0 (bk_21_0 d C J) := by
  obtain ⟨G, CS, R9, O9, RT, NM, T0, FL, JS⟩ := X
  exact (kx_s_iload_n (j := 1) G rfl (by decide +kernel) (kx_s_tsw (dflt := 90) (lo := 0) (hi := 7) (offs := #[47, 52, 60, 65, 70, 75, 80, 85]) (len := 47) G (by decide +kernel) (tgtD := 91) rfl (kx_s_iconst (i := -1) G (by decide +kernel) (by decide +kernel) (kx_s_ireturn G RT (by decide +kernel))) (List.forall_mem_cons.mpr ⟨kx_tq (47) 48 (by decide +kernel) (by decide +kernel) (by decide +kernel) rfl (kx_s_aload_n (j := 0) G rfl (by decide +kernel) (kx_s_gI G kf_0_83 (by decide +kernel) (kx_s_ireturn G RT (by decide +kernel)))), List.forall_mem_cons.mpr ⟨kx_tq (52) 53 (by decide +kernel) (by decide +kernel) (by decide +kernel) rfl (kx_s_aload_n (j := 0) G rfl (by decide +kernel) (kx_s_gR G kf_0_18 (by decide +kernel) (kx_s_gI G kf_0_383 (by decide +kernel) (kx_s_ireturn G RT (by decide +kernel))))), List.forall_mem_cons.mpr ⟨kx_tq (60) 61 (by decide +kernel) (by decide +kernel) (by decide +kernel) rfl (kx_s_aload_n (j := 0) G rfl (by decide +kernel) (kx_s_gI G kf_0_159 (by decide +kernel) (kx_s_ireturn G RT (by decide +kernel)))), List.forall_mem_cons.mpr ⟨kx_tq (65) 66 (by decide +kernel) (by decide +kernel) (by decide +kernel) rfl (kx_s_aload_n (j := 0) G rfl (by decide +kernel) (kx_s_gI G kf_0_145 (by decide +kernel) (kx_s_ireturn G RT (by decide +kernel)))), List.forall_mem_cons.mpr ⟨kx_tq (70) 71 (by decide +kernel) (by decide +kernel) (by decide +kernel) rfl (kx_s_aload_n (j := 0) G rfl (by decide +kernel) (kx_s_gI G kf_0_286 (by decide +kernel) (kx_s_ireturn G RT (by decide +kernel)))), List.forall_mem_cons.mpr ⟨kx_tq (75) 76 (by decide +kernel) (by decide +kernel) (by decide +kernel) rfl (kx_s_aload_n (j := 0) G rfl (by decide +kernel) (kx_s_gI G kf_0_184 (by decide +kernel) (kx_s_ireturn G RT (by decide +kernel)))), List.forall_mem_cons.mpr ⟨kx_tq (80) 81 (by decide +kernel) (by decide +kernel) (by decide +kernel) rfl (kx_s_aload_n (j := 0) G rfl (by decide +kernel) (kx_s_gI G kf_0_244 (by decide +kernel) (kx_s_ireturn G RT (by decide +kernel)))), List.forall_mem_cons.mpr ⟨kx_tq (85) 86 (by decide +kernel) (by decide +kernel) (by decide +kernel) rfl (kx_s_aload_n (j := 0) G rfl (by decide +kernel) (kx_s_Vi (n := 22) G kx_good CS R9 (O9 _) kc_22 rfl kw_454 kw_456 kw_5 (r := kr_0) rfl (by decide) (by decide +kernel) (kx_s_ireturn G RT (by decide +kernel)))), List.forall_mem_nil _⟩⟩⟩⟩⟩⟩⟩⟩) (kx_cov 8 (by decide) (vs := [0, 1, 2, 3, 4, 5, 6, 7]) rfl (by decide +kernel))))
theorem sm_21 (X : kx_X p l e R s m args below meth c s0 D cA 2 ι0 h0 rr hf prog_1_method_25_code "TaskDesk" C d (Option.some Jvm.ClassFile.FieldType.int) "count" J) (b : Nat) : kx_Sn p l e R s m args below meth c s0 D cA 2 ι0 h0 rr hf b (bm_21 d C b J) := by
  unfold bm_21
  cases h0 : Nat.beq b 0 with
  | true => rw [Nat.eq_of_beq_eq_true h0]; exact sk_21_0 X
  | false =>
   exact kx_s_no
/-! TaskDesk.howItStands()I -/
def bk_22_0 (d : Nat) (C : kx_C) (J : Nat → kx_F) : kx_F := (kx_la 0 (kx_gR 0 3 6 (kx_nul (kx_la 0 (kx_gB 0 4 (kx_ifeq (kx_c (kx_i 2) (kx_nm [] (J 21))) (kx_c (kx_i 1) (kx_nm [] (J 21)))))) (kx_c (kx_i 0) kx_ri))))
def bk_22_21 (d : Nat) (C : kx_C) (J : Nat → kx_F) : kx_F := kx_ri
def bm_22 (d : Nat) (C : kx_C) (b : Nat) (J : Nat → kx_F) : kx_F := bif Nat.beq b 0 then bk_22_0 d C J else bif Nat.beq b 21 then bk_22_21 d C J else fun _ _ _ => none
set_option maxRecDepth 20000 in
theorem sk_22_0 (X : kx_X p l e R s m args below meth c s0 D cA 1 ι0 h0 rr hf prog_1_method_34_code "TaskDesk" C d (Option.some Jvm.ClassFile.FieldType.int) "howItStands" J) : kx_Sn p l e R s m args below meth c s0 D cA 1 ι0 h0 rr hf 0 (bk_22_0 d C J) := by
  obtain ⟨G, CS, R9, O9, RT, NM, T0, FL, JS⟩ := X
  exact (kx_s_aload_n (j := 0) G rfl (by decide +kernel) (kx_s_gR G kf_0_86 (by decide +kernel) (kx_s_ifnull (off := 5) (tgt := 9) G (by decide +kernel) rfl (kx_s_aload_n (j := 0) G rfl (by decide +kernel) (kx_s_gB G kf_0_399 (by decide +kernel) (kx_s_ifeq (off := 7) (tgt := 20) G (by decide +kernel) rfl (kx_s_iconst (i := 2) G (by decide +kernel) (by decide +kernel) (kx_s_nm (JS 21))) (kx_s_iconst (i := 1) G (by decide +kernel) (by decide +kernel) (kx_s_goto (off := 4) (tgt := 21) G (by decide +kernel) rfl (kx_s_nm (JS 21))))))) (kx_s_iconst (i := 0) G (by decide +kernel) (by decide +kernel) (kx_s_ireturn G RT (by decide +kernel))))))
set_option maxRecDepth 20000 in
theorem sk_22_21 (X : kx_X p l e R s m args below meth c s0 D cA 1 ι0 h0 rr hf prog_1_method_34_code "TaskDesk" C d (Option.some Jvm.ClassFile.FieldType.int) "howItStands" J) : kx_Sn p l e R s m args below meth c s0 D cA 1 ι0 h0 rr hf 21 (bk_22_21 d C J) := by
  obtain ⟨G, CS, R9, O9, RT, NM, T0, FL, JS⟩ := X
  exact (kx_s_ireturn G RT (by decide +kernel))
theorem sm_22 (X : kx_X p l e R s m args below meth c s0 D cA 1 ι0 h0 rr hf prog_1_method_34_code "TaskDesk" C d (Option.some Jvm.ClassFile.FieldType.int) "howItStands" J) (b : Nat) : kx_Sn p l e R s m args below meth c s0 D cA 1 ι0 h0 rr hf b (bm_22 d C b J) := by
  unfold bm_22
  cases h0 : Nat.beq b 0 with
  | true => rw [Nat.eq_of_beq_eq_true h0]; exact sk_22_0 X
  | false =>
   cases h21 : Nat.beq b 21 with
   | true => rw [Nat.eq_of_beq_eq_true h21]; exact sk_22_21 X
   | false =>
    exact kx_s_no
/-! TaskDesk.spawn()I -/
def bk_23_0 (d : Nat) (C : kx_C) (J : Nat → kx_F) : kx_F := (kx_la 0 (kx_Vr C 24 0 [] 6 (kx_pop (kx_la 0 (kx_Vr C 25 0 [] 6 (kx_sa 1 (kx_la 1 (kx_nnul (kx_la 1 (kx_Vv C 11 6 [] (kx_la 0 (kx_dup (kx_gI 0 1 (kx_c (kx_i 1) (kx_ii (fun x y => x + y) (kx_pI 0 1 (kx_la 0 (kx_la 1 (kx_Vv C 26 0 [8] (kx_la 1 (kx_gI 6 0 kx_ri))))))))))))) (kx_thd kx_cc kx_cs d 0)))))))))
def bm_23 (d : Nat) (C : kx_C) (b : Nat) (J : Nat → kx_F) : kx_F := bif Nat.beq b 0 then bk_23_0 d C J else fun _ _ _ => none
set_option maxRecDepth 20000 in
theorem sk_23_0 (X : kx_X p l e R s m args below meth c s0 D cA 2 ι0 h0 rr hf prog_1_method_2_code "TaskDesk" C d (Option.some Jvm.ClassFile.FieldType.int) "spawn" J) : kx_Sn p l e R s m args below meth c s0 D cA 2 ι0 h0 rr hf 0 (bk_23_0 d C J) := by
  obtain ⟨G, CS, R9, O9, RT, NM, T0, FL, JS⟩ := X
  exact (kx_s_aload_n (j := 0) G rfl (by decide +kernel) (kx_s_Vr (n := 24) G kx_good CS R9 (O9 _) kc_24 rfl kw_466 kw_468 kw_6 (r := kr_0) rfl (by decide) (by decide +kernel) (kx_s_pop G (by decide +kernel) (kx_s_aload_n (j := 0) G rfl (by decide +kernel) (kx_s_Vr (n := 25) G kx_good CS R9 (O9 _) kc_25 rfl kw_539 kw_541 kw_8 (r := kr_0) rfl (by decide) (by decide +kernel) (kx_s_astore_n (j := 1) G rfl (by decide +kernel) (by decide) (kx_s_aload_n (j := 1) G rfl (by decide +kernel) (kx_s_ifnonnull (off := 13) (tgt := 24) G (by decide +kernel) rfl (kx_s_aload_n (j := 1) G rfl (by decide +kernel) (kx_s_Vv (n := 11) G kx_good CS R9 (O9 _) kc_11 rfl kw_355 kw_356 kw_357 (r := kr_6) rfl (by decide) (by decide +kernel) (kx_s_aload_n (j := 0) G rfl (by decide +kernel) (kx_s_dup G (by decide +kernel) (kx_s_gI G kf_0_83 (by decide +kernel) (kx_s_iconst (i := 1) G (by decide +kernel) (by decide +kernel) (kx_s_iadd G (by decide +kernel) (kx_s_pI G kf_0_83 rfl (by decide +kernel) (by decide +kernel) (kx_s_aload_n (j := 0) G rfl (by decide +kernel) (kx_s_aload_n (j := 1) G rfl (by decide +kernel) (kx_s_Vv (n := 26) G kx_good CS R9 (O9 _) kc_26 rfl kw_544 kw_546 kw_9 (r := kr_0) rfl (by decide) (by decide +kernel) (kx_s_aload_n (j := 1) G rfl (by decide +kernel) (kx_s_gI G kf_0_107 (by decide +kernel) (kx_s_ireturn G RT (by decide +kernel))))))))))))))) (kx_s_thd (ic := 100) (ex := 0) (i9 := 96) (i8 := 98) (w := 2) G T0 FL R9 (by decide +kernel) (by decide +kernel) kw_470 kw_471 kw_93 kw_543 (by decide +kernel) (by decide +kernel) (Or.inl ⟨rfl, by decide +kernel⟩) (by decide +kernel) (by decide +kernel) O9)))))))))
theorem sm_23 (X : kx_X p l e R s m args below meth c s0 D cA 2 ι0 h0 rr hf prog_1_method_2_code "TaskDesk" C d (Option.some Jvm.ClassFile.FieldType.int) "spawn" J) (b : Nat) : kx_Sn p l e R s m args below meth c s0 D cA 2 ι0 h0 rr hf b (bm_23 d C b J) := by
  unfold bm_23
  cases h0 : Nat.beq b 0 with
  | true => rw [Nat.eq_of_beq_eq_true h0]; exact sk_23_0 X
  | false =>
   exact kx_s_no
/-! TaskDesk.mustBeCurrent()LTaskDesk$Task; -/
def bk_24_0 (d : Nat) (C : kx_C) (J : Nat → kx_F) : kx_F := (kx_la 0 (kx_gR 0 3 6 (kx_nnul (kx_la 0 (kx_gR 0 3 6 kx_rr)) (kx_thd kx_cc kx_cs d 0))))
def bm_24 (d : Nat) (C : kx_C) (b : Nat) (J : Nat → kx_F) : kx_F := bif Nat.beq b 0 then bk_24_0 d C J else fun _ _ _ => none
set_option maxRecDepth 20000 in
theorem sk_24_0 (X : kx_X p l e R s m args below meth c s0 D cA 1 ι0 h0 rr hf prog_1_method_26_code "TaskDesk" C d (Option.some (Jvm.ClassFile.FieldType.object "TaskDesk$Task")) "mustBeCurrent" J) : kx_Sn p l e R s m args below meth c s0 D cA 1 ι0 h0 rr hf 0 (bk_24_0 d C J) := by
  obtain ⟨G, CS, R9, O9, RT, NM, T0, FL, JS⟩ := X
  exact (kx_s_aload_n (j := 0) G rfl (by decide +kernel) (kx_s_gR G kf_0_86 (by decide +kernel) (kx_s_ifnonnull (off := 14) (tgt := 18) G (by decide +kernel) rfl (kx_s_aload_n (j := 0) G rfl (by decide +kernel) (kx_s_gR G kf_0_86 (by decide +kernel) (kx_s_areturn G RT (by decide +kernel)))) (kx_s_thd (ic := 100) (ex := 0) (i9 := 96) (i8 := 395) (w := 3) G T0 FL R9 (by decide +kernel) (by decide +kernel) kw_470 kw_471 kw_93 kw_512 (by decide +kernel) (by decide +kernel) (Or.inr ⟨rfl, by decide +kernel⟩) (by decide +kernel) (by decide +kernel) O9))))
theorem sm_24 (X : kx_X p l e R s m args below meth c s0 D cA 1 ι0 h0 rr hf prog_1_method_26_code "TaskDesk" C d (Option.some (Jvm.ClassFile.FieldType.object "TaskDesk$Task")) "mustBeCurrent" J) (b : Nat) : kx_Sn p l e R s m args below meth c s0 D cA 1 ι0 h0 rr hf b (bm_24 d C b J) := by
  unfold bm_24
  cases h0 : Nat.beq b 0 with
  | true => rw [Nat.eq_of_beq_eq_true h0]; exact sk_24_0 X
  | false =>
   exact kx_s_no
/-! TaskDesk.firstFreeTask()LTaskDesk$Task; -/
def bk_25_0 (d : Nat) (C : kx_C) (J : Nat → kx_F) : kx_F := (kx_c (kx_i 0) (kx_si 1 (kx_nm [0, 1] (J 2))))
def bk_25_2 (d : Nat) (C : kx_C) (J : Nat → kx_F) : kx_F := (kx_li 1 (kx_c (kx_i 256) (kx_cge (kx_c (kx_r 6 none) kx_rr) (kx_la 0 (kx_gR 0 0 102 (kx_li 1 (kx_aR 102 6 (kx_gB 6 2 (kx_ifne (kx_inc 1 1 (kx_nm [0, 1] (J 2))) (kx_la 0 (kx_gR 0 0 102 (kx_li 1 (kx_aR 102 6 kx_rr)))))))))))))
def bm_25 (d : Nat) (C : kx_C) (b : Nat) (J : Nat → kx_F) : kx_F := bif Nat.beq b 0 then bk_25_0 d C J else bif Nat.beq b 2 then bk_25_2 d C J else fun _ _ _ => none
set_option maxRecDepth 20000 in
theorem sk_25_0 (X : kx_X p l e R s m args below meth c s0 D cA 2 ι0 h0 rr hf prog_1_method_32_code "TaskDesk" C d (Option.some (Jvm.ClassFile.FieldType.object "TaskDesk$Task")) "firstFreeTask" J) : kx_Sn p l e R s m args below meth c s0 D cA 2 ι0 h0 rr hf 0 (bk_25_0 d C J) := by
  obtain ⟨G, CS, R9, O9, RT, NM, T0, FL, JS⟩ := X
  exact (kx_s_iconst (i := 0) G (by decide +kernel) (by decide +kernel) (kx_s_istore_n (j := 1) G rfl (by decide +kernel) (by decide) (kx_s_nm (JS 2))))
set_option maxRecDepth 20000 in
theorem sk_25_2 (X : kx_X p l e R s m args below meth c s0 D cA 2 ι0 h0 rr hf prog_1_method_32_code "TaskDesk" C d (Option.some (Jvm.ClassFile.FieldType.object "TaskDesk$Task")) "firstFreeTask" J) : kx_Sn p l e R s m args below meth c s0 D cA 2 ι0 h0 rr hf 2 (bk_25_2 d C J) := by
  obtain ⟨G, CS, R9, O9, RT, NM, T0, FL, JS⟩ := X
  exact (kx_s_iload_n (j := 1) G rfl (by decide +kernel) (kx_s_sipush (i := 256) G (by decide +kernel) (by decide +kernel) (kx_s_cge (off := 28) (tgt := 34) G (by decide +kernel) rfl (kx_s_null G (by decide +kernel) (kx_s_areturn G RT (by decide +kernel))) (kx_s_aload_n (j := 0) G rfl (by decide +kernel) (kx_s_gR G kf_0_11 (by decide +kernel) (kx_s_iload_n (j := 1) G rfl (by decide +kernel) (kx_s_aR G rfl ka_102 (by decide +kernel) (kx_s_gB G kf_0_120 (by decide +kernel) (kx_s_ifne (off := 10) (tgt := 28) G (by decide +kernel) rfl (kx_s_iinc (n := 1) G (by decide +kernel) (by decide +kernel) (by decide) (kx_s_goto (off := -29) (tgt := 2) G (by decide +kernel) rfl (kx_s_nm (JS 2)))) (kx_s_aload_n (j := 0) G rfl (by decide +kernel) (kx_s_gR G kf_0_11 (by decide +kernel) (kx_s_iload_n (j := 1) G rfl (by decide +kernel) (kx_s_aR G rfl ka_102 (by decide +kernel) (kx_s_areturn G RT (by decide +kernel)))))))))))))))
theorem sm_25 (X : kx_X p l e R s m args below meth c s0 D cA 2 ι0 h0 rr hf prog_1_method_32_code "TaskDesk" C d (Option.some (Jvm.ClassFile.FieldType.object "TaskDesk$Task")) "firstFreeTask" J) (b : Nat) : kx_Sn p l e R s m args below meth c s0 D cA 2 ι0 h0 rr hf b (bm_25 d C b J) := by
  unfold bm_25
  cases h0 : Nat.beq b 0 with
  | true => rw [Nat.eq_of_beq_eq_true h0]; exact sk_25_0 X
  | false =>
   cases h2 : Nat.beq b 2 with
   | true => rw [Nat.eq_of_beq_eq_true h2]; exact sk_25_2 X
   | false =>
    exact kx_s_no
/-! TaskDesk.makeReady(LTaskDesk$Task;)V -/
def bk_26_0 (d : Nat) (C : kx_C) (J : Nat → kx_F) : kx_F := (kx_la 1 (kx_la 0 (kx_gR 0 2 5 (kx_c (kx_i 1) (kx_c (kx_i (-1)) (kx_Vv C 27 6 [7, 0, 0] kx_rv))))))
def bm_26 (d : Nat) (C : kx_C) (b : Nat) (J : Nat → kx_F) : kx_F := bif Nat.beq b 0 then bk_26_0 d C J else fun _ _ _ => none
set_option maxRecDepth 20000 in
theorem sk_26_0 (X : kx_X p l e R s m args below meth c s0 D cA 2 ι0 h0 rr hf prog_1_method_35_code "TaskDesk" C d (Option.none : Option Jvm.ClassFile.FieldType) "makeReady" J) : kx_Sn p l e R s m args below meth c s0 D cA 2 ι0 h0 rr hf 0 (bk_26_0 d C J) := by
  obtain ⟨G, CS, R9, O9, RT, NM, T0, FL, JS⟩ := X
  exact (kx_s_aload_n (j := 1) G rfl (by decide +kernel) (kx_s_aload_n (j := 0) G rfl (by decide +kernel) (kx_s_gR G kf_0_18 (by decide +kernel) (kx_s_iconst (i := 1) G (by decide +kernel) (by decide +kernel) (kx_s_iconst (i := -1) G (by decide +kernel) (by decide +kernel) (kx_s_Vv (n := 27) G kx_good CS R9 (O9 _) kc_27 rfl kw_548 kw_549 kw_550 (r := kr_6) rfl (by decide) (by decide +kernel) (kx_s_return G RT (by decide +kernel))))))))
theorem sm_26 (X : kx_X p l e R s m args below meth c s0 D cA 2 ι0 h0 rr hf prog_1_method_35_code "TaskDesk" C d (Option.none : Option Jvm.ClassFile.FieldType) "makeReady" J) (b : Nat) : kx_Sn p l e R s m args below meth c s0 D cA 2 ι0 h0 rr hf b (bm_26 d C b J) := by
  unfold bm_26
  cases h0 : Nat.beq b 0 with
  | true => rw [Nat.eq_of_beq_eq_true h0]; exact sk_26_0 X
  | false =>
   exact kx_s_no
/-! TaskDesk.giveWay()I -/
def bk_29_0 (d : Nat) (C : kx_C) (J : Nat → kx_F) : kx_F := (kx_la 0 (kx_la 0 (kx_Vr C 24 0 [] 6 (kx_Vv C 26 0 [8] (kx_la 0 (kx_Vv C 30 0 [] (kx_la 0 (kx_Vi C 19 0 [] kx_ri))))))))
def bm_29 (d : Nat) (C : kx_C) (b : Nat) (J : Nat → kx_F) : kx_F := bif Nat.beq b 0 then bk_29_0 d C J else fun _ _ _ => none
set_option maxRecDepth 20000 in
theorem sk_29_0 (X : kx_X p l e R s m args below meth c s0 D cA 1 ι0 h0 rr hf prog_1_method_3_code "TaskDesk" C d (Option.some Jvm.ClassFile.FieldType.int) "giveWay" J) : kx_Sn p l e R s m args below meth c s0 D cA 1 ι0 h0 rr hf 0 (bk_29_0 d C J) := by
  obtain ⟨G, CS, R9, O9, RT, NM, T0, FL, JS⟩ := X
  exact (kx_s_aload_n (j := 0) G rfl (by decide +kernel) (kx_s_aload_n (j := 0) G rfl (by decide +kernel) (kx_s_Vr (n := 24) G kx_good CS R9 (O9 _) kc_24 rfl kw_466 kw_468 kw_6 (r := kr_0) rfl (by decide) (by decide +kernel) (kx_s_Vv (n := 26) G kx_good CS R9 (O9 _) kc_26 rfl kw_544 kw_546 kw_9 (r := kr_0) rfl (by decide) (by decide +kernel) (kx_s_aload_n (j := 0) G rfl (by decide +kernel) (kx_s_Vv (n := 30) G kx_good CS R9 (O9 _) kc_30 rfl kw_563 kw_565 kw_10 (r := kr_0) rfl (by decide) (by decide +kernel) (kx_s_aload_n (j := 0) G rfl (by decide +kernel) (kx_s_Vi (n := 19) G kx_good CS R9 (O9 _) kc_19 rfl kw_604 kw_443 kw_444 (r := kr_0) rfl (by decide) (by decide +kernel) (kx_s_ireturn G RT (by decide +kernel))))))))))
theorem sm_29 (X : kx_X p l e R s m args below meth c s0 D cA 1 ι0 h0 rr hf prog_1_method_3_code "TaskDesk" C d (Option.some Jvm.ClassFile.FieldType.int) "giveWay" J) (b : Nat) : kx_Sn p l e R s m args below meth c s0 D cA 1 ι0 h0 rr hf b (bm_29 d C b J) := by
  unfold bm_29
  cases h0 : Nat.beq b 0 with
  | true => rw [Nat.eq_of_beq_eq_true h0]; exact sk_29_0 X
  | false =>
   exact kx_s_no
/-! TaskDesk.goOn()V -/
def bk_30_0 (d : Nat) (C : kx_C) (J : Nat → kx_F) : kx_F := (kx_la 0 (kx_c (kx_r 6 none) (kx_pR 0 3 6 (kx_la 0 (kx_gR 0 2 5 (kx_gR 5 0 4 (kx_nnul (kx_c (kx_i 0) (kx_nm [0] (J 20))) (kx_c (kx_i 1) (kx_nm [0] (J 20))))))))))
def bk_30_20 (d : Nat) (C : kx_C) (J : Nat → kx_F) : kx_F := (kx_si 1 (kx_c (kx_i 512) (kx_si 2 (kx_nm [0, 1, 2] (J 25)))))
def bk_30_25 (d : Nat) (C : kx_C) (J : Nat → kx_F) : kx_F := (kx_li 1 (kx_ifeq (kx_nm [0] (J 108)) (kx_li 2 (kx_ifle (kx_nm [0] (J 108)) (kx_la 0 (kx_gR 0 6 1 (kx_Vr C 31 1 [] 7 (kx_sa 3 (kx_la 3 (kx_nul (kx_nm [0, 2] (J 58)) (kx_la 0 (kx_la 3 (kx_gL 7 0 (kx_pL 0 5 (kx_la 0 (kx_la 3 (kx_Vv C 32 0 [9] (kx_nm [0, 2] (J 58)))))))))))))))))))
def bk_30_58 (d : Nat) (C : kx_C) (J : Nat → kx_F) : kx_F := (kx_la 0 (kx_gR 0 6 1 (kx_gR 1 0 7 (kx_nul (kx_nm [0, 2] (J 100)) (kx_la 0 (kx_gR 0 2 5 (kx_gR 5 0 4 (kx_nul (kx_nm [0, 2] (J 96)) (kx_la 0 (kx_gR 0 6 1 (kx_gR 1 0 7 (kx_gL 7 0 (kx_la 0 (kx_gL 0 5 (kx_lcmp (kx_ifne (kx_nm [0, 2] (J 100)) (kx_nm [0, 2] (J 96))))))))))))))))))
def bk_30_96 (d : Nat) (C : kx_C) (J : Nat → kx_F) : kx_F := (kx_c (kx_i 1) (kx_nm [0, 2] (J 101)))
def bk_30_100 (d : Nat) (C : kx_C) (J : Nat → kx_F) : kx_F := (kx_c (kx_i 0) (kx_nm [0, 2] (J 101)))
def bk_30_101 (d : Nat) (C : kx_C) (J : Nat → kx_F) : kx_F := (kx_si 1 (kx_inc 2 (-1) (kx_nm [0, 1, 2] (J 25))))
def bk_30_108 (d : Nat) (C : kx_C) (J : Nat → kx_F) : kx_F := (kx_la 0 (kx_gR 0 2 5 (kx_gR 5 0 4 (kx_sa 2 (kx_la 2 (kx_nul (kx_nm [0] (J 132)) (kx_la 2 (kx_Vv C 37 4 [] (kx_la 0 (kx_la 2 (kx_gR 4 0 6 (kx_pR 0 3 6 (kx_nm [0] (J 132))))))))))))))
def bk_30_132 (d : Nat) (C : kx_C) (J : Nat → kx_F) : kx_F := (kx_la 0 (kx_gR 0 3 6 (kx_nul (kx_nm [] (J 147)) (kx_la 0 (kx_gR 0 3 6 (kx_c (kx_i 0) (kx_pI 6 3 (kx_nm [] (J 147)))))))))
def bk_30_147 (d : Nat) (C : kx_C) (J : Nat → kx_F) : kx_F := kx_rv
def bm_30 (d : Nat) (C : kx_C) (b : Nat) (J : Nat → kx_F) : kx_F := bif Nat.beq b 0 then bk_30_0 d C J else bif Nat.beq b 20 then bk_30_20 d C J else bif Nat.beq b 25 then bk_30_25 d C J else bif Nat.beq b 58 then bk_30_58 d C J else bif Nat.beq b 96 then bk_30_96 d C J else bif Nat.beq b 100 then bk_30_100 d C J else bif Nat.beq b 101 then bk_30_101 d C J else bif Nat.beq b 108 then bk_30_108 d C J else bif Nat.beq b 132 then bk_30_132 d C J else bif Nat.beq b 147 then bk_30_147 d C J else fun _ _ _ => none
set_option maxRecDepth 20000 in
theorem sk_30_0 (X : kx_X p l e R s m args below meth c s0 D cA 4 ι0 h0 rr hf prog_1_method_37_code "TaskDesk" C d (Option.none : Option Jvm.ClassFile.FieldType) "goOn" J) : kx_Sn p l e R s m args below meth c s0 D cA 4 ι0 h0 rr hf 0 (bk_30_0 d C J) := by
  obtain ⟨G, CS, R9, O9, RT, NM, T0, FL, JS⟩ := X
  exact (kx_s_aload_n (j := 0) G rfl (by decide +kernel) (kx_s_null G (by decide +kernel) (kx_s_pR (ty := .object "TaskDesk$Task") G kf_0_86 rfl (by decide +kernel) rfl (by decide +kernel) (kx_s_aload_n (j := 0) G rfl (by decide +kernel) (kx_s_gR G kf_0_18 (by decide +kernel) (kx_s_gR G kf_0_317 (by decide +kernel) (kx_s_ifnonnull (off := 7) (tgt := 19) G (by decide +kernel) rfl (kx_s_iconst (i := 0) G (by decide +kernel) (by decide +kernel) (kx_s_nm (JS 20))) (kx_s_iconst (i := 1) G (by decide +kernel) (by decide +kernel) (kx_s_goto (off := 4) (tgt := 20) G (by decide +kernel) rfl (kx_s_nm (JS 20)))))))))))
set_option maxRecDepth 20000 in
theorem sk_30_20 (X : kx_X p l e R s m args below meth c s0 D cA 4 ι0 h0 rr hf prog_1_method_37_code "TaskDesk" C d (Option.none : Option Jvm.ClassFile.FieldType) "goOn" J) : kx_Sn p l e R s m args below meth c s0 D cA 4 ι0 h0 rr hf 20 (bk_30_20 d C J) := by
  obtain ⟨G, CS, R9, O9, RT, NM, T0, FL, JS⟩ := X
  exact (kx_s_istore_n (j := 1) G rfl (by decide +kernel) (by decide) (kx_s_sipush (i := 512) G (by decide +kernel) (by decide +kernel) (kx_s_istore_n (j := 2) G rfl (by decide +kernel) (by decide) (kx_s_nm (JS 25)))))
set_option maxRecDepth 20000 in
theorem sk_30_25 (X : kx_X p l e R s m args below meth c s0 D cA 4 ι0 h0 rr hf prog_1_method_37_code "TaskDesk" C d (Option.none : Option Jvm.ClassFile.FieldType) "goOn" J) : kx_Sn p l e R s m args below meth c s0 D cA 4 ι0 h0 rr hf 25 (bk_30_25 d C J) := by
  obtain ⟨G, CS, R9, O9, RT, NM, T0, FL, JS⟩ := X
  exact (kx_s_iload_n (j := 1) G rfl (by decide +kernel) (kx_s_ifeq (off := 82) (tgt := 108) G (by decide +kernel) rfl (kx_s_nm (JS 108)) (kx_s_iload_n (j := 2) G rfl (by decide +kernel) (kx_s_ifle (off := 78) (tgt := 108) G (by decide +kernel) rfl (kx_s_nm (JS 108)) (kx_s_aload_n (j := 0) G rfl (by decide +kernel) (kx_s_gR G kf_0_25 (by decide +kernel) (kx_s_Vr (n := 31) G kx_good CS R9 (O9 _) kc_31 rfl kw_567 kw_568 kw_569 (r := kr_1) rfl (by decide) (by decide +kernel) (kx_s_astore_n (j := 3) G rfl (by decide +kernel) (by decide) (kx_s_aload_n (j := 3) G rfl (by decide +kernel) (kx_s_ifnull (off := 16) (tgt := 58) G (by decide +kernel) rfl (kx_s_nm (JS 58)) (kx_s_aload_n (j := 0) G rfl (by decide +kernel) (kx_s_aload_n (j := 3) G rfl (by decide +kernel) (kx_s_gL G kf_0_409 (by decide +kernel) (kx_s_pL G kf_0_131 rfl (by decide +kernel) (by decide +kernel) (kx_s_aload_n (j := 0) G rfl (by decide +kernel) (kx_s_aload_n (j := 3) G rfl (by decide +kernel) (kx_s_Vv (n := 32) G kx_good CS R9 (O9 _) kc_32 rfl kw_571 kw_573 kw_11 (r := kr_0) rfl (by decide) (by decide +kernel) (kx_s_nm (JS 58)))))))))))))))))))
set_option maxRecDepth 20000 in
theorem sk_30_58 (X : kx_X p l e R s m args below meth c s0 D cA 4 ι0 h0 rr hf prog_1_method_37_code "TaskDesk" C d (Option.none : Option Jvm.ClassFile.FieldType) "goOn" J) : kx_Sn p l e R s m args below meth c s0 D cA 4 ι0 h0 rr hf 58 (bk_30_58 d C J) := by
  obtain ⟨G, CS, R9, O9, RT, NM, T0, FL, JS⟩ := X
  exact (kx_s_aload_n (j := 0) G rfl (by decide +kernel) (kx_s_gR G kf_0_25 (by decide +kernel) (kx_s_gR G kf_0_418 (by decide +kernel) (kx_s_ifnull (off := 35) (tgt := 100) G (by decide +kernel) rfl (kx_s_nm (JS 100)) (kx_s_aload_n (j := 0) G rfl (by decide +kernel) (kx_s_gR G kf_0_18 (by decide +kernel) (kx_s_gR G kf_0_317 (by decide +kernel) (kx_s_ifnull (off := 21) (tgt := 96) G (by decide +kernel) rfl (kx_s_nm (JS 96)) (kx_s_aload_n (j := 0) G rfl (by decide +kernel) (kx_s_gR G kf_0_25 (by decide +kernel) (kx_s_gR G kf_0_418 (by decide +kernel) (kx_s_gL G kf_0_409 (by decide +kernel) (kx_s_aload_n (j := 0) G rfl (by decide +kernel) (kx_s_gL G kf_0_131 (by decide +kernel) (kx_s_lcmp G (by decide +kernel) (kx_s_ifne (off := 7) (tgt := 100) G (by decide +kernel) rfl (kx_s_nm (JS 100)) (kx_s_nm (JS 96))))))))))))))))))
set_option maxRecDepth 20000 in
theorem sk_30_96 (X : kx_X p l e R s m args below meth c s0 D cA 4 ι0 h0 rr hf prog_1_method_37_code "TaskDesk" C d (Option.none : Option Jvm.ClassFile.FieldType) "goOn" J) : kx_Sn p l e R s m args below meth c s0 D cA 4 ι0 h0 rr hf 96 (bk_30_96 d C J) := by
  obtain ⟨G, CS, R9, O9, RT, NM, T0, FL, JS⟩ := X
  exact (kx_s_iconst (i := 1) G (by decide +kernel) (by decide +kernel) (kx_s_goto (off := 4) (tgt := 101) G (by decide +kernel) rfl (kx_s_nm (JS 101))))
set_option maxRecDepth 20000 in
theorem sk_30_100 (X : kx_X p l e R s m args below meth c s0 D cA 4 ι0 h0 rr hf prog_1_method_37_code "TaskDesk" C d (Option.none : Option Jvm.ClassFile.FieldType) "goOn" J) : kx_Sn p l e R s m args below meth c s0 D cA 4 ι0 h0 rr hf 100 (bk_30_100 d C J) := by
  obtain ⟨G, CS, R9, O9, RT, NM, T0, FL, JS⟩ := X
  exact (kx_s_iconst (i := 0) G (by decide +kernel) (by decide +kernel) (kx_s_nm (JS 101)))
set_option maxRecDepth 20000 in
theorem sk_30_101 (X : kx_X p l e R s m args below meth c s0 D cA 4 ι0 h0 rr hf prog_1_method_37_code "TaskDesk" C d (Option.none : Option Jvm.ClassFile.FieldType) "goOn" J) : kx_Sn p l e R s m args below meth c s0 D cA 4 ι0 h0 rr hf 101 (bk_30_101 d C J) := by
  obtain ⟨G, CS, R9, O9, RT, NM, T0, FL, JS⟩ := X
  exact (kx_s_istore_n (j := 1) G rfl (by decide +kernel) (by decide) (kx_s_iinc (n := -1) G (by decide +kernel) (by decide +kernel) (by decide) (kx_s_goto (off := -80) (tgt := 25) G (by decide +kernel) rfl (kx_s_nm (JS 25)))))
set_option maxRecDepth 20000 in
theorem sk_30_108 (X : kx_X p l e R s m args below meth c s0 D cA 4 ι0 h0 rr hf prog_1_method_37_code "TaskDesk" C d (Option.none : Option Jvm.ClassFile.FieldType) "goOn" J) : kx_Sn p l e R s m args below meth c s0 D cA 4 ι0 h0 rr hf 108 (bk_30_108 d C J) := by
  obtain ⟨G, CS, R9, O9, RT, NM, T0, FL, JS⟩ := X
  exact (kx_s_aload_n (j := 0) G rfl (by decide +kernel) (kx_s_gR G kf_0_18 (by decide +kernel) (kx_s_gR G kf_0_317 (by decide +kernel) (kx_s_astore_n (j := 2) G rfl (by decide +kernel) (by decide) (kx_s_aload_n (j := 2) G rfl (by decide +kernel) (kx_s_ifnull (off := 15) (tgt := 132) G (by decide +kernel) rfl (kx_s_nm (JS 132)) (kx_s_aload_n (j := 2) G rfl (by decide +kernel) (kx_s_Vv (n := 37) G kx_good CS R9 (O9 _) kc_37 rfl kw_592 kw_593 kw_594 (r := kr_4) rfl (by decide) (by decide +kernel) (kx_s_aload_n (j := 0) G rfl (by decide +kernel) (kx_s_aload_n (j := 2) G rfl (by decide +kernel) (kx_s_gR G kf_0_60 (by decide +kernel) (kx_s_pR (ty := .object "TaskDesk$Task") G kf_0_86 rfl (by decide +kernel) rfl (by decide +kernel) (kx_s_nm (JS 132))))))))))))))
set_option maxRecDepth 20000 in
theorem sk_30_132 (X : kx_X p l e R s m args below meth c s0 D cA 4 ι0 h0 rr hf prog_1_method_37_code "TaskDesk" C d (Option.none : Option Jvm.ClassFile.FieldType) "goOn" J) : kx_Sn p l e R s m args below meth c s0 D cA 4 ι0 h0 rr hf 132 (bk_30_132 d C J) := by
  obtain ⟨G, CS, R9, O9, RT, NM, T0, FL, JS⟩ := X
  exact (kx_s_aload_n (j := 0) G rfl (by decide +kernel) (kx_s_gR G kf_0_86 (by decide +kernel) (kx_s_ifnull (off := 11) (tgt := 147) G (by decide +kernel) rfl (kx_s_nm (JS 147)) (kx_s_aload_n (j := 0) G rfl (by decide +kernel) (kx_s_gR G kf_0_86 (by decide +kernel) (kx_s_iconst (i := 0) G (by decide +kernel) (by decide +kernel) (kx_s_pI G kf_0_79 rfl (by decide +kernel) (by decide +kernel) (kx_s_nm (JS 147)))))))))
set_option maxRecDepth 20000 in
theorem sk_30_147 (X : kx_X p l e R s m args below meth c s0 D cA 4 ι0 h0 rr hf prog_1_method_37_code "TaskDesk" C d (Option.none : Option Jvm.ClassFile.FieldType) "goOn" J) : kx_Sn p l e R s m args below meth c s0 D cA 4 ι0 h0 rr hf 147 (bk_30_147 d C J) := by
  obtain ⟨G, CS, R9, O9, RT, NM, T0, FL, JS⟩ := X
  exact (kx_s_return G RT (by decide +kernel))
theorem sm_30 (X : kx_X p l e R s m args below meth c s0 D cA 4 ι0 h0 rr hf prog_1_method_37_code "TaskDesk" C d (Option.none : Option Jvm.ClassFile.FieldType) "goOn" J) (b : Nat) : kx_Sn p l e R s m args below meth c s0 D cA 4 ι0 h0 rr hf b (bm_30 d C b J) := by
  unfold bm_30
  cases h0 : Nat.beq b 0 with
  | true => rw [Nat.eq_of_beq_eq_true h0]; exact sk_30_0 X
  | false =>
   cases h20 : Nat.beq b 20 with
   | true => rw [Nat.eq_of_beq_eq_true h20]; exact sk_30_20 X
   | false =>
    cases h25 : Nat.beq b 25 with
    | true => rw [Nat.eq_of_beq_eq_true h25]; exact sk_30_25 X
    | false =>
     cases h58 : Nat.beq b 58 with
     | true => rw [Nat.eq_of_beq_eq_true h58]; exact sk_30_58 X
     | false =>
      cases h96 : Nat.beq b 96 with
      | true => rw [Nat.eq_of_beq_eq_true h96]; exact sk_30_96 X
      | false =>
       cases h100 : Nat.beq b 100 with
       | true => rw [Nat.eq_of_beq_eq_true h100]; exact sk_30_100 X
       | false =>
        cases h101 : Nat.beq b 101 with
        | true => rw [Nat.eq_of_beq_eq_true h101]; exact sk_30_101 X
        | false =>
         cases h108 : Nat.beq b 108 with
         | true => rw [Nat.eq_of_beq_eq_true h108]; exact sk_30_108 X
         | false =>
          cases h132 : Nat.beq b 132 with
          | true => rw [Nat.eq_of_beq_eq_true h132]; exact sk_30_132 X
          | false =>
           cases h147 : Nat.beq b 147 with
           | true => rw [Nat.eq_of_beq_eq_true h147]; exact sk_30_147 X
           | false =>
            exact kx_s_no
/-! TaskDesk.ring(LTaskDesk$Timer;)V -/
def bk_32_0 (d : Nat) (C : kx_C) (J : Nat → kx_F) : kx_F := (kx_la 1 (kx_gR 7 1 6 (kx_nul (kx_nm [0, 1] (J 15)) (kx_la 0 (kx_la 1 (kx_gR 7 1 6 (kx_Vv C 26 0 [8] (kx_nm [0, 1] (J 15)))))))))
def bk_32_15 (d : Nat) (C : kx_C) (J : Nat → kx_F) : kx_F := (kx_la 1 (kx_gR 7 2 2 (kx_sa 2 (kx_la 2 (kx_nul (kx_nm [] (J 61)) (kx_la 2 (kx_dup (kx_gI 2 7 (kx_c (kx_i 1) (kx_ii (fun x y => x - y) (kx_pI 2 7 (kx_la 0 (kx_dup (kx_gI 0 7 (kx_c (kx_i 1) (kx_ii (fun x y => x - y) (kx_pI 0 7 (kx_la 0 (kx_la 2 (kx_Vi C 33 0 [4] (kx_ifeq (kx_nm [] (J 61)) (kx_la 0 (kx_la 2 (kx_la 0 (kx_gL 0 5 (kx_Vv C 34 0 [4, 1] (kx_nm [] (J 61))))))))))))))))))))))))))))
def bk_32_61 (d : Nat) (C : kx_C) (J : Nat → kx_F) : kx_F := kx_rv
def bm_32 (d : Nat) (C : kx_C) (b : Nat) (J : Nat → kx_F) : kx_F := bif Nat.beq b 0 then bk_32_0 d C J else bif Nat.beq b 15 then bk_32_15 d C J else bif Nat.beq b 61 then bk_32_61 d C J else fun _ _ _ => none
set_option maxRecDepth 20000 in
theorem sk_32_0 (X : kx_X p l e R s m args below meth c s0 D cA 3 ι0 h0 rr hf prog_1_method_38_code "TaskDesk" C d (Option.none : Option Jvm.ClassFile.FieldType) "ring" J) : kx_Sn p l e R s m args below meth c s0 D cA 3 ι0 h0 rr hf 0 (bk_32_0 d C J) := by
  obtain ⟨G, CS, R9, O9, RT, NM, T0, FL, JS⟩ := X
  exact (kx_s_aload_n (j := 1) G rfl (by decide +kernel) (kx_s_gR G kf_0_424 (by decide +kernel) (kx_s_ifnull (off := 11) (tgt := 15) G (by decide +kernel) rfl (kx_s_nm (JS 15)) (kx_s_aload_n (j := 0) G rfl (by decide +kernel) (kx_s_aload_n (j := 1) G rfl (by decide +kernel) (kx_s_gR G kf_0_424 (by decide +kernel) (kx_s_Vv (n := 26) G kx_good CS R9 (O9 _) kc_26 rfl kw_544 kw_546 kw_9 (r := kr_0) rfl (by decide) (by decide +kernel) (kx_s_nm (JS 15)))))))))
set_option maxRecDepth 20000 in
theorem sk_32_15 (X : kx_X p l e R s m args below meth c s0 D cA 3 ι0 h0 rr hf prog_1_method_38_code "TaskDesk" C d (Option.none : Option Jvm.ClassFile.FieldType) "ring" J) : kx_Sn p l e R s m args below meth c s0 D cA 3 ι0 h0 rr hf 15 (bk_32_15 d C J) := by
  obtain ⟨G, CS, R9, O9, RT, NM, T0, FL, JS⟩ := X
  exact (kx_s_aload_n (j := 1) G rfl (by decide +kernel) (kx_s_gR G kf_0_427 (by decide +kernel) (kx_s_astore_n (j := 2) G rfl (by decide +kernel) (by decide) (kx_s_aload_n (j := 2) G rfl (by decide +kernel) (kx_s_ifnull (off := 40) (tgt := 61) G (by decide +kernel) rfl (kx_s_nm (JS 61)) (kx_s_aload_n (j := 2) G rfl (by decide +kernel) (kx_s_dup G (by decide +kernel) (kx_s_gI G kf_0_189 (by decide +kernel) (kx_s_iconst (i := 1) G (by decide +kernel) (by decide +kernel) (kx_s_isub G (by decide +kernel) (kx_s_pI G kf_0_189 rfl (by decide +kernel) (by decide +kernel) (kx_s_aload_n (j := 0) G rfl (by decide +kernel) (kx_s_dup G (by decide +kernel) (kx_s_gI G kf_0_184 (by decide +kernel) (kx_s_iconst (i := 1) G (by decide +kernel) (by decide +kernel) (kx_s_isub G (by decide +kernel) (kx_s_pI G kf_0_184 rfl (by decide +kernel) (by decide +kernel) (kx_s_aload_n (j := 0) G rfl (by decide +kernel) (kx_s_aload_n (j := 2) G rfl (by decide +kernel) (kx_s_Vi (n := 33) G kx_good CS R9 (O9 _) kc_33 rfl kw_575 kw_577 kw_12 (r := kr_0) rfl (by decide) (by decide +kernel) (kx_s_ifeq (off := 12) (tgt := 61) G (by decide +kernel) rfl (kx_s_nm (JS 61)) (kx_s_aload_n (j := 0) G rfl (by decide +kernel) (kx_s_aload_n (j := 2) G rfl (by decide +kernel) (kx_s_aload_n (j := 0) G rfl (by decide +kernel) (kx_s_gL G kf_0_131 (by decide +kernel) (kx_s_Vv (n := 34) G kx_good CS R9 (O9 _) kc_34 rfl kw_579 kw_581 kw_13 (r := kr_0) rfl (by decide) (by decide +kernel) (kx_s_nm (JS 61))))))))))))))))))))))))))))
set_option maxRecDepth 20000 in
theorem sk_32_61 (X : kx_X p l e R s m args below meth c s0 D cA 3 ι0 h0 rr hf prog_1_method_38_code "TaskDesk" C d (Option.none : Option Jvm.ClassFile.FieldType) "ring" J) : kx_Sn p l e R s m args below meth c s0 D cA 3 ι0 h0 rr hf 61 (bk_32_61 d C J) := by
  obtain ⟨G, CS, R9, O9, RT, NM, T0, FL, JS⟩ := X
  exact (kx_s_return G RT (by decide +kernel))
theorem sm_32 (X : kx_X p l e R s m args below meth c s0 D cA 3 ι0 h0 rr hf prog_1_method_38_code "TaskDesk" C d (Option.none : Option Jvm.ClassFile.FieldType) "ring" J) (b : Nat) : kx_Sn p l e R s m args below meth c s0 D cA 3 ι0 h0 rr hf b (bm_32 d C b J) := by
  unfold bm_32
  cases h0 : Nat.beq b 0 with
  | true => rw [Nat.eq_of_beq_eq_true h0]; exact sk_32_0 X
  | false =>
   cases h15 : Nat.beq b 15 with
   | true => rw [Nat.eq_of_beq_eq_true h15]; exact sk_32_15 X
   | false =>
    cases h61 : Nat.beq b 61 with
    | true => rw [Nat.eq_of_beq_eq_true h61]; exact sk_32_61 X
    | false =>
     exact kx_s_no
/-! TaskDesk.takesAtOnce(LTaskDesk$Channel;)Z -/
def bk_33_0 (d : Nat) (C : kx_C) (J : Nat → kx_F) : kx_F := (kx_la 1 (kx_gR 2 2 5 (kx_gR 5 0 4 (kx_nnul (kx_nm [0, 1] (J 21)) (kx_la 1 (kx_gI 2 6 (kx_la 1 (kx_gI 2 5 (kx_cge (kx_c (kx_i 0) (kx_nm [0, 1] (J 26))) (kx_nm [0, 1] (J 21)))))))))))
def bk_33_21 (d : Nat) (C : kx_C) (J : Nat → kx_F) : kx_F := (kx_c (kx_i 1) (kx_nm [0, 1] (J 26)))
def bk_33_26 (d : Nat) (C : kx_C) (J : Nat → kx_F) : kx_F := (kx_si 2 (kx_la 1 (kx_la 0 (kx_gR 0 9 2 (kx_aeq (kx_nm [] (J 50)) (kx_la 1 (kx_gB 2 4 (kx_ifne (kx_nm [] (J 50)) (kx_li 2 (kx_ifeq (kx_nm [] (J 50)) (kx_c (kx_i 1) (kx_nm [] (J 51)))))))))))))
def bk_33_50 (d : Nat) (C : kx_C) (J : Nat → kx_F) : kx_F := (kx_c (kx_i 0) (kx_nm [] (J 51)))
def bk_33_51 (d : Nat) (C : kx_C) (J : Nat → kx_F) : kx_F := kx_rz
def bm_33 (d : Nat) (C : kx_C) (b : Nat) (J : Nat → kx_F) : kx_F := bif Nat.beq b 0 then bk_33_0 d C J else bif Nat.beq b 21 then bk_33_21 d C J else bif Nat.beq b 26 then bk_33_26 d C J else bif Nat.beq b 50 then bk_33_50 d C J else bif Nat.beq b 51 then bk_33_51 d C J else fun _ _ _ => none
set_option maxRecDepth 20000 in
theorem sk_33_0 (X : kx_X p l e R s m args below meth c s0 D cA 3 ι0 h0 rr hf prog_1_method_43_code "TaskDesk" C d (Option.some Jvm.ClassFile.FieldType.boolean) "takesAtOnce" J) : kx_Sn p l e R s m args below meth c s0 D cA 3 ι0 h0 rr hf 0 (bk_33_0 d C J) := by
  obtain ⟨G, CS, R9, O9, RT, NM, T0, FL, JS⟩ := X
  exact (kx_s_aload_n (j := 1) G rfl (by decide +kernel) (kx_s_gR G kf_0_232 (by decide +kernel) (kx_s_gR G kf_0_317 (by decide +kernel) (kx_s_ifnonnull (off := 14) (tgt := 21) G (by decide +kernel) rfl (kx_s_nm (JS 21)) (kx_s_aload_n (j := 1) G rfl (by decide +kernel) (kx_s_gI G kf_0_175 (by decide +kernel) (kx_s_aload_n (j := 1) G rfl (by decide +kernel) (kx_s_gI G kf_0_156 (by decide +kernel) (kx_s_cge (off := 7) (tgt := 25) G (by decide +kernel) rfl (kx_s_iconst (i := 0) G (by decide +kernel) (by decide +kernel) (kx_s_nm (JS 26))) (kx_s_nm (JS 21)))))))))))
set_option maxRecDepth 20000 in
theorem sk_33_21 (X : kx_X p l e R s m args below meth c s0 D cA 3 ι0 h0 rr hf prog_1_method_43_code "TaskDesk" C d (Option.some Jvm.ClassFile.FieldType.boolean) "takesAtOnce" J) : kx_Sn p l e R s m args below meth c s0 D cA 3 ι0 h0 rr hf 21 (bk_33_21 d C J) := by
  obtain ⟨G, CS, R9, O9, RT, NM, T0, FL, JS⟩ := X
  exact (kx_s_iconst (i := 1) G (by decide +kernel) (by decide +kernel) (kx_s_goto (off := 4) (tgt := 26) G (by decide +kernel) rfl (kx_s_nm (JS 26))))
set_option maxRecDepth 20000 in
theorem sk_33_26 (X : kx_X p l e R s m args below meth c s0 D cA 3 ι0 h0 rr hf prog_1_method_43_code "TaskDesk" C d (Option.some Jvm.ClassFile.FieldType.boolean) "takesAtOnce" J) : kx_Sn p l e R s m args below meth c s0 D cA 3 ι0 h0 rr hf 26 (bk_33_26 d C J) := by
  obtain ⟨G, CS, R9, O9, RT, NM, T0, FL, JS⟩ := X
  exact (kx_s_istore_n (j := 2) G rfl (by decide +kernel) (by decide) (kx_s_aload_n (j := 1) G rfl (by decide +kernel) (kx_s_aload_n (j := 0) G rfl (by decide +kernel) (kx_s_gR G kf_0_38 (by decide +kernel) (kx_s_aeq (off := 18) (tgt := 50) G (by decide +kernel) rfl (kx_s_nm (JS 50)) (kx_s_aload_n (j := 1) G rfl (by decide +kernel) (kx_s_gB G kf_0_153 (by decide +kernel) (kx_s_ifne (off := 11) (tgt := 50) G (by decide +kernel) rfl (kx_s_nm (JS 50)) (kx_s_iload_n (j := 2) G rfl (by decide +kernel) (kx_s_ifeq (off := 7) (tgt := 50) G (by decide +kernel) rfl (kx_s_nm (JS 50)) (kx_s_iconst (i := 1) G (by decide +kernel) (by decide +kernel) (kx_s_goto (off := 4) (tgt := 51) G (by decide +kernel) rfl (kx_s_nm (JS 51))))))))))))))
set_option maxRecDepth 20000 in
theorem sk_33_50 (X : kx_X p l e R s m args below meth c s0 D cA 3 ι0 h0 rr hf prog_1_method_43_code "TaskDesk" C d (Option.some Jvm.ClassFile.FieldType.boolean) "takesAtOnce" J) : kx_Sn p l e R s m args below meth c s0 D cA 3 ι0 h0 rr hf 50 (bk_33_50 d C J) := by
  obtain ⟨G, CS, R9, O9, RT, NM, T0, FL, JS⟩ := X
  exact (kx_s_iconst (i := 0) G (by decide +kernel) (by decide +kernel) (kx_s_nm (JS 51)))
set_option maxRecDepth 20000 in
theorem sk_33_51 (X : kx_X p l e R s m args below meth c s0 D cA 3 ι0 h0 rr hf prog_1_method_43_code "TaskDesk" C d (Option.some Jvm.ClassFile.FieldType.boolean) "takesAtOnce" J) : kx_Sn p l e R s m args below meth c s0 D cA 3 ι0 h0 rr hf 51 (bk_33_51 d C J) := by
  obtain ⟨G, CS, R9, O9, RT, NM, T0, FL, JS⟩ := X
  exact (kx_s_zreturn G RT (by decide +kernel))
theorem sm_33 (X : kx_X p l e R s m args below meth c s0 D cA 3 ι0 h0 rr hf prog_1_method_43_code "TaskDesk" C d (Option.some Jvm.ClassFile.FieldType.boolean) "takesAtOnce" J) (b : Nat) : kx_Sn p l e R s m args below meth c s0 D cA 3 ι0 h0 rr hf b (bm_33 d C b J) := by
  unfold bm_33
  cases h0 : Nat.beq b 0 with
  | true => rw [Nat.eq_of_beq_eq_true h0]; exact sk_33_0 X
  | false =>
   cases h21 : Nat.beq b 21 with
   | true => rw [Nat.eq_of_beq_eq_true h21]; exact sk_33_21 X
   | false =>
    cases h26 : Nat.beq b 26 with
    | true => rw [Nat.eq_of_beq_eq_true h26]; exact sk_33_26 X
    | false =>
     cases h50 : Nat.beq b 50 with
     | true => rw [Nat.eq_of_beq_eq_true h50]; exact sk_33_50 X
     | false =>
      cases h51 : Nat.beq b 51 with
      | true => rw [Nat.eq_of_beq_eq_true h51]; exact sk_33_51 X
      | false =>
       exact kx_s_no
/-! TaskDesk.pass(LTaskDesk$Channel;J)V -/
def bk_34_0 (d : Nat) (C : kx_C) (J : Nat → kx_F) : kx_F := (kx_la 1 (kx_gR 2 2 5 (kx_gR 5 0 4 (kx_sa 4 (kx_la 4 (kx_nul (kx_la 0 (kx_la 1 (kx_ll 2 (kx_Vv C 38 0 [4, 1] (kx_nm [] (J 32)))))) (kx_la 0 (kx_la 4 (kx_ll 2 (kx_c (kx_i 1) (kx_c (kx_i 0) (kx_Vv C 35 0 [6, 1, 0, 0] (kx_nm [] (J 32))))))))))))))
def bk_34_32 (d : Nat) (C : kx_C) (J : Nat → kx_F) : kx_F := kx_rv
def bm_34 (d : Nat) (C : kx_C) (b : Nat) (J : Nat → kx_F) : kx_F := bif Nat.beq b 0 then bk_34_0 d C J else bif Nat.beq b 32 then bk_34_32 d C J else fun _ _ _ => none
set_option maxRecDepth 20000 in
theorem sk_34_0 (X : kx_X p l e R s m args below meth c s0 D cA 5 ι0 h0 rr hf prog_1_method_45_code "TaskDesk" C d (Option.none : Option Jvm.ClassFile.FieldType) "pass" J) : kx_Sn p l e R s m args below meth c s0 D cA 5 ι0 h0 rr hf 0 (bk_34_0 d C J) := by
  obtain ⟨G, CS, R9, O9, RT, NM, T0, FL, JS⟩ := X
  exact (kx_s_aload_n (j := 1) G rfl (by decide +kernel) (kx_s_gR G kf_0_232 (by decide +kernel) (kx_s_gR G kf_0_317 (by decide +kernel) (kx_s_astore G (by decide +kernel) (by decide) (kx_s_aload G (by decide +kernel) (kx_s_ifnull (off := 15) (tgt := 26) G (by decide +kernel) rfl (kx_s_aload_n (j := 0) G rfl (by decide +kernel) (kx_s_aload_n (j := 1) G rfl (by decide +kernel) (kx_s_lload_n (j := 2) G rfl (by decide +kernel) (kx_s_Vv (n := 38) G kx_good CS R9 (O9 _) kc_38 rfl kw_596 kw_598 kw_16 (r := kr_0) rfl (by decide) (by decide +kernel) (kx_s_nm (JS 32)))))) (kx_s_aload_n (j := 0) G rfl (by decide +kernel) (kx_s_aload G (by decide +kernel) (kx_s_lload_n (j := 2) G rfl (by decide +kernel) (kx_s_iconst (i := 1) G (by decide +kernel) (by decide +kernel) (kx_s_iconst (i := 0) G (by decide +kernel) (by decide +kernel) (kx_s_Vv (n := 35) G kx_good CS R9 (O9 _) kc_35 rfl kw_583 kw_585 kw_14 (r := kr_0) rfl (by decide) (by decide +kernel) (kx_s_goto (off := 9) (tgt := 32) G (by decide +kernel) rfl (kx_s_nm (JS 32)))))))))))))))
set_option maxRecDepth 20000 in
theorem sk_34_32 (X : kx_X p l e R s m args below meth c s0 D cA 5 ι0 h0 rr hf prog_1_method_45_code "TaskDesk" C d (Option.none : Option Jvm.ClassFile.FieldType) "pass" J) : kx_Sn p l e R s m args below meth c s0 D cA 5 ι0 h0 rr hf 32 (bk_34_32 d C J) := by
  obtain ⟨G, CS, R9, O9, RT, NM, T0, FL, JS⟩ := X
  exact (kx_s_return G RT (by decide +kernel))
theorem sm_34 (X : kx_X p l e R s m args below meth c s0 D cA 5 ι0 h0 rr hf prog_1_method_45_code "TaskDesk" C d (Option.none : Option Jvm.ClassFile.FieldType) "pass" J) (b : Nat) : kx_Sn p l e R s m args below meth c s0 D cA 5 ι0 h0 rr hf b (bm_34 d C b J) := by
  unfold bm_34
  cases h0 : Nat.beq b 0 with
  | true => rw [Nat.eq_of_beq_eq_true h0]; exact sk_34_0 X
  | false =>
   cases h32 : Nat.beq b 32 with
   | true => rw [Nat.eq_of_beq_eq_true h32]; exact sk_34_32 X
   | false =>
    exact kx_s_no
/-! TaskDesk.wake(LTaskDesk$Place;JZZ)V -/
def bk_35_0 (d : Nat) (C : kx_C) (J : Nat → kx_F) : kx_F := (kx_la 1 (kx_gR 4 0 6 (kx_sa 6 (kx_la 6 (kx_nul (kx_nm [] (J 42)) (kx_la 6 (kx_ll 2 (kx_li 4 (kx_la 1 (kx_gI 4 4 (kx_li 5 (kx_Vv C 12 6 [1, 0, 0, 0] (kx_la 0 (kx_la 6 (kx_Vv C 36 0 [8] (kx_la 6 (kx_la 0 (kx_gR 0 2 5 (kx_c (kx_i 1) (kx_c (kx_i (-1)) (kx_Vv C 27 6 [7, 0, 0] (kx_nm [] (J 42)))))))))))))))))))))))
def bk_35_42 (d : Nat) (C : kx_C) (J : Nat → kx_F) : kx_F := kx_rv
def bm_35 (d : Nat) (C : kx_C) (b : Nat) (J : Nat → kx_F) : kx_F := bif Nat.beq b 0 then bk_35_0 d C J else bif Nat.beq b 42 then bk_35_42 d C J else fun _ _ _ => none
set_option maxRecDepth 20000 in
theorem sk_35_0 (X : kx_X p l e R s m args below meth c s0 D cA 7 ι0 h0 rr hf prog_1_method_40_code "TaskDesk" C d (Option.none : Option Jvm.ClassFile.FieldType) "wake" J) : kx_Sn p l e R s m args below meth c s0 D cA 7 ι0 h0 rr hf 0 (bk_35_0 d C J) := by
  obtain ⟨G, CS, R9, O9, RT, NM, T0, FL, JS⟩ := X
  exact (kx_s_aload_n (j := 1) G rfl (by decide +kernel) (kx_s_gR G kf_0_60 (by decide +kernel) (kx_s_astore G (by decide +kernel) (by decide) (kx_s_aload G (by decide +kernel) (kx_s_ifnull (off := 34) (tgt := 42) G (by decide +kernel) rfl (kx_s_nm (JS 42)) (kx_s_aload G (by decide +kernel) (kx_s_lload_n (j := 2) G rfl (by decide +kernel) (kx_s_iload G (by decide +kernel) (kx_s_aload_n (j := 1) G rfl (by decide +kernel) (kx_s_gI G kf_0_258 (by decide +kernel) (kx_s_iload G (by decide +kernel) (kx_s_Vv (n := 12) G kx_good CS R9 (O9 _) kc_12 rfl kw_587 kw_360 kw_361 (r := kr_6) rfl (by decide) (by decide +kernel) (kx_s_aload_n (j := 0) G rfl (by decide +kernel) (kx_s_aload G (by decide +kernel) (kx_s_Vv (n := 36) G kx_good CS R9 (O9 _) kc_36 rfl kw_588 kw_590 kw_15 (r := kr_0) rfl (by decide) (by decide +kernel) (kx_s_aload G (by decide +kernel) (kx_s_aload_n (j := 0) G rfl (by decide +kernel) (kx_s_gR G kf_0_18 (by decide +kernel) (kx_s_iconst (i := 1) G (by decide +kernel) (by decide +kernel) (kx_s_iconst (i := -1) G (by decide +kernel) (by decide +kernel) (kx_s_Vv (n := 27) G kx_good CS R9 (O9 _) kc_27 rfl kw_548 kw_549 kw_550 (r := kr_6) rfl (by decide) (by decide +kernel) (kx_s_nm (JS 42)))))))))))))))))))))))
set_option maxRecDepth 20000 in
theorem sk_35_42 (X : kx_X p l e R s m args below meth c s0 D cA 7 ι0 h0 rr hf prog_1_method_40_code "TaskDesk" C d (Option.none : Option Jvm.ClassFile.FieldType) "wake" J) : kx_Sn p l e R s m args below meth c s0 D cA 7 ι0 h0 rr hf 42 (bk_35_42 d C J) := by
  obtain ⟨G, CS, R9, O9, RT, NM, T0, FL, JS⟩ := X
  exact (kx_s_return G RT (by decide +kernel))
theorem sm_35 (X : kx_X p l e R s m args below meth c s0 D cA 7 ι0 h0 rr hf prog_1_method_40_code "TaskDesk" C d (Option.none : Option Jvm.ClassFile.FieldType) "wake" J) (b : Nat) : kx_Sn p l e R s m args below meth c s0 D cA 7 ι0 h0 rr hf b (bm_35 d C b J) := by
  unfold bm_35
  cases h0 : Nat.beq b 0 with
  | true => rw [Nat.eq_of_beq_eq_true h0]; exact sk_35_0 X
  | false =>
   cases h42 : Nat.beq b 42 with
   | true => rw [Nat.eq_of_beq_eq_true h42]; exact sk_35_42 X
   | false =>
    exact kx_s_no
/-! TaskDesk.takeOut(LTaskDesk$Task;)V -/
def bk_36_0 (d : Nat) (C : kx_C) (J : Nat → kx_F) : kx_F := (kx_la 1 (kx_gR 6 1 4 (kx_Vv C 37 4 [] (kx_la 1 (kx_gR 6 5 4 (kx_sa 2 (kx_la 1 (kx_c (kx_r 4 none) (kx_pR 6 5 4 (kx_c (kx_i 16) (kx_si 3 (kx_nm [0, 2, 3] (J 20)))))))))))))
def bk_36_20 (d : Nat) (C : kx_C) (J : Nat → kx_F) : kx_F := (kx_li 3 (kx_ifle (kx_nm [] (J 52)) (kx_la 2 (kx_nul (kx_nm [] (J 52)) (kx_la 2 (kx_gR 4 8 4 (kx_sa 4 (kx_la 2 (kx_Vv C 37 4 [] (kx_la 0 (kx_la 2 (kx_Vv C 10 0 [6] (kx_la 4 (kx_sa 2 (kx_inc 3 (-1) (kx_nm [0, 2, 3] (J 20)))))))))))))))))
def bk_36_52 (d : Nat) (C : kx_C) (J : Nat → kx_F) : kx_F := kx_rv
def bm_36 (d : Nat) (C : kx_C) (b : Nat) (J : Nat → kx_F) : kx_F := bif Nat.beq b 0 then bk_36_0 d C J else bif Nat.beq b 20 then bk_36_20 d C J else bif Nat.beq b 52 then bk_36_52 d C J else fun _ _ _ => none
set_option maxRecDepth 20000 in
theorem sk_36_0 (X : kx_X p l e R s m args below meth c s0 D cA 5 ι0 h0 rr hf prog_1_method_42_code "TaskDesk" C d (Option.none : Option Jvm.ClassFile.FieldType) "takeOut" J) : kx_Sn p l e R s m args below meth c s0 D cA 5 ι0 h0 rr hf 0 (bk_36_0 d C J) := by
  obtain ⟨G, CS, R9, O9, RT, NM, T0, FL, JS⟩ := X
  exact (kx_s_aload_n (j := 1) G rfl (by decide +kernel) (kx_s_gR G kf_0_211 (by decide +kernel) (kx_s_Vv (n := 37) G kx_good CS R9 (O9 _) kc_37 rfl kw_592 kw_593 kw_594 (r := kr_4) rfl (by decide) (by decide +kernel) (kx_s_aload_n (j := 1) G rfl (by decide +kernel) (kx_s_gR G kf_0_435 (by decide +kernel) (kx_s_astore_n (j := 2) G rfl (by decide +kernel) (by decide) (kx_s_aload_n (j := 1) G rfl (by decide +kernel) (kx_s_null G (by decide +kernel) (kx_s_pR (ty := .object "TaskDesk$Place") G kf_0_435 rfl (by decide +kernel) rfl (by decide +kernel) (kx_s_bipush (i := 16) G (by decide +kernel) (by decide +kernel) (kx_s_istore_n (j := 3) G rfl (by decide +kernel) (by decide) (kx_s_nm (JS 20)))))))))))))
set_option maxRecDepth 20000 in
theorem sk_36_20 (X : kx_X p l e R s m args below meth c s0 D cA 5 ι0 h0 rr hf prog_1_method_42_code "TaskDesk" C d (Option.none : Option Jvm.ClassFile.FieldType) "takeOut" J) : kx_Sn p l e R s m args below meth c s0 D cA 5 ι0 h0 rr hf 20 (bk_36_20 d C J) := by
  obtain ⟨G, CS, R9, O9, RT, NM, T0, FL, JS⟩ := X
  exact (kx_s_iload_n (j := 3) G rfl (by decide +kernel) (kx_s_ifle (off := 31) (tgt := 52) G (by decide +kernel) rfl (kx_s_nm (JS 52)) (kx_s_aload_n (j := 2) G rfl (by decide +kernel) (kx_s_ifnull (off := 27) (tgt := 52) G (by decide +kernel) rfl (kx_s_nm (JS 52)) (kx_s_aload_n (j := 2) G rfl (by decide +kernel) (kx_s_gR G kf_0_249 (by decide +kernel) (kx_s_astore G (by decide +kernel) (by decide) (kx_s_aload_n (j := 2) G rfl (by decide +kernel) (kx_s_Vv (n := 37) G kx_good CS R9 (O9 _) kc_37 rfl kw_592 kw_593 kw_594 (r := kr_4) rfl (by decide) (by decide +kernel) (kx_s_aload_n (j := 0) G rfl (by decide +kernel) (kx_s_aload_n (j := 2) G rfl (by decide +kernel) (kx_s_Vv (n := 10) G kx_good CS R9 (O9 _) kc_10 rfl kw_351 kw_353 kw_1 (r := kr_0) rfl (by decide) (by decide +kernel) (kx_s_aload G (by decide +kernel) (kx_s_astore_n (j := 2) G rfl (by decide +kernel) (by decide) (kx_s_iinc (n := -1) G (by decide +kernel) (by decide +kernel) (by decide) (kx_s_goto (off := -29) (tgt := 20) G (by decide +kernel) rfl (kx_s_nm (JS 20))))))))))))))))))
set_option maxRecDepth 20000 in
theorem sk_36_52 (X : kx_X p l e R s m args below meth c s0 D cA 5 ι0 h0 rr hf prog_1_method_42_code "TaskDesk" C d (Option.none : Option Jvm.ClassFile.FieldType) "takeOut" J) : kx_Sn p l e R s m args below meth c s0 D cA 5 ι0 h0 rr hf 52 (bk_36_52 d C J) := by
  obtain ⟨G, CS, R9, O9, RT, NM, T0, FL, JS⟩ := X
  exact (kx_s_return G RT (by decide +kernel))
theorem sm_36 (X : kx_X p l e R s m args below meth c s0 D cA 5 ι0 h0 rr hf prog_1_method_42_code "TaskDesk" C d (Option.none : Option Jvm.ClassFile.FieldType) "takeOut" J) (b : Nat) : kx_Sn p l e R s m args below meth c s0 D cA 5 ι0 h0 rr hf b (bm_36 d C b J) := by
  unfold bm_36
  cases h0 : Nat.beq b 0 with
  | true => rw [Nat.eq_of_beq_eq_true h0]; exact sk_36_0 X
  | false =>
   cases h20 : Nat.beq b 20 with
   | true => rw [Nat.eq_of_beq_eq_true h20]; exact sk_36_20 X
   | false =>
    cases h52 : Nat.beq b 52 with
    | true => rw [Nat.eq_of_beq_eq_true h52]; exact sk_36_52 X
    | false =>
     exact kx_s_no
/-! TaskDesk.putValue(LTaskDesk$Channel;J)V -/
def bk_38_0 (d : Nat) (C : kx_C) (J : Nat → kx_F) : kx_F := (kx_la 0 (kx_gR 0 12 8 (kx_sa 4 (kx_la 4 (kx_nul (kx_nm [] (J 32)) (kx_la 0 (kx_la 4 (kx_gR 8 1 8 (kx_pR 0 12 8 (kx_la 4 (kx_ll 2 (kx_pL 8 0 (kx_la 1 (kx_la 4 (kx_Vv C 39 2 [10] (kx_nm [] (J 32)))))))))))))))))
def bk_38_32 (d : Nat) (C : kx_C) (J : Nat → kx_F) : kx_F := kx_rv
def bm_38 (d : Nat) (C : kx_C) (b : Nat) (J : Nat → kx_F) : kx_F := bif Nat.beq b 0 then bk_38_0 d C J else bif Nat.beq b 32 then bk_38_32 d C J else fun _ _ _ => none
set_option maxRecDepth 20000 in
theorem sk_38_0 (X : kx_X p l e R s m args below meth c s0 D cA 5 ι0 h0 rr hf prog_1_method_47_code "TaskDesk" C d (Option.none : Option Jvm.ClassFile.FieldType) "putValue" J) : kx_Sn p l e R s m args below meth c s0 D cA 5 ι0 h0 rr hf 0 (bk_38_0 d C J) := by
  obtain ⟨G, CS, R9, O9, RT, NM, T0, FL, JS⟩ := X
  exact (kx_s_aload_n (j := 0) G rfl (by decide +kernel) (kx_s_gR G kf_0_441 (by decide +kernel) (kx_s_astore G (by decide +kernel) (by decide) (kx_s_aload G (by decide +kernel) (kx_s_ifnull (off := 24) (tgt := 32) G (by decide +kernel) rfl (kx_s_nm (JS 32)) (kx_s_aload_n (j := 0) G rfl (by decide +kernel) (kx_s_aload G (by decide +kernel) (kx_s_gR G kf_0_445 (by decide +kernel) (kx_s_pR (ty := .object "TaskDesk$Value") G kf_0_441 rfl (by decide +kernel) rfl (by decide +kernel) (kx_s_aload G (by decide +kernel) (kx_s_lload_n (j := 2) G rfl (by decide +kernel) (kx_s_pL G kf_0_448 rfl (by decide +kernel) (by decide +kernel) (kx_s_aload_n (j := 1) G rfl (by decide +kernel) (kx_s_aload G (by decide +kernel) (kx_s_Vv (n := 39) G kx_good CS R9 (O9 _) kc_39 rfl kw_600 kw_601 kw_602 (r := kr_2) rfl (by decide) (by decide +kernel) (kx_s_nm (JS 32)))))))))))))))))
set_option maxRecDepth 20000 in
theorem sk_38_32 (X : kx_X p l e R s m args below meth c s0 D cA 5 ι0 h0 rr hf prog_1_method_47_code "TaskDesk" C d (Option.none : Option Jvm.ClassFile.FieldType) "putValue" J) : kx_Sn p l e R s m args below meth c s0 D cA 5 ι0 h0 rr hf 32 (bk_38_32 d C J) := by
  obtain ⟨G, CS, R9, O9, RT, NM, T0, FL, JS⟩ := X
  exact (kx_s_return G RT (by decide +kernel))
theorem sm_38 (X : kx_X p l e R s m args below meth c s0 D cA 5 ι0 h0 rr hf prog_1_method_47_code "TaskDesk" C d (Option.none : Option Jvm.ClassFile.FieldType) "putValue" J) (b : Nat) : kx_Sn p l e R s m args below meth c s0 D cA 5 ι0 h0 rr hf b (bm_38 d C b J) := by
  unfold bm_38
  cases h0 : Nat.beq b 0 with
  | true => rw [Nat.eq_of_beq_eq_true h0]; exact sk_38_0 X
  | false =>
   cases h32 : Nat.beq b 32 with
   | true => rw [Nat.eq_of_beq_eq_true h32]; exact sk_38_32 X
   | false =>
    exact kx_s_no
/-! TaskDesk.finish()I -/
def bk_40_0 (d : Nat) (C : kx_C) (J : Nat → kx_F) : kx_F := (kx_la 0 (kx_Vr C 24 0 [] 6 (kx_sa 1 (kx_la 1 (kx_gI 6 0 (kx_ifne (kx_la 1 (kx_c (kx_i 0) (kx_pB 6 2 (kx_la 0 (kx_dup (kx_gI 0 1 (kx_c (kx_i 1) (kx_ii (fun x y => x - y) (kx_pI 0 1 (kx_la 0 (kx_Vv C 30 0 [] (kx_nm [0] (J 38))))))))))))) (kx_la 0 (kx_Vv C 41 0 [] (kx_nm [0] (J 38))))))))))
def bk_40_38 (d : Nat) (C : kx_C) (J : Nat → kx_F) : kx_F := (kx_la 0 (kx_Vi C 19 0 [] kx_ri))
def bm_40 (d : Nat) (C : kx_C) (b : Nat) (J : Nat → kx_F) : kx_F := bif Nat.beq b 0 then bk_40_0 d C J else bif Nat.beq b 38 then bk_40_38 d C J else fun _ _ _ => none
set_option maxRecDepth 20000 in
theorem sk_40_0 (X : kx_X p l e R s m args below meth c s0 D cA 2 ι0 h0 rr hf prog_1_method_4_code "TaskDesk" C d (Option.some Jvm.ClassFile.FieldType.int) "finish" J) : kx_Sn p l e R s m args below meth c s0 D cA 2 ι0 h0 rr hf 0 (bk_40_0 d C J) := by
  obtain ⟨G, CS, R9, O9, RT, NM, T0, FL, JS⟩ := X
  exact (kx_s_aload_n (j := 0) G rfl (by decide +kernel) (kx_s_Vr (n := 24) G kx_good CS R9 (O9 _) kc_24 rfl kw_466 kw_468 kw_6 (r := kr_0) rfl (by decide) (by decide +kernel) (kx_s_astore_n (j := 1) G rfl (by decide +kernel) (by decide) (kx_s_aload_n (j := 1) G rfl (by decide +kernel) (kx_s_gI G kf_0_107 (by decide +kernel) (kx_s_ifne (off := 10) (tgt := 19) G (by decide +kernel) rfl (kx_s_aload_n (j := 1) G rfl (by decide +kernel) (kx_s_iconst (i := 0) G (by decide +kernel) (by decide +kernel) (kx_s_pB G kf_0_120 rfl (by decide +kernel) (by decide +kernel) (kx_s_aload_n (j := 0) G rfl (by decide +kernel) (kx_s_dup G (by decide +kernel) (kx_s_gI G kf_0_83 (by decide +kernel) (kx_s_iconst (i := 1) G (by decide +kernel) (by decide +kernel) (kx_s_isub G (by decide +kernel) (kx_s_pI G kf_0_83 rfl (by decide +kernel) (by decide +kernel) (kx_s_aload_n (j := 0) G rfl (by decide +kernel) (kx_s_Vv (n := 30) G kx_good CS R9 (O9 _) kc_30 rfl kw_563 kw_565 kw_10 (r := kr_0) rfl (by decide) (by decide +kernel) (kx_s_nm (JS 38))))))))))))) (kx_s_aload_n (j := 0) G rfl (by decide +kernel) (kx_s_Vv (n := 41) G kx_good CS R9 (O9 _) kc_41 rfl kw_612 kw_614 kw_17 (r := kr_0) rfl (by decide) (by decide +kernel) (kx_s_goto (off := 22) (tgt := 38) G (by decide +kernel) rfl (kx_s_nm (JS 38)))))))))))
set_option maxRecDepth 20000 in
theorem sk_40_38 (X : kx_X p l e R s m args below meth c s0 D cA 2 ι0 h0 rr hf prog_1_method_4_code "TaskDesk" C d (Option.some Jvm.ClassFile.FieldType.int) "finish" J) : kx_Sn p l e R s m args below meth c s0 D cA 2 ι0 h0 rr hf 38 (bk_40_38 d C J) := by
  obtain ⟨G, CS, R9, O9, RT, NM, T0, FL, JS⟩ := X
  exact (kx_s_aload_n (j := 0) G rfl (by decide +kernel) (kx_s_Vi (n := 19) G kx_good CS R9 (O9 _) kc_19 rfl kw_604 kw_443 kw_444 (r := kr_0) rfl (by decide) (by decide +kernel) (kx_s_ireturn G RT (by decide +kernel))))
theorem sm_40 (X : kx_X p l e R s m args below meth c s0 D cA 2 ι0 h0 rr hf prog_1_method_4_code "TaskDesk" C d (Option.some Jvm.ClassFile.FieldType.int) "finish" J) (b : Nat) : kx_Sn p l e R s m args below meth c s0 D cA 2 ι0 h0 rr hf b (bm_40 d C b J) := by
  unfold bm_40
  cases h0 : Nat.beq b 0 with
  | true => rw [Nat.eq_of_beq_eq_true h0]; exact sk_40_0 X
  | false =>
   cases h38 : Nat.beq b 38 with
   | true => rw [Nat.eq_of_beq_eq_true h38]; exact sk_40_38 X
   | false =>
    exact kx_s_no
/-! TaskDesk.endAll()V -/
def bk_41_0 (d : Nat) (C : kx_C) (J : Nat → kx_F) : kx_F := (kx_c (kx_i 0) (kx_si 1 (kx_nm [0, 1] (J 2))))
def bk_41_2 (d : Nat) (C : kx_C) (J : Nat → kx_F) : kx_F := (kx_li 1 (kx_c (kx_i 256) (kx_cge (kx_la 0 (kx_c (kx_i 0) (kx_pI 0 1 (kx_la 0 (kx_c (kx_r 6 none) (kx_pR 0 3 6 (kx_la 0 (kx_c (kx_i 1) (kx_pB 0 4 kx_rv))))))))) (kx_la 0 (kx_la 0 (kx_gR 0 0 102 (kx_li 1 (kx_aR 102 6 (kx_Vv C 36 0 [8] (kx_la 0 (kx_gR 0 0 102 (kx_li 1 (kx_aR 102 6 (kx_c (kx_i 0) (kx_pB 6 2 (kx_inc 1 1 (kx_nm [0, 1] (J 2))))))))))))))))))
def bm_41 (d : Nat) (C : kx_C) (b : Nat) (J : Nat → kx_F) : kx_F := bif Nat.beq b 0 then bk_41_0 d C J else bif Nat.beq b 2 then bk_41_2 d C J else fun _ _ _ => none
set_option maxRecDepth 20000 in
theorem sk_41_0 (X : kx_X p l e R s m args below meth c s0 D cA 2 ι0 h0 rr hf prog_1_method_39_code "TaskDesk" C d (Option.none : Option Jvm.ClassFile.FieldType) "endAll" J) : kx_Sn p l e R s m args below meth c s0 D cA 2 ι0 h0 rr hf 0 (bk_41_0 d C J) := by
  obtain ⟨G, CS, R9, O9, RT, NM, T0, FL, JS⟩ := X
  exact (kx_s_iconst (i := 0) G (by decide +kernel) (by decide +kernel) (kx_s_istore_n (j := 1) G rfl (by decide +kernel) (by decide) (kx_s_nm (JS 2))))
set_option maxRecDepth 20000 in
theorem sk_41_2 (X : kx_X p l e R s m args below meth c s0 D cA 2 ι0 h0 rr hf prog_1_method_39_code "TaskDesk" C d (Option.none : Option Jvm.ClassFile.FieldType) "endAll" J) : kx_Sn p l e R s m args below meth c s0 D cA 2 ι0 h0 rr hf 2 (bk_41_2 d C J) := by
  obtain ⟨G, CS, R9, O9, RT, NM, T0, FL, JS⟩ := X
  exact (kx_s_iload_n (j := 1) G rfl (by decide +kernel) (kx_s_sipush (i := 256) G (by decide +kernel) (by decide +kernel) (kx_s_cge (off := 29) (tgt := 35) G (by decide +kernel) rfl (kx_s_aload_n (j := 0) G rfl (by decide +kernel) (kx_s_iconst (i := 0) G (by decide +kernel) (by decide +kernel) (kx_s_pI G kf_0_83 rfl (by decide +kernel) (by decide +kernel) (kx_s_aload_n (j := 0) G rfl (by decide +kernel) (kx_s_null G (by decide +kernel) (kx_s_pR (ty := .object "TaskDesk$Task") G kf_0_86 rfl (by decide +kernel) rfl (by decide +kernel) (kx_s_aload_n (j := 0) G rfl (by decide +kernel) (kx_s_iconst (i := 1) G (by decide +kernel) (by decide +kernel) (kx_s_pB G kf_0_399 rfl (by decide +kernel) (by decide +kernel) (kx_s_return G RT (by decide +kernel))))))))))) (kx_s_aload_n (j := 0) G rfl (by decide +kernel) (kx_s_aload_n (j := 0) G rfl (by decide +kernel) (kx_s_gR G kf_0_11 (by decide +kernel) (kx_s_iload_n (j := 1) G rfl (by decide +kernel) (kx_s_aR G rfl ka_102 (by decide +kernel) (kx_s_Vv (n := 36) G kx_good CS R9 (O9 _) kc_36 rfl kw_588 kw_590 kw_15 (r := kr_0) rfl (by decide) (by decide +kernel) (kx_s_aload_n (j := 0) G rfl (by decide +kernel) (kx_s_gR G kf_0_11 (by decide +kernel) (kx_s_iload_n (j := 1) G rfl (by decide +kernel) (kx_s_aR G rfl ka_102 (by decide +kernel) (kx_s_iconst (i := 0) G (by decide +kernel) (by decide +kernel) (kx_s_pB G kf_0_120 rfl (by decide +kernel) (by decide +kernel) (kx_s_iinc (n := 1) G (by decide +kernel) (by decide +kernel) (by decide) (kx_s_goto (off := -30) (tgt := 2) G (by decide +kernel) rfl (kx_s_nm (JS 2)))))))))))))))))))
theorem sm_41 (X : kx_X p l e R s m args below meth c s0 D cA 2 ι0 h0 rr hf prog_1_method_39_code "TaskDesk" C d (Option.none : Option Jvm.ClassFile.FieldType) "endAll" J) (b : Nat) : kx_Sn p l e R s m args below meth c s0 D cA 2 ι0 h0 rr hf b (bm_41 d C b J) := by
  unfold bm_41
  cases h0 : Nat.beq b 0 with
  | true => rw [Nat.eq_of_beq_eq_true h0]; exact sk_41_0 X
  | false =>
   cases h2 : Nat.beq b 2 with
   | true => rw [Nat.eq_of_beq_eq_true h2]; exact sk_41_2 X
   | false =>
    exact kx_s_no
/-! TaskDesk.sleep(J)I -/
def bk_42_0 (d : Nat) (C : kx_C) (J : Nat → kx_F) : kx_F := (kx_ll 1 (kx_c (kx_l 1000000000) (kx_lcmp (kx_ifle (kx_la 0 (kx_Vr C 24 0 [] 6 (kx_sa 3 (kx_ll 1 (kx_c (kx_l 0) (kx_lcmp (kx_ifgt (kx_la 3 (kx_c (kx_i 5) (kx_pI 6 3 (kx_la 0 (kx_gR 0 6 1 (kx_la 0 (kx_gL 0 5 (kx_ll 1 (kx_jj (fun x y => x + y) (kx_la 3 (kx_c (kx_r 2 none) (kx_Vv C 43 1 [1, 8, 4] (kx_nm [0] (J 57)))))))))))))) (kx_la 0 (kx_la 3 (kx_Vv C 26 0 [8] (kx_nm [0] (J 57)))))))))))) (kx_thd kx_cc kx_cs d 1)))))
def bk_42_57 (d : Nat) (C : kx_C) (J : Nat → kx_F) : kx_F := (kx_la 0 (kx_Vv C 30 0 [] (kx_la 0 (kx_Vi C 19 0 [] kx_ri))))
def bm_42 (d : Nat) (C : kx_C) (b : Nat) (J : Nat → kx_F) : kx_F := bif Nat.beq b 0 then bk_42_0 d C J else bif Nat.beq b 57 then bk_42_57 d C J else fun _ _ _ => none
set_option maxRecDepth 20000 in
theorem sk_42_0 (X : kx_X p l e R s m args below meth c s0 D cA 4 ι0 h0 rr hf prog_1_method_5_code "TaskDesk" C d (Option.some Jvm.ClassFile.FieldType.int) "sleep" J) : kx_Sn p l e R s m args below meth c s0 D cA 4 ι0 h0 rr hf 0 (bk_42_0 d C J) := by
  obtain ⟨G, CS, R9, O9, RT, NM, T0, FL, JS⟩ := X
  exact (kx_s_lload_n (j := 1) G rfl (by decide +kernel) (kx_s_ldc2 G kw_624 (by decide +kernel) (kx_s_lcmp G (by decide +kernel) (kx_s_ifle (off := 13) (tgt := 18) G (by decide +kernel) rfl (kx_s_aload_n (j := 0) G rfl (by decide +kernel) (kx_s_Vr (n := 24) G kx_good CS R9 (O9 _) kc_24 rfl kw_466 kw_468 kw_6 (r := kr_0) rfl (by decide) (by decide +kernel) (kx_s_astore_n (j := 3) G rfl (by decide +kernel) (by decide) (kx_s_lload_n (j := 1) G rfl (by decide +kernel) (kx_s_lconst (i := 0) G (by decide +kernel) (by decide +kernel) (kx_s_lcmp G (by decide +kernel) (kx_s_ifgt (off := 11) (tgt := 37) G (by decide +kernel) rfl (kx_s_aload_n (j := 3) G rfl (by decide +kernel) (kx_s_iconst (i := 5) G (by decide +kernel) (by decide +kernel) (kx_s_pI G kf_0_79 rfl (by decide +kernel) (by decide +kernel) (kx_s_aload_n (j := 0) G rfl (by decide +kernel) (kx_s_gR G kf_0_25 (by decide +kernel) (kx_s_aload_n (j := 0) G rfl (by decide +kernel) (kx_s_gL G kf_0_131 (by decide +kernel) (kx_s_lload_n (j := 1) G rfl (by decide +kernel) (kx_s_ladd G (by decide +kernel) (kx_s_aload_n (j := 3) G rfl (by decide +kernel) (kx_s_null G (by decide +kernel) (kx_s_Vv (n := 43) G kx_good CS R9 (O9 _) kc_43 rfl kw_641 kw_642 kw_643 (r := kr_1) rfl (by decide) (by decide +kernel) (kx_s_nm (JS 57)))))))))))))) (kx_s_aload_n (j := 0) G rfl (by decide +kernel) (kx_s_aload_n (j := 3) G rfl (by decide +kernel) (kx_s_Vv (n := 26) G kx_good CS R9 (O9 _) kc_26 rfl kw_544 kw_546 kw_9 (r := kr_0) rfl (by decide) (by decide +kernel) (kx_s_goto (off := 23) (tgt := 57) G (by decide +kernel) rfl (kx_s_nm (JS 57))))))))))))) (kx_s_thd (ic := 130) (ex := 1) (i9 := 126) (i8 := 128) (w := 2) G T0 FL R9 (by decide +kernel) (by decide +kernel) kw_625 kw_626 kw_94 kw_634 (by decide +kernel) (by decide +kernel) (Or.inl ⟨rfl, by decide +kernel⟩) (by decide +kernel) (by decide +kernel) O9)))))
set_option maxRecDepth 20000 in
theorem sk_42_57 (X : kx_X p l e R s m args below meth c s0 D cA 4 ι0 h0 rr hf prog_1_method_5_code "TaskDesk" C d (Option.some Jvm.ClassFile.FieldType.int) "sleep" J) : kx_Sn p l e R s m args below meth c s0 D cA 4 ι0 h0 rr hf 57 (bk_42_57 d C J) := by
  obtain ⟨G, CS, R9, O9, RT, NM, T0, FL, JS⟩ := X
  exact (kx_s_aload_n (j := 0) G rfl (by decide +kernel) (kx_s_Vv (n := 30) G kx_good CS R9 (O9 _) kc_30 rfl kw_563 kw_565 kw_10 (r := kr_0) rfl (by decide) (by decide +kernel) (kx_s_aload_n (j := 0) G rfl (by decide +kernel) (kx_s_Vi (n := 19) G kx_good CS R9 (O9 _) kc_19 rfl kw_604 kw_443 kw_444 (r := kr_0) rfl (by decide) (by decide +kernel) (kx_s_ireturn G RT (by decide +kernel))))))
theorem sm_42 (X : kx_X p l e R s m args below meth c s0 D cA 4 ι0 h0 rr hf prog_1_method_5_code "TaskDesk" C d (Option.some Jvm.ClassFile.FieldType.int) "sleep" J) (b : Nat) : kx_Sn p l e R s m args below meth c s0 D cA 4 ι0 h0 rr hf b (bm_42 d C b J) := by
  unfold bm_42
  cases h0 : Nat.beq b 0 with
  | true => rw [Nat.eq_of_beq_eq_true h0]; exact sk_42_0 X
  | false =>
   cases h57 : Nat.beq b 57 with
   | true => rw [Nat.eq_of_beq_eq_true h57]; exact sk_42_57 X
   | false =>
    exact kx_s_no
/-! TaskDesk.channel(I)I -/
def bk_45_0 (d : Nat) (C : kx_C) (J : Nat → kx_F) : kx_F := (kx_li 1 (kx_iflt (kx_nm [] (J 11)) (kx_li 1 (kx_c (kx_i 8192) (kx_cle (kx_la 0 (kx_Vr C 46 0 [] 2 (kx_sa 2 (kx_la 2 (kx_nul (kx_nm [] (J 42)) (kx_li 1 (kx_c (kx_i 8192) (kx_la 0 (kx_gI 0 11 (kx_ii (fun x y => x - y) (kx_cle (kx_la 2 (kx_c (kx_i 1) (kx_pB 2 3 (kx_la 2 (kx_c (kx_i 0) (kx_pB 2 4 (kx_la 2 (kx_li 1 (kx_pI 2 5 (kx_la 0 (kx_dup (kx_gI 0 10 (kx_c (kx_i 1) (kx_ii (fun x y => x + y) (kx_pI 0 10 (kx_la 0 (kx_dup (kx_gI 0 11 (kx_li 1 (kx_ii (fun x y => x + y) (kx_pI 0 11 (kx_la 2 (kx_gI 2 0 kx_ri))))))))))))))))))))))) (kx_nm [] (J 42))))))))))))) (kx_nm [] (J 11)))))))
def bk_45_11 (d : Nat) (C : kx_C) (J : Nat → kx_F) : kx_F := (kx_thd kx_cc kx_cs d 1)
def bk_45_42 (d : Nat) (C : kx_C) (J : Nat → kx_F) : kx_F := (kx_thd kx_cc kx_cs d 0)
def bm_45 (d : Nat) (C : kx_C) (b : Nat) (J : Nat → kx_F) : kx_F := bif Nat.beq b 0 then bk_45_0 d C J else bif Nat.beq b 11 then bk_45_11 d C J else bif Nat.beq b 42 then bk_45_42 d C J else fun _ _ _ => none
set_option maxRecDepth 20000 in
theorem sk_45_0 (X : kx_X p l e R s m args below meth c s0 D cA 3 ι0 h0 rr hf prog_1_method_6_code "TaskDesk" C d (Option.some Jvm.ClassFile.FieldType.int) "channel" J) : kx_Sn p l e R s m args below meth c s0 D cA 3 ι0 h0 rr hf 0 (bk_45_0 d C J) := by
  obtain ⟨G, CS, R9, O9, RT, NM, T0, FL, JS⟩ := X
  exact (kx_s_iload_n (j := 1) G rfl (by decide +kernel) (kx_s_iflt (off := 10) (tgt := 11) G (by decide +kernel) rfl (kx_s_nm (JS 11)) (kx_s_iload_n (j := 1) G rfl (by decide +kernel) (kx_s_sipush (i := 8192) G (by decide +kernel) (by decide +kernel) (kx_s_cle (off := 13) (tgt := 21) G (by decide +kernel) rfl (kx_s_aload_n (j := 0) G rfl (by decide +kernel) (kx_s_Vr (n := 46) G kx_good CS R9 (O9 _) kc_46 rfl kw_657 kw_659 kw_19 (r := kr_0) rfl (by decide) (by decide +kernel) (kx_s_astore_n (j := 2) G rfl (by decide +kernel) (by decide) (kx_s_aload_n (j := 2) G rfl (by decide +kernel) (kx_s_ifnull (off := 15) (tgt := 42) G (by decide +kernel) rfl (kx_s_nm (JS 42)) (kx_s_iload_n (j := 1) G rfl (by decide +kernel) (kx_s_sipush (i := 8192) G (by decide +kernel) (by decide +kernel) (kx_s_aload_n (j := 0) G rfl (by decide +kernel) (kx_s_gI G kf_0_145 (by decide +kernel) (kx_s_isub G (by decide +kernel) (kx_s_cle (off := 13) (tgt := 52) G (by decide +kernel) rfl (kx_s_aload_n (j := 2) G rfl (by decide +kernel) (kx_s_iconst (i := 1) G (by decide +kernel) (by decide +kernel) (kx_s_pB G kf_0_150 rfl (by decide +kernel) (by decide +kernel) (kx_s_aload_n (j := 2) G rfl (by decide +kernel) (kx_s_iconst (i := 0) G (by decide +kernel) (by decide +kernel) (kx_s_pB G kf_0_153 rfl (by decide +kernel) (by decide +kernel) (kx_s_aload_n (j := 2) G rfl (by decide +kernel) (kx_s_iload_n (j := 1) G rfl (by decide +kernel) (kx_s_pI G kf_0_156 rfl (by decide +kernel) (by decide +kernel) (kx_s_aload_n (j := 0) G rfl (by decide +kernel) (kx_s_dup G (by decide +kernel) (kx_s_gI G kf_0_159 (by decide +kernel) (kx_s_iconst (i := 1) G (by decide +kernel) (by decide +kernel) (kx_s_iadd G (by decide +kernel) (kx_s_pI G kf_0_159 rfl (by decide +kernel) (by decide +kernel) (kx_s_aload_n (j := 0) G rfl (by decide +kernel) (kx_s_dup G (by decide +kernel) (kx_s_gI G kf_0_145 (by decide +kernel) (kx_s_iload_n (j := 1) G rfl (by decide +kernel) (kx_s_iadd G (by decide +kernel) (kx_s_pI G kf_0_145 rfl (by decide +kernel) (by decide +kernel) (kx_s_aload_n (j := 2) G rfl (by decide +kernel) (kx_s_gI G kf_0_162 (by decide +kernel) (kx_s_ireturn G RT (by decide +kernel))))))))))))))))))))))))) (kx_s_nm (JS 42))))))))))))) (kx_s_nm (JS 11)))))))
set_option maxRecDepth 20000 in
theorem sk_45_11 (X : kx_X p l e R s m args below meth c s0 D cA 3 ι0 h0 rr hf prog_1_method_6_code "TaskDesk" C d (Option.some Jvm.ClassFile.FieldType.int) "channel" J) : kx_Sn p l e R s m args below meth c s0 D cA 3 ι0 h0 rr hf 11 (bk_45_11 d C J) := by
  obtain ⟨G, CS, R9, O9, RT, NM, T0, FL, JS⟩ := X
  exact (kx_s_thd (ic := 130) (ex := 1) (i9 := 126) (i8 := 139) (w := 2) G T0 FL R9 (by decide +kernel) (by decide +kernel) kw_625 kw_626 kw_94 kw_656 (by decide +kernel) (by decide +kernel) (Or.inl ⟨rfl, by decide +kernel⟩) (by decide +kernel) (by decide +kernel) O9)
set_option maxRecDepth 20000 in
theorem sk_45_42 (X : kx_X p l e R s m args below meth c s0 D cA 3 ι0 h0 rr hf prog_1_method_6_code "TaskDesk" C d (Option.some Jvm.ClassFile.FieldType.int) "channel" J) : kx_Sn p l e R s m args below meth c s0 D cA 3 ι0 h0 rr hf 42 (bk_45_42 d C J) := by
  obtain ⟨G, CS, R9, O9, RT, NM, T0, FL, JS⟩ := X
  exact (kx_s_thd (ic := 100) (ex := 0) (i9 := 96) (i8 := 148) (w := 2) G T0 FL R9 (by decide +kernel) (by decide +kernel) kw_470 kw_471 kw_93 kw_661 (by decide +kernel) (by decide +kernel) (Or.inl ⟨rfl, by decide +kernel⟩) (by decide +kernel) (by decide +kernel) O9)
theorem sm_45 (X : kx_X p l e R s m args below meth c s0 D cA 3 ι0 h0 rr hf prog_1_method_6_code "TaskDesk" C d (Option.some Jvm.ClassFile.FieldType.int) "channel" J) (b : Nat) : kx_Sn p l e R s m args below meth c s0 D cA 3 ι0 h0 rr hf b (bm_45 d C b J) := by
  unfold bm_45
  cases h0 : Nat.beq b 0 with
  | true => rw [Nat.eq_of_beq_eq_true h0]; exact sk_45_0 X
  | false =>
   cases h11 : Nat.beq b 11 with
   | true => rw [Nat.eq_of_beq_eq_true h11]; exact sk_45_11 X
   | false =>
    cases h42 : Nat.beq b 42 with
    | true => rw [Nat.eq_of_beq_eq_true h42]; exact sk_45_42 X
    | false =>
     exact kx_s_no
/-! TaskDesk.firstFreeChannel()LTaskDesk$Channel; -/
def bk_46_0 (d : Nat) (C : kx_C) (J : Nat → kx_F) : kx_F := (kx_c (kx_i 0) (kx_si 1 (kx_nm [0, 1] (J 2))))
def bk_46_2 (d : Nat) (C : kx_C) (J : Nat → kx_F) : kx_F := (kx_li 1 (kx_c (kx_i 512) (kx_cge (kx_c (kx_r 2 none) kx_rr) (kx_la 0 (kx_gR 0 8 103 (kx_li 1 (kx_aR 103 2 (kx_gB 2 3 (kx_ifne (kx_inc 1 1 (kx_nm [0, 1] (J 2))) (kx_la 0 (kx_gR 0 8 103 (kx_li 1 (kx_aR 103 2 kx_rr)))))))))))))
def bm_46 (d : Nat) (C : kx_C) (b : Nat) (J : Nat → kx_F) : kx_F := bif Nat.beq b 0 then bk_46_0 d C J else bif Nat.beq b 2 then bk_46_2 d C J else fun _ _ _ => none
set_option maxRecDepth 20000 in
theorem sk_46_0 (X : kx_X p l e R s m args below meth c s0 D cA 2 ι0 h0 rr hf prog_1_method_33_code "TaskDesk" C d (Option.some (Jvm.ClassFile.FieldType.object "TaskDesk$Channel")) "firstFreeChannel" J) : kx_Sn p l e R s m args below meth c s0 D cA 2 ι0 h0 rr hf 0 (bk_46_0 d C J) := by
  obtain ⟨G, CS, R9, O9, RT, NM, T0, FL, JS⟩ := X
  exact (kx_s_iconst (i := 0) G (by decide +kernel) (by decide +kernel) (kx_s_istore_n (j := 1) G rfl (by decide +kernel) (by decide) (kx_s_nm (JS 2))))
set_option maxRecDepth 20000 in
theorem sk_46_2 (X : kx_X p l e R s m args below meth c s0 D cA 2 ι0 h0 rr hf prog_1_method_33_code "TaskDesk" C d (Option.some (Jvm.ClassFile.FieldType.object "TaskDesk$Channel")) "firstFreeChannel" J) : kx_Sn p l e R s m args below meth c s0 D cA 2 ι0 h0 rr hf 2 (bk_46_2 d C J) := by
  obtain ⟨G, CS, R9, O9, RT, NM, T0, FL, JS⟩ := X
  exact (kx_s_iload_n (j := 1) G rfl (by decide +kernel) (kx_s_sipush (i := 512) G (by decide +kernel) (by decide +kernel) (kx_s_cge (off := 28) (tgt := 34) G (by decide +kernel) rfl (kx_s_null G (by decide +kernel) (kx_s_areturn G RT (by decide +kernel))) (kx_s_aload_n (j := 0) G rfl (by decide +kernel) (kx_s_gR G kf_0_31 (by decide +kernel) (kx_s_iload_n (j := 1) G rfl (by decide +kernel) (kx_s_aR G rfl ka_103 (by decide +kernel) (kx_s_gB G kf_0_150 (by decide +kernel) (kx_s_ifne (off := 10) (tgt := 28) G (by decide +kernel) rfl (kx_s_iinc (n := 1) G (by decide +kernel) (by decide +kernel) (by decide) (kx_s_goto (off := -29) (tgt := 2) G (by decide +kernel) rfl (kx_s_nm (JS 2)))) (kx_s_aload_n (j := 0) G rfl (by decide +kernel) (kx_s_gR G kf_0_31 (by decide +kernel) (kx_s_iload_n (j := 1) G rfl (by decide +kernel) (kx_s_aR G rfl ka_103 (by decide +kernel) (kx_s_areturn G RT (by decide +kernel)))))))))))))))
theorem sm_46 (X : kx_X p l e R s m args below meth c s0 D cA 2 ι0 h0 rr hf prog_1_method_33_code "TaskDesk" C d (Option.some (Jvm.ClassFile.FieldType.object "TaskDesk$Channel")) "firstFreeChannel" J) (b : Nat) : kx_Sn p l e R s m args below meth c s0 D cA 2 ι0 h0 rr hf b (bm_46 d C b J) := by
  unfold bm_46
  cases h0 : Nat.beq b 0 with
  | true => rw [Nat.eq_of_beq_eq_true h0]; exact sk_46_0 X
  | false =>
   cases h2 : Nat.beq b 2 with
   | true => rw [Nat.eq_of_beq_eq_true h2]; exact sk_46_2 X
   | false =>
    exact kx_s_no
/-! TaskDesk.alarm(IJ)V -/
def bk_47_0 (d : Nat) (C : kx_C) (J : Nat → kx_F) : kx_F := (kx_la 0 (kx_li 1 (kx_Vr C 14 0 [0] 2 (kx_sa 4 (kx_la 4 (kx_nul (kx_nm [] (J 26)) (kx_ll 2 (kx_c (kx_l 0) (kx_lcmp (kx_iflt (kx_nm [] (J 26)) (kx_ll 2 (kx_c (kx_l 1000000000) (kx_lcmp (kx_ifle (kx_la 0 (kx_Vr C 24 0 [] 6 (kx_pop (kx_la 0 (kx_gI 0 7 (kx_c (kx_i 256) (kx_clt (kx_la 0 (kx_gR 0 6 1 (kx_la 0 (kx_gL 0 5 (kx_ll 2 (kx_jj (fun x y => x + y) (kx_c (kx_r 6 none) (kx_la 4 (kx_Vv C 43 1 [1, 8, 4] (kx_la 4 (kx_dup (kx_gI 2 7 (kx_c (kx_i 1) (kx_ii (fun x y => x + y) (kx_pI 2 7 (kx_la 0 (kx_dup (kx_gI 0 7 (kx_c (kx_i 1) (kx_ii (fun x y => x + y) (kx_pI 0 7 kx_rv))))))))))))))))))))) (kx_thd kx_cc kx_cs d 0)))))))) (kx_nm [] (J 26))))))))))))))))
def bk_47_26 (d : Nat) (C : kx_C) (J : Nat → kx_F) : kx_F := (kx_thd kx_cc kx_cs d 1)
def bm_47 (d : Nat) (C : kx_C) (b : Nat) (J : Nat → kx_F) : kx_F := bif Nat.beq b 0 then bk_47_0 d C J else bif Nat.beq b 26 then bk_47_26 d C J else fun _ _ _ => none
set_option maxRecDepth 20000 in
theorem sk_47_0 (X : kx_X p l e R s m args below meth c s0 D cA 5 ι0 h0 rr hf prog_1_method_8_code "TaskDesk" C d (Option.none : Option Jvm.ClassFile.FieldType) "alarm" J) : kx_Sn p l e R s m args below meth c s0 D cA 5 ι0 h0 rr hf 0 (bk_47_0 d C J) := by
  obtain ⟨G, CS, R9, O9, RT, NM, T0, FL, JS⟩ := X
  exact (kx_s_aload_n (j := 0) G rfl (by decide +kernel) (kx_s_iload_n (j := 1) G rfl (by decide +kernel) (kx_s_Vr (n := 14) G kx_good CS R9 (O9 _) kc_14 rfl kw_422 kw_424 kw_2 (r := kr_0) rfl (by decide) (by decide +kernel) (kx_s_astore G (by decide +kernel) (by decide) (kx_s_aload G (by decide +kernel) (kx_s_ifnull (off := 17) (tgt := 26) G (by decide +kernel) rfl (kx_s_nm (JS 26)) (kx_s_lload_n (j := 2) G rfl (by decide +kernel) (kx_s_lconst (i := 0) G (by decide +kernel) (by decide +kernel) (kx_s_lcmp G (by decide +kernel) (kx_s_iflt (off := 11) (tgt := 26) G (by decide +kernel) rfl (kx_s_nm (JS 26)) (kx_s_lload_n (j := 2) G rfl (by decide +kernel) (kx_s_ldc2 G kw_624 (by decide +kernel) (kx_s_lcmp G (by decide +kernel) (kx_s_ifle (off := 13) (tgt := 36) G (by decide +kernel) rfl (kx_s_aload_n (j := 0) G rfl (by decide +kernel) (kx_s_Vr (n := 24) G kx_good CS R9 (O9 _) kc_24 rfl kw_466 kw_468 kw_6 (r := kr_0) rfl (by decide) (by decide +kernel) (kx_s_pop G (by decide +kernel) (kx_s_aload_n (j := 0) G rfl (by decide +kernel) (kx_s_gI G kf_0_184 (by decide +kernel) (kx_s_sipush (i := 256) G (by decide +kernel) (by decide +kernel) (kx_s_clt (off := 13) (tgt := 61) G (by decide +kernel) rfl (kx_s_aload_n (j := 0) G rfl (by decide +kernel) (kx_s_gR G kf_0_25 (by decide +kernel) (kx_s_aload_n (j := 0) G rfl (by decide +kernel) (kx_s_gL G kf_0_131 (by decide +kernel) (kx_s_lload_n (j := 2) G rfl (by decide +kernel) (kx_s_ladd G (by decide +kernel) (kx_s_null G (by decide +kernel) (kx_s_aload G (by decide +kernel) (kx_s_Vv (n := 43) G kx_good CS R9 (O9 _) kc_43 rfl kw_641 kw_642 kw_643 (r := kr_1) rfl (by decide) (by decide +kernel) (kx_s_aload G (by decide +kernel) (kx_s_dup G (by decide +kernel) (kx_s_gI G kf_0_189 (by decide +kernel) (kx_s_iconst (i := 1) G (by decide +kernel) (by decide +kernel) (kx_s_iadd G (by decide +kernel) (kx_s_pI G kf_0_189 rfl (by decide +kernel) (by decide +kernel) (kx_s_aload_n (j := 0) G rfl (by decide +kernel) (kx_s_dup G (by decide +kernel) (kx_s_gI G kf_0_184 (by decide +kernel) (kx_s_iconst (i := 1) G (by decide +kernel) (by decide +kernel) (kx_s_iadd G (by decide +kernel) (kx_s_pI G kf_0_184 rfl (by decide +kernel) (by decide +kernel) (kx_s_return G RT (by decide +kernel))))))))))))))))))))))) (kx_s_thd (ic := 100) (ex := 0) (i9 := 96) (i8 := 187) (w := 2) G T0 FL R9 (by decide +kernel) (by decide +kernel) kw_470 kw_471 kw_93 kw_670 (by decide +kernel) (by decide +kernel) (Or.inl ⟨rfl, by decide +kernel⟩) (by decide +kernel) (by decide +kernel) O9)))))))) (kx_s_nm (JS 26))))))))))))))))
set_option maxRecDepth 20000 in
theorem sk_47_26 (X : kx_X p l e R s m args below meth c s0 D cA 5 ι0 h0 rr hf prog_1_method_8_code "TaskDesk" C d (Option.none : Option Jvm.ClassFile.FieldType) "alarm" J) : kx_Sn p l e R s m args below meth c s0 D cA 5 ι0 h0 rr hf 26 (bk_47_26 d C J) := by
  obtain ⟨G, CS, R9, O9, RT, NM, T0, FL, JS⟩ := X
  exact (kx_s_thd (ic := 130) (ex := 1) (i9 := 126) (i8 := 182) (w := 2) G T0 FL R9 (by decide +kernel) (by decide +kernel) kw_625 kw_626 kw_94 kw_669 (by decide +kernel) (by decide +kernel) (Or.inl ⟨rfl, by decide +kernel⟩) (by decide +kernel) (by decide +kernel) O9)
theorem sm_47 (X : kx_X p l e R s m args below meth c s0 D cA 5 ι0 h0 rr hf prog_1_method_8_code "TaskDesk" C d (Option.none : Option Jvm.ClassFile.FieldType) "alarm" J) (b : Nat) : kx_Sn p l e R s m args below meth c s0 D cA 5 ι0 h0 rr hf b (bm_47 d C b J) := by
  unfold bm_47
  cases h0 : Nat.beq b 0 with
  | true => rw [Nat.eq_of_beq_eq_true h0]; exact sk_47_0 X
  | false =>
   cases h26 : Nat.beq b 26 with
   | true => rw [Nat.eq_of_beq_eq_true h26]; exact sk_47_26 X
   | false =>
    exact kx_s_no
/-! TaskDesk.send(IJ)Z -/
def bk_48_0 (d : Nat) (C : kx_C) (J : Nat → kx_F) : kx_F := (kx_la 0 (kx_li 1 (kx_Vr C 49 0 [0] 2 (kx_sa 4 (kx_la 0 (kx_Vr C 24 0 [] 6 (kx_sa 5 (kx_la 4 (kx_gB 2 4 (kx_ifeq (kx_la 0 (kx_la 4 (kx_Vi C 33 0 [4] (kx_ifeq (kx_la 5 (kx_gR 6 1 4 (kx_ll 2 (kx_pL 4 3 (kx_la 5 (kx_la 4 (kx_gR 2 1 5 (kx_la 4 (kx_la 0 (kx_gR 0 9 2 (kx_ane (kx_c (kx_i 2) (kx_nm [0, 4] (J 89))) (kx_c (kx_i 7) (kx_nm [0, 4] (J 89)))))))))))))) (kx_la 0 (kx_la 4 (kx_ll 2 (kx_Vv C 34 0 [4, 1] (kx_la 5 (kx_c (kx_l 0) (kx_c (kx_i 1) (kx_c (kx_i (-1)) (kx_c (kx_i 0) (kx_Vv C 12 6 [1, 0, 0, 0] (kx_c (kx_i 1) kx_rz))))))))))))))) (kx_thd kx_cc kx_cs d 2)))))))))))
def bk_48_89 (d : Nat) (C : kx_C) (J : Nat → kx_F) : kx_F := (kx_la 4 (kx_gI 2 0 (kx_Vv C 27 6 [7, 0, 0] (kx_la 0 (kx_Vv C 30 0 [] (kx_c (kx_i 0) kx_rz))))))
def bm_48 (d : Nat) (C : kx_C) (b : Nat) (J : Nat → kx_F) : kx_F := bif Nat.beq b 0 then bk_48_0 d C J else bif Nat.beq b 89 then bk_48_89 d C J else fun _ _ _ => none
set_option maxRecDepth 20000 in
theorem sk_48_0 (X : kx_X p l e R s m args below meth c s0 D cA 6 ι0 h0 rr hf prog_1_method_9_code "TaskDesk" C d (Option.some Jvm.ClassFile.FieldType.boolean) "send" J) : kx_Sn p l e R s m args below meth c s0 D cA 6 ι0 h0 rr hf 0 (bk_48_0 d C J) := by
  obtain ⟨G, CS, R9, O9, RT, NM, T0, FL, JS⟩ := X
  exact (kx_s_aload_n (j := 0) G rfl (by decide +kernel) (kx_s_iload_n (j := 1) G rfl (by decide +kernel) (kx_s_Vr (n := 49) G kx_good CS R9 (O9 _) kc_49 rfl kw_679 kw_681 kw_20 (r := kr_0) rfl (by decide) (by decide +kernel) (kx_s_astore G (by decide +kernel) (by decide) (kx_s_aload_n (j := 0) G rfl (by decide +kernel) (kx_s_Vr (n := 24) G kx_good CS R9 (O9 _) kc_24 rfl kw_466 kw_468 kw_6 (r := kr_0) rfl (by decide) (by decide +kernel) (kx_s_astore G (by decide +kernel) (by decide) (kx_s_aload G (by decide +kernel) (kx_s_gB G kf_0_153 (by decide +kernel) (kx_s_ifeq (off := 13) (tgt := 31) G (by decide +kernel) rfl (kx_s_aload_n (j := 0) G rfl (by decide +kernel) (kx_s_aload G (by decide +kernel) (kx_s_Vi (n := 33) G kx_good CS R9 (O9 _) kc_33 rfl kw_575 kw_577 kw_12 (r := kr_0) rfl (by decide) (by decide +kernel) (kx_s_ifeq (off := 21) (tgt := 58) G (by decide +kernel) rfl (kx_s_aload G (by decide +kernel) (kx_s_gR G kf_0_211 (by decide +kernel) (kx_s_lload_n (j := 2) G rfl (by decide +kernel) (kx_s_pL G kf_0_215 rfl (by decide +kernel) (by decide +kernel) (kx_s_aload G (by decide +kernel) (kx_s_aload G (by decide +kernel) (kx_s_gR G kf_0_218 (by decide +kernel) (kx_s_aload G (by decide +kernel) (kx_s_aload_n (j := 0) G rfl (by decide +kernel) (kx_s_gR G kf_0_38 (by decide +kernel) (kx_s_ane (off := 8) (tgt := 88) G (by decide +kernel) rfl (kx_s_iconst (i := 2) G (by decide +kernel) (by decide +kernel) (kx_s_nm (JS 89))) (kx_s_bipush (i := 7) G (by decide +kernel) (by decide +kernel) (kx_s_goto (off := 4) (tgt := 89) G (by decide +kernel) rfl (kx_s_nm (JS 89))))))))))))))) (kx_s_aload_n (j := 0) G rfl (by decide +kernel) (kx_s_aload G (by decide +kernel) (kx_s_lload_n (j := 2) G rfl (by decide +kernel) (kx_s_Vv (n := 34) G kx_good CS R9 (O9 _) kc_34 rfl kw_579 kw_581 kw_13 (r := kr_0) rfl (by decide) (by decide +kernel) (kx_s_aload G (by decide +kernel) (kx_s_lconst (i := 0) G (by decide +kernel) (by decide +kernel) (kx_s_iconst (i := 1) G (by decide +kernel) (by decide +kernel) (kx_s_iconst (i := -1) G (by decide +kernel) (by decide +kernel) (kx_s_iconst (i := 0) G (by decide +kernel) (by decide +kernel) (kx_s_Vv (n := 12) G kx_good CS R9 (O9 _) kc_12 rfl kw_587 kw_360 kw_361 (r := kr_6) rfl (by decide) (by decide +kernel) (kx_s_iconst (i := 1) G (by decide +kernel) (by decide +kernel) (kx_s_zreturn G RT (by decide +kernel))))))))))))))))) (kx_s_thd (ic := 199) (ex := 2) (i9 := 195) (i8 := 197) (w := 2) G T0 FL R9 (by decide +kernel) (by decide +kernel) kw_684 kw_685 kw_95 kw_693 (by decide +kernel) (by decide +kernel) (Or.inl ⟨rfl, by decide +kernel⟩) (by decide +kernel) (by decide +kernel) O9)))))))))))
set_option maxRecDepth 20000 in
theorem sk_48_89 (X : kx_X p l e R s m args below meth c s0 D cA 6 ι0 h0 rr hf prog_1_method_9_code "TaskDesk" C d (Option.some Jvm.ClassFile.FieldType.boolean) "send" J) : kx_Sn p l e R s m args below meth c s0 D cA 6 ι0 h0 rr hf 89 (bk_48_89 d C J) := by
  obtain ⟨G, CS, R9, O9, RT, NM, T0, FL, JS⟩ := X
  exact (kx_s_aload G (by decide +kernel) (kx_s_gI G kf_0_162 (by decide +kernel) (kx_s_Vv (n := 27) G kx_good CS R9 (O9 _) kc_27 rfl kw_548 kw_549 kw_550 (r := kr_6) rfl (by decide) (by decide +kernel) (kx_s_aload_n (j := 0) G rfl (by decide +kernel) (kx_s_Vv (n := 30) G kx_good CS R9 (O9 _) kc_30 rfl kw_563 kw_565 kw_10 (r := kr_0) rfl (by decide) (by decide +kernel) (kx_s_iconst (i := 0) G (by decide +kernel) (by decide +kernel) (kx_s_zreturn G RT (by decide +kernel))))))))
theorem sm_48 (X : kx_X p l e R s m args below meth c s0 D cA 6 ι0 h0 rr hf prog_1_method_9_code "TaskDesk" C d (Option.some Jvm.ClassFile.FieldType.boolean) "send" J) (b : Nat) : kx_Sn p l e R s m args below meth c s0 D cA 6 ι0 h0 rr hf b (bm_48 d C b J) := by
  unfold bm_48
  cases h0 : Nat.beq b 0 with
  | true => rw [Nat.eq_of_beq_eq_true h0]; exact sk_48_0 X
  | false =>
   cases h89 : Nat.beq b 89 with
   | true => rw [Nat.eq_of_beq_eq_true h89]; exact sk_48_89 X
   | false =>
    exact kx_s_no
/-! TaskDesk.mustBeChannel(I)LTaskDesk$Channel; -/
def bk_49_0 (d : Nat) (C : kx_C) (J : Nat → kx_F) : kx_F := (kx_li 1 (kx_c (kx_i (-1)) (kx_cne (kx_la 0 (kx_li 1 (kx_Vr C 14 0 [0] 2 (kx_nm [] (J 17))))) (kx_la 0 (kx_gR 0 9 2 (kx_nm [] (J 17)))))))
def bk_49_17 (d : Nat) (C : kx_C) (J : Nat → kx_F) : kx_F := (kx_sa 2 (kx_la 2 (kx_nnul (kx_la 2 kx_rr) (kx_thd kx_cc kx_cs d 1))))
def bm_49 (d : Nat) (C : kx_C) (b : Nat) (J : Nat → kx_F) : kx_F := bif Nat.beq b 0 then bk_49_0 d C J else bif Nat.beq b 17 then bk_49_17 d C J else fun _ _ _ => none
set_option maxRecDepth 20000 in
theorem sk_49_0 (X : kx_X p l e R s m args below meth c s0 D cA 3 ι0 h0 rr hf prog_1_method_28_code "TaskDesk" C d (Option.some (Jvm.ClassFile.FieldType.object "TaskDesk$Channel")) "mustBeChannel" J) : kx_Sn p l e R s m args below meth c s0 D cA 3 ι0 h0 rr hf 0 (bk_49_0 d C J) := by
  obtain ⟨G, CS, R9, O9, RT, NM, T0, FL, JS⟩ := X
  exact (kx_s_iload_n (j := 1) G rfl (by decide +kernel) (kx_s_iconst (i := -1) G (by decide +kernel) (by decide +kernel) (kx_s_cne (off := 10) (tgt := 12) G (by decide +kernel) rfl (kx_s_aload_n (j := 0) G rfl (by decide +kernel) (kx_s_iload_n (j := 1) G rfl (by decide +kernel) (kx_s_Vr (n := 14) G kx_good CS R9 (O9 _) kc_14 rfl kw_422 kw_424 kw_2 (r := kr_0) rfl (by decide) (by decide +kernel) (kx_s_nm (JS 17))))) (kx_s_aload_n (j := 0) G rfl (by decide +kernel) (kx_s_gR G kf_0_38 (by decide +kernel) (kx_s_goto (off := 8) (tgt := 17) G (by decide +kernel) rfl (kx_s_nm (JS 17))))))))
set_option maxRecDepth 20000 in
theorem sk_49_17 (X : kx_X p l e R s m args below meth c s0 D cA 3 ι0 h0 rr hf prog_1_method_28_code "TaskDesk" C d (Option.some (Jvm.ClassFile.FieldType.object "TaskDesk$Channel")) "mustBeChannel" J) : kx_Sn p l e R s m args below meth c s0 D cA 3 ι0 h0 rr hf 17 (bk_49_17 d C J) := by
  obtain ⟨G, CS, R9, O9, RT, NM, T0, FL, JS⟩ := X
  exact (kx_s_astore_n (j := 2) G rfl (by decide +kernel) (by decide) (kx_s_aload_n (j := 2) G rfl (by decide +kernel) (kx_s_ifnonnull (off := 14) (tgt := 33) G (by decide +kernel) rfl (kx_s_aload_n (j := 2) G rfl (by decide +kernel) (kx_s_areturn G RT (by decide +kernel))) (kx_s_thd (ic := 130) (ex := 1) (i9 := 126) (i8 := 381) (w := 3) G T0 FL R9 (by decide +kernel) (by decide +kernel) kw_625 kw_626 kw_94 kw_683 (by decide +kernel) (by decide +kernel) (Or.inr ⟨rfl, by decide +kernel⟩) (by decide +kernel) (by decide +kernel) O9))))
theorem sm_49 (X : kx_X p l e R s m args below meth c s0 D cA 3 ι0 h0 rr hf prog_1_method_28_code "TaskDesk" C d (Option.some (Jvm.ClassFile.FieldType.object "TaskDesk$Channel")) "mustBeChannel" J) (b : Nat) : kx_Sn p l e R s m args below meth c s0 D cA 3 ι0 h0 rr hf b (bm_49 d C b J) := by
  unfold bm_49
  cases h0 : Nat.beq b 0 with
  | true => rw [Nat.eq_of_beq_eq_true h0]; exact sk_49_0 X
  | false =>
   cases h17 : Nat.beq b 17 with
   | true => rw [Nat.eq_of_beq_eq_true h17]; exact sk_49_17 X
   | false =>
    exact kx_s_no
/-! TaskDesk.receive(I)Z -/
def bk_50_0 (d : Nat) (C : kx_C) (J : Nat → kx_F) : kx_F := (kx_la 0 (kx_li 1 (kx_Vr C 49 0 [0] 2 (kx_sa 2 (kx_la 0 (kx_Vr C 24 0 [] 6 (kx_sa 3 (kx_la 0 (kx_la 2 (kx_Vi C 51 0 [4] (kx_ifeq (kx_la 3 (kx_la 2 (kx_gR 2 2 5 (kx_la 2 (kx_la 0 (kx_gR 0 9 2 (kx_ane (kx_c (kx_i 3) (kx_nm [0, 2] (J 47))) (kx_c (kx_i 7) (kx_nm [0, 2] (J 47)))))))))) (kx_la 0 (kx_la 3 (kx_la 2 (kx_c (kx_i (-1)) (kx_Vv C 52 0 [8, 4, 0] (kx_c (kx_i 1) kx_rz)))))))))))))))))
def bk_50_47 (d : Nat) (C : kx_C) (J : Nat → kx_F) : kx_F := (kx_la 2 (kx_gI 2 0 (kx_Vv C 27 6 [7, 0, 0] (kx_la 0 (kx_Vv C 30 0 [] (kx_c (kx_i 0) kx_rz))))))
def bm_50 (d : Nat) (C : kx_C) (b : Nat) (J : Nat → kx_F) : kx_F := bif Nat.beq b 0 then bk_50_0 d C J else bif Nat.beq b 47 then bk_50_47 d C J else fun _ _ _ => none
set_option maxRecDepth 20000 in
theorem sk_50_0 (X : kx_X p l e R s m args below meth c s0 D cA 4 ι0 h0 rr hf prog_1_method_10_code "TaskDesk" C d (Option.some Jvm.ClassFile.FieldType.boolean) "receive" J) : kx_Sn p l e R s m args below meth c s0 D cA 4 ι0 h0 rr hf 0 (bk_50_0 d C J) := by
  obtain ⟨G, CS, R9, O9, RT, NM, T0, FL, JS⟩ := X
  exact (kx_s_aload_n (j := 0) G rfl (by decide +kernel) (kx_s_iload_n (j := 1) G rfl (by decide +kernel) (kx_s_Vr (n := 49) G kx_good CS R9 (O9 _) kc_49 rfl kw_679 kw_681 kw_20 (r := kr_0) rfl (by decide) (by decide +kernel) (kx_s_astore_n (j := 2) G rfl (by decide +kernel) (by decide) (kx_s_aload_n (j := 0) G rfl (by decide +kernel) (kx_s_Vr (n := 24) G kx_good CS R9 (O9 _) kc_24 rfl kw_466 kw_468 kw_6 (r := kr_0) rfl (by decide) (by decide +kernel) (kx_s_astore_n (j := 3) G rfl (by decide +kernel) (by decide) (kx_s_aload_n (j := 0) G rfl (by decide +kernel) (kx_s_aload_n (j := 2) G rfl (by decide +kernel) (kx_s_Vi (n := 51) G kx_good CS R9 (O9 _) kc_51 rfl kw_707 kw_709 kw_21 (r := kr_0) rfl (by decide) (by decide +kernel) (kx_s_ifeq (off := 12) (tgt := 28) G (by decide +kernel) rfl (kx_s_aload_n (j := 3) G rfl (by decide +kernel) (kx_s_aload_n (j := 2) G rfl (by decide +kernel) (kx_s_gR G kf_0_232 (by decide +kernel) (kx_s_aload_n (j := 2) G rfl (by decide +kernel) (kx_s_aload_n (j := 0) G rfl (by decide +kernel) (kx_s_gR G kf_0_38 (by decide +kernel) (kx_s_ane (off := 8) (tgt := 46) G (by decide +kernel) rfl (kx_s_iconst (i := 3) G (by decide +kernel) (by decide +kernel) (kx_s_nm (JS 47))) (kx_s_bipush (i := 7) G (by decide +kernel) (by decide +kernel) (kx_s_goto (off := 4) (tgt := 47) G (by decide +kernel) rfl (kx_s_nm (JS 47))))))))))) (kx_s_aload_n (j := 0) G rfl (by decide +kernel) (kx_s_aload_n (j := 3) G rfl (by decide +kernel) (kx_s_aload_n (j := 2) G rfl (by decide +kernel) (kx_s_iconst (i := -1) G (by decide +kernel) (by decide +kernel) (kx_s_Vv (n := 52) G kx_good CS R9 (O9 _) kc_52 rfl kw_711 kw_713 kw_22 (r := kr_0) rfl (by decide) (by decide +kernel) (kx_s_iconst (i := 1) G (by decide +kernel) (by decide +kernel) (kx_s_zreturn G RT (by decide +kernel)))))))))))))))))))
set_option maxRecDepth 20000 in
theorem sk_50_47 (X : kx_X p l e R s m args below meth c s0 D cA 4 ι0 h0 rr hf prog_1_method_10_code "TaskDesk" C d (Option.some Jvm.ClassFile.FieldType.boolean) "receive" J) : kx_Sn p l e R s m args below meth c s0 D cA 4 ι0 h0 rr hf 47 (bk_50_47 d C J) := by
  obtain ⟨G, CS, R9, O9, RT, NM, T0, FL, JS⟩ := X
  exact (kx_s_aload_n (j := 2) G rfl (by decide +kernel) (kx_s_gI G kf_0_162 (by decide +kernel) (kx_s_Vv (n := 27) G kx_good CS R9 (O9 _) kc_27 rfl kw_548 kw_549 kw_550 (r := kr_6) rfl (by decide) (by decide +kernel) (kx_s_aload_n (j := 0) G rfl (by decide +kernel) (kx_s_Vv (n := 30) G kx_good CS R9 (O9 _) kc_30 rfl kw_563 kw_565 kw_10 (r := kr_0) rfl (by decide) (by decide +kernel) (kx_s_iconst (i := 0) G (by decide +kernel) (by decide +kernel) (kx_s_zreturn G RT (by decide +kernel))))))))
theorem sm_50 (X : kx_X p l e R s m args below meth c s0 D cA 4 ι0 h0 rr hf prog_1_method_10_code "TaskDesk" C d (Option.some Jvm.ClassFile.FieldType.boolean) "receive" J) (b : Nat) : kx_Sn p l e R s m args below meth c s0 D cA 4 ι0 h0 rr hf b (bm_50 d C b J) := by
  unfold bm_50
  cases h0 : Nat.beq b 0 with
  | true => rw [Nat.eq_of_beq_eq_true h0]; exact sk_50_0 X
  | false =>
   cases h47 : Nat.beq b 47 with
   | true => rw [Nat.eq_of_beq_eq_true h47]; exact sk_50_47 X
   | false =>
    exact kx_s_no
end KB
