section KB
variable {p : Program} {l : Launch} {e : Env} {R : Room} {s : State} {m : MethodId} {args : Array Value} {below : List Frame} {meth : Method} {c : Code} {s0 : State} {D : va_G} {cA : Nat → ClassId} {ι0 : Nat → Nat} {h0 hf : kx_H} {rr : kx_R} {C : kx_C} {d : Nat} {J : Nat → kx_F}
/-! TaskDeskModel.spawn()I -/
def bk_120_0 (d : Nat) (C : kx_C) (J : Nat → kx_F) : kx_F := (kx_la 0 (kx_c (kx_i 0) (kx_pI 9 0 (kx_c (kx_i 0) (kx_si 1 (kx_nm [0, 1] (J 7)))))))
def bk_120_7 (d : Nat) (C : kx_C) (J : Nat → kx_F) : kx_F := (kx_li 1 (kx_c (kx_i 256) (kx_cge (kx_nm [0, 1] (J 29)) (kx_la 0 (kx_gR 9 4 101 (kx_li 1 (kx_aB 101 (kx_ifeq (kx_nm [0, 1] (J 29)) (kx_inc 1 1 (kx_nm [0, 1] (J 7)))))))))))
def bk_120_29 (d : Nat) (C : kx_C) (J : Nat → kx_F) : kx_F := (kx_la 0 (kx_gI 9 1 (kx_iflt (kx_nm [0] (J 43)) (kx_li 1 (kx_c (kx_i 256) (kx_cne (kx_la 0 (kx_gR 9 4 101 (kx_li 1 (kx_c (kx_i 1) (kx_asB 101 (kx_la 0 (kx_li 1 (kx_c (kx_l 0) (kx_c (kx_i 0) (kx_c (kx_i (-1)) (kx_c (kx_i 0) (kx_Vv C 103 9 [0, 1, 0, 0, 0] (kx_la 0 (kx_li 1 (kx_Vv C 105 9 [0] (kx_li 1 kx_ri)))))))))))))))) (kx_nm [0] (J 43))))))))
def bk_120_43 (d : Nat) (C : kx_C) (J : Nat → kx_F) : kx_F := (kx_la 0 (kx_c (kx_i 1) (kx_Vi C 91 9 [0] kx_ri)))
def bm_120 (d : Nat) (C : kx_C) (b : Nat) (J : Nat → kx_F) : kx_F := bif Nat.beq b 0 then bk_120_0 d C J else bif Nat.beq b 7 then bk_120_7 d C J else bif Nat.beq b 29 then bk_120_29 d C J else bif Nat.beq b 43 then bk_120_43 d C J else fun _ _ _ => none
set_option maxRecDepth 20000 in
theorem sk_120_0 (X : kx_X p l e R s m args below meth c s0 D cA 2 ι0 h0 rr hf prog_11_method_33_code "TaskDeskModel" C d (Option.some Jvm.ClassFile.FieldType.int) "spawn" J) : kx_Sn p l e R s m args below meth c s0 D cA 2 ι0 h0 rr hf 0 (bk_120_0 d C J) := by
  obtain ⟨G, CS, R9, O9, RT, NM, T0, FL, JS⟩ := X
  exact (kx_s_aload_n (j := 0) G rfl (by decide +kernel) (kx_s_iconst (i := 0) G (by decide +kernel) (by decide +kernel) (kx_s_pI G kf_9_99 rfl (by decide +kernel) (by decide +kernel) (kx_s_iconst (i := 0) G (by decide +kernel) (by decide +kernel) (kx_s_istore_n (j := 1) G rfl (by decide +kernel) (by decide) (kx_s_nm (JS 7)))))))
set_option maxRecDepth 20000 in
theorem sk_120_7 (X : kx_X p l e R s m args below meth c s0 D cA 2 ι0 h0 rr hf prog_11_method_33_code "TaskDeskModel" C d (Option.some Jvm.ClassFile.FieldType.int) "spawn" J) : kx_Sn p l e R s m args below meth c s0 D cA 2 ι0 h0 rr hf 7 (bk_120_7 d C J) := by
  obtain ⟨G, CS, R9, O9, RT, NM, T0, FL, JS⟩ := X
  exact (kx_s_iload_n (j := 1) G rfl (by decide +kernel) (kx_s_sipush (i := 256) G (by decide +kernel) (by decide +kernel) (kx_s_cge (off := 18) (tgt := 29) G (by decide +kernel) rfl (kx_s_nm (JS 29)) (kx_s_aload_n (j := 0) G rfl (by decide +kernel) (kx_s_gR G kf_9_7 (by decide +kernel) (kx_s_iload_n (j := 1) G rfl (by decide +kernel) (kx_s_aB G ka_101 (by decide +kernel) (kx_s_ifeq (off := 9) (tgt := 29) G (by decide +kernel) rfl (kx_s_nm (JS 29)) (kx_s_iinc (n := 1) G (by decide +kernel) (by decide +kernel) (by decide) (kx_s_goto (off := -19) (tgt := 7) G (by decide +kernel) rfl (kx_s_nm (JS 7))))))))))))
set_option maxRecDepth 20000 in
theorem sk_120_29 (X : kx_X p l e R s m args below meth c s0 D cA 2 ι0 h0 rr hf prog_11_method_33_code "TaskDeskModel" C d (Option.some Jvm.ClassFile.FieldType.int) "spawn" J) : kx_Sn p l e R s m args below meth c s0 D cA 2 ι0 h0 rr hf 29 (bk_120_29 d C J) := by
  obtain ⟨G, CS, R9, O9, RT, NM, T0, FL, JS⟩ := X
  exact (kx_s_aload_n (j := 0) G rfl (by decide +kernel) (kx_s_gI G kf_9_106 (by decide +kernel) (kx_s_iflt (off := 10) (tgt := 43) G (by decide +kernel) rfl (kx_s_nm (JS 43)) (kx_s_iload_n (j := 1) G rfl (by decide +kernel) (kx_s_sipush (i := 256) G (by decide +kernel) (by decide +kernel) (kx_s_cne (off := 9) (tgt := 49) G (by decide +kernel) rfl (kx_s_aload_n (j := 0) G rfl (by decide +kernel) (kx_s_gR G kf_9_7 (by decide +kernel) (kx_s_iload_n (j := 1) G rfl (by decide +kernel) (kx_s_iconst (i := 1) G (by decide +kernel) (by decide +kernel) (kx_s_asB G ka_101 (by decide +kernel) (kx_s_aload_n (j := 0) G rfl (by decide +kernel) (kx_s_iload_n (j := 1) G rfl (by decide +kernel) (kx_s_lconst (i := 0) G (by decide +kernel) (by decide +kernel) (kx_s_iconst (i := 0) G (by decide +kernel) (by decide +kernel) (kx_s_iconst (i := -1) G (by decide +kernel) (by decide +kernel) (kx_s_iconst (i := 0) G (by decide +kernel) (by decide +kernel) (kx_s_Vv (n := 103) G kx_good CS R9 (O9 _) kc_103 rfl kw_1117 kw_1119 kw_50 (r := kr_9) rfl (by decide) (by decide +kernel) (kx_s_aload_n (j := 0) G rfl (by decide +kernel) (kx_s_iload_n (j := 1) G rfl (by decide +kernel) (kx_s_Vv (n := 105) G kx_good CS R9 (O9 _) kc_105 rfl kw_1125 kw_1127 kw_52 (r := kr_9) rfl (by decide) (by decide +kernel) (kx_s_iload_n (j := 1) G rfl (by decide +kernel) (kx_s_ireturn G RT (by decide +kernel)))))))))))))))))) (kx_s_nm (JS 43))))))))
set_option maxRecDepth 20000 in
theorem sk_120_43 (X : kx_X p l e R s m args below meth c s0 D cA 2 ι0 h0 rr hf prog_11_method_33_code "TaskDeskModel" C d (Option.some Jvm.ClassFile.FieldType.int) "spawn" J) : kx_Sn p l e R s m args below meth c s0 D cA 2 ι0 h0 rr hf 43 (bk_120_43 d C J) := by
  obtain ⟨G, CS, R9, O9, RT, NM, T0, FL, JS⟩ := X
  exact (kx_s_aload_n (j := 0) G rfl (by decide +kernel) (kx_s_iconst (i := 1) G (by decide +kernel) (by decide +kernel) (kx_s_Vi (n := 91) G kx_good CS R9 (O9 _) kc_91 rfl kw_1068 kw_1070 kw_41 (r := kr_9) rfl (by decide) (by decide +kernel) (kx_s_ireturn G RT (by decide +kernel)))))
theorem sm_120 (X : kx_X p l e R s m args below meth c s0 D cA 2 ι0 h0 rr hf prog_11_method_33_code "TaskDeskModel" C d (Option.some Jvm.ClassFile.FieldType.int) "spawn" J) (b : Nat) : kx_Sn p l e R s m args below meth c s0 D cA 2 ι0 h0 rr hf b (bm_120 d C b J) := by
  unfold bm_120
  cases h0 : Nat.beq b 0 with
  | true => rw [Nat.eq_of_beq_eq_true h0]; exact sk_120_0 X
  | false =>
   cases h7 : Nat.beq b 7 with
   | true => rw [Nat.eq_of_beq_eq_true h7]; exact sk_120_7 X
   | false =>
    cases h29 : Nat.beq b 29 with
    | true => rw [Nat.eq_of_beq_eq_true h29]; exact sk_120_29 X
    | false =>
     cases h43 : Nat.beq b 43 with
     | true => rw [Nat.eq_of_beq_eq_true h43]; exact sk_120_43 X
     | false =>
      exact kx_s_no
/-! TaskDeskModel.giveWay()I -/
def bk_121_0 (d : Nat) (C : kx_C) (J : Nat → kx_F) : kx_F := (kx_la 0 (kx_c (kx_i 0) (kx_pI 9 0 (kx_la 0 (kx_gI 9 1 (kx_ifge (kx_la 0 (kx_la 0 (kx_gI 9 1 (kx_Vv C 105 9 [0] (kx_la 0 (kx_Vv C 109 9 [] (kx_la 0 (kx_gI 9 1 kx_ri)))))))) (kx_la 0 (kx_c (kx_i 1) (kx_Vi C 91 9 [0] kx_ri)))))))))
def bm_121 (d : Nat) (C : kx_C) (b : Nat) (J : Nat → kx_F) : kx_F := bif Nat.beq b 0 then bk_121_0 d C J else fun _ _ _ => none
set_option maxRecDepth 20000 in
theorem sk_121_0 (X : kx_X p l e R s m args below meth c s0 D cA 1 ι0 h0 rr hf prog_11_method_34_code "TaskDeskModel" C d (Option.some Jvm.ClassFile.FieldType.int) "giveWay" J) : kx_Sn p l e R s m args below meth c s0 D cA 1 ι0 h0 rr hf 0 (bk_121_0 d C J) := by
  obtain ⟨G, CS, R9, O9, RT, NM, T0, FL, JS⟩ := X
  exact (kx_s_aload_n (j := 0) G rfl (by decide +kernel) (kx_s_iconst (i := 0) G (by decide +kernel) (by decide +kernel) (kx_s_pI G kf_9_99 rfl (by decide +kernel) (by decide +kernel) (kx_s_aload_n (j := 0) G rfl (by decide +kernel) (kx_s_gI G kf_9_106 (by decide +kernel) (kx_s_ifge (off := 9) (tgt := 18) G (by decide +kernel) rfl (kx_s_aload_n (j := 0) G rfl (by decide +kernel) (kx_s_aload_n (j := 0) G rfl (by decide +kernel) (kx_s_gI G kf_9_106 (by decide +kernel) (kx_s_Vv (n := 105) G kx_good CS R9 (O9 _) kc_105 rfl kw_1125 kw_1127 kw_52 (r := kr_9) rfl (by decide) (by decide +kernel) (kx_s_aload_n (j := 0) G rfl (by decide +kernel) (kx_s_Vv (n := 109) G kx_good CS R9 (O9 _) kc_109 rfl kw_1141 kw_1143 kw_56 (r := kr_9) rfl (by decide) (by decide +kernel) (kx_s_aload_n (j := 0) G rfl (by decide +kernel) (kx_s_gI G kf_9_106 (by decide +kernel) (kx_s_ireturn G RT (by decide +kernel)))))))))) (kx_s_aload_n (j := 0) G rfl (by decide +kernel) (kx_s_iconst (i := 1) G (by decide +kernel) (by decide +kernel) (kx_s_Vi (n := 91) G kx_good CS R9 (O9 _) kc_91 rfl kw_1068 kw_1070 kw_41 (r := kr_9) rfl (by decide) (by decide +kernel) (kx_s_ireturn G RT (by decide +kernel)))))))))))
theorem sm_121 (X : kx_X p l e R s m args below meth c s0 D cA 1 ι0 h0 rr hf prog_11_method_34_code "TaskDeskModel" C d (Option.some Jvm.ClassFile.FieldType.int) "giveWay" J) (b : Nat) : kx_Sn p l e R s m args below meth c s0 D cA 1 ι0 h0 rr hf b (bm_121 d C b J) := by
  unfold bm_121
  cases h0 : Nat.beq b 0 with
  | true => rw [Nat.eq_of_beq_eq_true h0]; exact sk_121_0 X
  | false =>
   exact kx_s_no
/-! TaskDeskModel.finish()I -/
def bk_122_0 (d : Nat) (C : kx_C) (J : Nat → kx_F) : kx_F := (kx_la 0 (kx_c (kx_i 0) (kx_pI 9 0 (kx_la 0 (kx_gI 9 1 (kx_ifge (kx_la 0 (kx_gR 9 4 101 (kx_la 0 (kx_gI 9 1 (kx_c (kx_i 0) (kx_asB 101 (kx_la 0 (kx_gI 9 1 (kx_ifle (kx_c (kx_i 0) (kx_si 1 (kx_nm [0, 1] (J 51)))) (kx_la 0 (kx_c (kx_i (-1)) (kx_pI 9 1 (kx_la 0 (kx_Vv C 109 9 [] (kx_la 0 (kx_gI 9 1 kx_ri)))))))))))))))) (kx_la 0 (kx_c (kx_i 1) (kx_Vi C 91 9 [0] kx_ri)))))))))
def bk_122_51 (d : Nat) (C : kx_C) (J : Nat → kx_F) : kx_F := (kx_li 1 (kx_c (kx_i 256) (kx_cge (kx_la 0 (kx_c (kx_i 0) (kx_pI 9 11 (kx_la 0 (kx_c (kx_i 0) (kx_pI 9 20 (kx_la 0 (kx_c (kx_i 0) (kx_pI 9 34 (kx_c (kx_i 0) (kx_si 1 (kx_c (kx_i 0) (kx_si 2 (kx_nm [0, 1, 2] (J 90))))))))))))))) (kx_la 0 (kx_gR 9 4 101 (kx_li 1 (kx_c (kx_i 0) (kx_asB 101 (kx_inc 1 1 (kx_nm [0, 1] (J 51)))))))))))
def bk_122_90 (d : Nat) (C : kx_C) (J : Nat → kx_F) : kx_F := (kx_li 2 (kx_la 0 (kx_gI 9 38 (kx_cge (kx_la 0 (kx_li 1 (kx_pI 9 38 (kx_la 0 (kx_c (kx_i (-1)) (kx_pI 9 1 (kx_la 0 (kx_c (kx_i 1) (kx_pI 9 2 (kx_c (kx_i (-1)) kx_ri)))))))))) (kx_la 0 (kx_gR 9 39 99 (kx_li 2 (kx_aI 99 (kx_iflt (kx_la 0 (kx_gR 9 39 99 (kx_li 1 (kx_la 0 (kx_gR 9 39 99 (kx_li 2 (kx_aI 99 (kx_asI 99 (kx_la 0 (kx_gR 9 40 100 (kx_li 1 (kx_la 0 (kx_gR 9 40 100 (kx_li 2 (kx_aL 100 (kx_asL 100 (kx_inc 1 1 (kx_nm [0, 1, 2] (J 137))))))))))))))))))) (kx_nm [0, 1, 2] (J 137)))))))))))
def bk_122_137 (d : Nat) (C : kx_C) (J : Nat → kx_F) : kx_F := (kx_inc 2 1 (kx_nm [0, 1, 2] (J 90)))
def bm_122 (d : Nat) (C : kx_C) (b : Nat) (J : Nat → kx_F) : kx_F := bif Nat.beq b 0 then bk_122_0 d C J else bif Nat.beq b 51 then bk_122_51 d C J else bif Nat.beq b 90 then bk_122_90 d C J else bif Nat.beq b 137 then bk_122_137 d C J else fun _ _ _ => none
set_option maxRecDepth 20000 in
theorem sk_122_0 (X : kx_X p l e R s m args below meth c s0 D cA 3 ι0 h0 rr hf prog_11_method_35_code "TaskDeskModel" C d (Option.some Jvm.ClassFile.FieldType.int) "finish" J) : kx_Sn p l e R s m args below meth c s0 D cA 3 ι0 h0 rr hf 0 (bk_122_0 d C J) := by
  obtain ⟨G, CS, R9, O9, RT, NM, T0, FL, JS⟩ := X
  exact (kx_s_aload_n (j := 0) G rfl (by decide +kernel) (kx_s_iconst (i := 0) G (by decide +kernel) (by decide +kernel) (kx_s_pI G kf_9_99 rfl (by decide +kernel) (by decide +kernel) (kx_s_aload_n (j := 0) G rfl (by decide +kernel) (kx_s_gI G kf_9_106 (by decide +kernel) (kx_s_ifge (off := 9) (tgt := 18) G (by decide +kernel) rfl (kx_s_aload_n (j := 0) G rfl (by decide +kernel) (kx_s_gR G kf_9_7 (by decide +kernel) (kx_s_aload_n (j := 0) G rfl (by decide +kernel) (kx_s_gI G kf_9_106 (by decide +kernel) (kx_s_iconst (i := 0) G (by decide +kernel) (by decide +kernel) (kx_s_asB G ka_101 (by decide +kernel) (kx_s_aload_n (j := 0) G rfl (by decide +kernel) (kx_s_gI G kf_9_106 (by decide +kernel) (kx_s_ifle (off := 17) (tgt := 49) G (by decide +kernel) rfl (kx_s_iconst (i := 0) G (by decide +kernel) (by decide +kernel) (kx_s_istore_n (j := 1) G rfl (by decide +kernel) (by decide) (kx_s_nm (JS 51)))) (kx_s_aload_n (j := 0) G rfl (by decide +kernel) (kx_s_iconst (i := -1) G (by decide +kernel) (by decide +kernel) (kx_s_pI G kf_9_106 rfl (by decide +kernel) (by decide +kernel) (kx_s_aload_n (j := 0) G rfl (by decide +kernel) (kx_s_Vv (n := 109) G kx_good CS R9 (O9 _) kc_109 rfl kw_1141 kw_1143 kw_56 (r := kr_9) rfl (by decide) (by decide +kernel) (kx_s_aload_n (j := 0) G rfl (by decide +kernel) (kx_s_gI G kf_9_106 (by decide +kernel) (kx_s_ireturn G RT (by decide +kernel)))))))))))))))))) (kx_s_aload_n (j := 0) G rfl (by decide +kernel) (kx_s_iconst (i := 1) G (by decide +kernel) (by decide +kernel) (kx_s_Vi (n := 91) G kx_good CS R9 (O9 _) kc_91 rfl kw_1068 kw_1070 kw_41 (r := kr_9) rfl (by decide) (by decide +kernel) (kx_s_ireturn G RT (by decide +kernel)))))))))))
set_option maxRecDepth 20000 in
theorem sk_122_51 (X : kx_X p l e R s m args below meth c s0 D cA 3 ι0 h0 rr hf prog_11_method_35_code "TaskDeskModel" C d (Option.some Jvm.ClassFile.FieldType.int) "finish" J) : kx_Sn p l e R s m args below meth c s0 D cA 3 ι0 h0 rr hf 51 (bk_122_51 d C J) := by
  obtain ⟨G, CS, R9, O9, RT, NM, T0, FL, JS⟩ := X
  exact (kx_s_iload_n (j := 1) G rfl (by decide +kernel) (kx_s_sipush (i := 256) G (by decide +kernel) (by decide +kernel) (kx_s_cge (off := 16) (tgt := 71) G (by decide +kernel) rfl (kx_s_aload_n (j := 0) G rfl (by decide +kernel) (kx_s_iconst (i := 0) G (by decide +kernel) (by decide +kernel) (kx_s_pI G kf_9_103 rfl (by decide +kernel) (by decide +kernel) (kx_s_aload_n (j := 0) G rfl (by decide +kernel) (kx_s_iconst (i := 0) G (by decide +kernel) (by decide +kernel) (kx_s_pI G kf_9_149 rfl (by decide +kernel) (by decide +kernel) (kx_s_aload_n (j := 0) G rfl (by decide +kernel) (kx_s_iconst (i := 0) G (by decide +kernel) (by decide +kernel) (kx_s_pI G kf_9_211 rfl (by decide +kernel) (by decide +kernel) (kx_s_iconst (i := 0) G (by decide +kernel) (by decide +kernel) (kx_s_istore_n (j := 1) G rfl (by decide +kernel) (by decide) (kx_s_iconst (i := 0) G (by decide +kernel) (by decide +kernel) (kx_s_istore_n (j := 2) G rfl (by decide +kernel) (by decide) (kx_s_nm (JS 90))))))))))))))) (kx_s_aload_n (j := 0) G rfl (by decide +kernel) (kx_s_gR G kf_9_7 (by decide +kernel) (kx_s_iload_n (j := 1) G rfl (by decide +kernel) (kx_s_iconst (i := 0) G (by decide +kernel) (by decide +kernel) (kx_s_asB G ka_101 (by decide +kernel) (kx_s_iinc (n := 1) G (by decide +kernel) (by decide +kernel) (by decide) (kx_s_goto (off := -17) (tgt := 51) G (by decide +kernel) rfl (kx_s_nm (JS 51))))))))))))
set_option maxRecDepth 20000 in
theorem sk_122_90 (X : kx_X p l e R s m args below meth c s0 D cA 3 ι0 h0 rr hf prog_11_method_35_code "TaskDeskModel" C d (Option.some Jvm.ClassFile.FieldType.int) "finish" J) : kx_Sn p l e R s m args below meth c s0 D cA 3 ι0 h0 rr hf 90 (bk_122_90 d C J) := by
  obtain ⟨G, CS, R9, O9, RT, NM, T0, FL, JS⟩ := X
  exact (kx_s_iload_n (j := 2) G rfl (by decide +kernel) (kx_s_aload_n (j := 0) G rfl (by decide +kernel) (kx_s_gI G kf_9_112 (by decide +kernel) (kx_s_cge (off := 48) (tgt := 143) G (by decide +kernel) rfl (kx_s_aload_n (j := 0) G rfl (by decide +kernel) (kx_s_iload_n (j := 1) G rfl (by decide +kernel) (kx_s_pI G kf_9_112 rfl (by decide +kernel) (by decide +kernel) (kx_s_aload_n (j := 0) G rfl (by decide +kernel) (kx_s_iconst (i := -1) G (by decide +kernel) (by decide +kernel) (kx_s_pI G kf_9_106 rfl (by decide +kernel) (by decide +kernel) (kx_s_aload_n (j := 0) G rfl (by decide +kernel) (kx_s_iconst (i := 1) G (by decide +kernel) (by decide +kernel) (kx_s_pI G kf_9_118 rfl (by decide +kernel) (by decide +kernel) (kx_s_iconst (i := -1) G (by decide +kernel) (by decide +kernel) (kx_s_ireturn G RT (by decide +kernel)))))))))))) (kx_s_aload_n (j := 0) G rfl (by decide +kernel) (kx_s_gR G kf_9_93 (by decide +kernel) (kx_s_iload_n (j := 2) G rfl (by decide +kernel) (kx_s_aI G ka_99 (by decide +kernel) (kx_s_iflt (off := 6) (tgt := 110) G (by decide +kernel) rfl (kx_s_aload_n (j := 0) G rfl (by decide +kernel) (kx_s_gR G kf_9_93 (by decide +kernel) (kx_s_iload_n (j := 1) G rfl (by decide +kernel) (kx_s_aload_n (j := 0) G rfl (by decide +kernel) (kx_s_gR G kf_9_93 (by decide +kernel) (kx_s_iload_n (j := 2) G rfl (by decide +kernel) (kx_s_aI G ka_99 (by decide +kernel) (kx_s_asI G ka_99 (by decide +kernel) (kx_s_aload_n (j := 0) G rfl (by decide +kernel) (kx_s_gR G kf_9_96 (by decide +kernel) (kx_s_iload_n (j := 1) G rfl (by decide +kernel) (kx_s_aload_n (j := 0) G rfl (by decide +kernel) (kx_s_gR G kf_9_96 (by decide +kernel) (kx_s_iload_n (j := 2) G rfl (by decide +kernel) (kx_s_aL G ka_100 (by decide +kernel) (kx_s_asL G ka_100 (by decide +kernel) (kx_s_iinc (n := 1) G (by decide +kernel) (by decide +kernel) (by decide) (kx_s_nm (JS 137))))))))))))))))))) (kx_s_goto (off := 30) (tgt := 137) G (by decide +kernel) rfl (kx_s_nm (JS 137))))))))))))
set_option maxRecDepth 20000 in
theorem sk_122_137 (X : kx_X p l e R s m args below meth c s0 D cA 3 ι0 h0 rr hf prog_11_method_35_code "TaskDeskModel" C d (Option.some Jvm.ClassFile.FieldType.int) "finish" J) : kx_Sn p l e R s m args below meth c s0 D cA 3 ι0 h0 rr hf 137 (bk_122_137 d C J) := by
  obtain ⟨G, CS, R9, O9, RT, NM, T0, FL, JS⟩ := X
  exact (kx_s_iinc (n := 1) G (by decide +kernel) (by decide +kernel) (by decide) (kx_s_goto (off := -50) (tgt := 90) G (by decide +kernel) rfl (kx_s_nm (JS 90))))
theorem sm_122 (X : kx_X p l e R s m args below meth c s0 D cA 3 ι0 h0 rr hf prog_11_method_35_code "TaskDeskModel" C d (Option.some Jvm.ClassFile.FieldType.int) "finish" J) (b : Nat) : kx_Sn p l e R s m args below meth c s0 D cA 3 ι0 h0 rr hf b (bm_122 d C b J) := by
  unfold bm_122
  cases h0 : Nat.beq b 0 with
  | true => rw [Nat.eq_of_beq_eq_true h0]; exact sk_122_0 X
  | false =>
   cases h51 : Nat.beq b 51 with
   | true => rw [Nat.eq_of_beq_eq_true h51]; exact sk_122_51 X
   | false =>
    cases h90 : Nat.beq b 90 with
    | true => rw [Nat.eq_of_beq_eq_true h90]; exact sk_122_90 X
    | false =>
     cases h137 : Nat.beq b 137 with
     | true => rw [Nat.eq_of_beq_eq_true h137]; exact sk_122_137 X
     | false =>
      exact kx_s_no
/-! TaskDeskModel.sleep(J)I -/
def bk_123_0 (d : Nat) (C : kx_C) (J : Nat → kx_F) : kx_F := (kx_la 0 (kx_c (kx_i 0) (kx_pI 9 0 (kx_ll 1 (kx_c (kx_l 1000000000) (kx_lcmp (kx_ifle (kx_la 0 (kx_gI 9 1 (kx_ifge (kx_ll 1 (kx_c (kx_l 0) (kx_lcmp (kx_ifgt (kx_la 0 (kx_gR 9 39 99 (kx_la 0 (kx_gI 9 38 (kx_la 0 (kx_gI 9 1 (kx_asI 99 (kx_la 0 (kx_gR 9 40 100 (kx_la 0 (kx_gI 9 38 (kx_la 0 (kx_gL 9 3 (kx_ll 1 (kx_jj (fun x y => x + y) (kx_asL 100 (kx_la 0 (kx_dup (kx_gI 9 38 (kx_c (kx_i 1) (kx_ii (fun x y => x + y) (kx_pI 9 38 (kx_la 0 (kx_c (kx_i 5) (kx_c (kx_i (-1)) (kx_Vv C 108 9 [0, 0] (kx_la 0 (kx_gI 9 1 kx_ri)))))))))))))))))))))))))))) (kx_la 0 (kx_Vi C 121 9 [] kx_ri)))))) (kx_la 0 (kx_c (kx_i 2) (kx_Vi C 91 9 [0] kx_ri)))))) (kx_la 0 (kx_c (kx_i 1) (kx_Vi C 91 9 [0] kx_ri))))))))))
def bm_123 (d : Nat) (C : kx_C) (b : Nat) (J : Nat → kx_F) : kx_F := bif Nat.beq b 0 then bk_123_0 d C J else fun _ _ _ => none
set_option maxRecDepth 20000 in
theorem sk_123_0 (X : kx_X p l e R s m args below meth c s0 D cA 3 ι0 h0 rr hf prog_11_method_36_code "TaskDeskModel" C d (Option.some Jvm.ClassFile.FieldType.int) "sleep" J) : kx_Sn p l e R s m args below meth c s0 D cA 3 ι0 h0 rr hf 0 (bk_123_0 d C J) := by
  obtain ⟨G, CS, R9, O9, RT, NM, T0, FL, JS⟩ := X
  exact (kx_s_aload_n (j := 0) G rfl (by decide +kernel) (kx_s_iconst (i := 0) G (by decide +kernel) (by decide +kernel) (kx_s_pI G kf_9_99 rfl (by decide +kernel) (by decide +kernel) (kx_s_lload_n (j := 1) G rfl (by decide +kernel) (kx_s_ldc2 G kw_1096 (by decide +kernel) (kx_s_lcmp G (by decide +kernel) (kx_s_ifle (off := 9) (tgt := 19) G (by decide +kernel) rfl (kx_s_aload_n (j := 0) G rfl (by decide +kernel) (kx_s_gI G kf_9_106 (by decide +kernel) (kx_s_ifge (off := 9) (tgt := 32) G (by decide +kernel) rfl (kx_s_lload_n (j := 1) G rfl (by decide +kernel) (kx_s_lconst (i := 0) G (by decide +kernel) (by decide +kernel) (kx_s_lcmp G (by decide +kernel) (kx_s_ifgt (off := 8) (tgt := 43) G (by decide +kernel) rfl (kx_s_aload_n (j := 0) G rfl (by decide +kernel) (kx_s_gR G kf_9_93 (by decide +kernel) (kx_s_aload_n (j := 0) G rfl (by decide +kernel) (kx_s_gI G kf_9_112 (by decide +kernel) (kx_s_aload_n (j := 0) G rfl (by decide +kernel) (kx_s_gI G kf_9_106 (by decide +kernel) (kx_s_asI G ka_99 (by decide +kernel) (kx_s_aload_n (j := 0) G rfl (by decide +kernel) (kx_s_gR G kf_9_96 (by decide +kernel) (kx_s_aload_n (j := 0) G rfl (by decide +kernel) (kx_s_gI G kf_9_112 (by decide +kernel) (kx_s_aload_n (j := 0) G rfl (by decide +kernel) (kx_s_gL G kf_9_121 (by decide +kernel) (kx_s_lload_n (j := 1) G rfl (by decide +kernel) (kx_s_ladd G (by decide +kernel) (kx_s_asL G ka_100 (by decide +kernel) (kx_s_aload_n (j := 0) G rfl (by decide +kernel) (kx_s_dup G (by decide +kernel) (kx_s_gI G kf_9_112 (by decide +kernel) (kx_s_iconst (i := 1) G (by decide +kernel) (by decide +kernel) (kx_s_iadd G (by decide +kernel) (kx_s_pI G kf_9_112 rfl (by decide +kernel) (by decide +kernel) (kx_s_aload_n (j := 0) G rfl (by decide +kernel) (kx_s_iconst (i := 5) G (by decide +kernel) (by decide +kernel) (kx_s_iconst (i := -1) G (by decide +kernel) (by decide +kernel) (kx_s_Vv (n := 108) G kx_good CS R9 (O9 _) kc_108 rfl kw_1137 kw_1139 kw_55 (r := kr_9) rfl (by decide) (by decide +kernel) (kx_s_aload_n (j := 0) G rfl (by decide +kernel) (kx_s_gI G kf_9_106 (by decide +kernel) (kx_s_ireturn G RT (by decide +kernel)))))))))))))))))))))))))))))) (kx_s_aload_n (j := 0) G rfl (by decide +kernel) (kx_s_Vi (n := 121) G kx_good CS R9 (O9 _) kc_121 rfl kw_1201 kw_1190 kw_1191 (r := kr_9) rfl (by decide) (by decide +kernel) (kx_s_ireturn G RT (by decide +kernel)))))))) (kx_s_aload_n (j := 0) G rfl (by decide +kernel) (kx_s_iconst (i := 2) G (by decide +kernel) (by decide +kernel) (kx_s_Vi (n := 91) G kx_good CS R9 (O9 _) kc_91 rfl kw_1068 kw_1070 kw_41 (r := kr_9) rfl (by decide) (by decide +kernel) (kx_s_ireturn G RT (by decide +kernel)))))))) (kx_s_aload_n (j := 0) G rfl (by decide +kernel) (kx_s_iconst (i := 1) G (by decide +kernel) (by decide +kernel) (kx_s_Vi (n := 91) G kx_good CS R9 (O9 _) kc_91 rfl kw_1068 kw_1070 kw_41 (r := kr_9) rfl (by decide) (by decide +kernel) (kx_s_ireturn G RT (by decide +kernel))))))))))))
theorem sm_123 (X : kx_X p l e R s m args below meth c s0 D cA 3 ι0 h0 rr hf prog_11_method_36_code "TaskDeskModel" C d (Option.some Jvm.ClassFile.FieldType.int) "sleep" J) (b : Nat) : kx_Sn p l e R s m args below meth c s0 D cA 3 ι0 h0 rr hf b (bm_123 d C b J) := by
  unfold bm_123
  cases h0 : Nat.beq b 0 with
  | true => rw [Nat.eq_of_beq_eq_true h0]; exact sk_123_0 X
  | false =>
   exact kx_s_no
/-! TaskDeskModel.gate(II)I -/
def bk_124_0 (d : Nat) (C : kx_C) (J : Nat → kx_F) : kx_F := (kx_la 0 (kx_c (kx_i 0) (kx_pI 9 0 (kx_li 1 (kx_iflt (kx_nm [0] (J 36)) (kx_li 1 (kx_c (kx_i 4) (kx_cgt (kx_nm [0] (J 36)) (kx_li 1 (kx_c (kx_i 3) (kx_cne (kx_nm [0, 1, 2] (J 42)) (kx_la 0 (kx_li 2 (kx_Vi C 125 9 [0] (kx_ifeq (kx_nm [0] (J 36)) (kx_la 0 (kx_gR 9 31 99 (kx_li 2 (kx_aI 99 (kx_ifeq (kx_nm [0, 1, 2] (J 42)) (kx_nm [0] (J 36))))))))))))))))))))))
def bk_124_36 (d : Nat) (C : kx_C) (J : Nat → kx_F) : kx_F := (kx_la 0 (kx_c (kx_i 1) (kx_Vi C 91 9 [0] kx_ri)))
def bk_124_42 (d : Nat) (C : kx_C) (J : Nat → kx_F) : kx_F := (kx_la 0 (kx_gI 9 30 (kx_c (kx_i 256) (kx_cne (kx_la 0 (kx_gR 9 31 99 (kx_la 0 (kx_gI 9 30 (kx_li 1 (kx_asI 99 (kx_la 0 (kx_gR 9 33 99 (kx_la 0 (kx_gI 9 30 (kx_li 2 (kx_asI 99 (kx_la 0 (kx_gR 9 32 99 (kx_la 0 (kx_gI 9 30 (kx_c (kx_i 0) (kx_asI 99 (kx_la 0 (kx_dup (kx_gI 9 30 (kx_c (kx_i 1) (kx_ii (fun x y => x + y) (kx_pI 9 30 (kx_la 0 (kx_gI 9 30 (kx_c (kx_i 1) (kx_ii (fun x y => x - y) kx_ri)))))))))))))))))))))))))))) (kx_la 0 (kx_c (kx_i 2) (kx_Vi C 91 9 [0] kx_ri)))))))
def bm_124 (d : Nat) (C : kx_C) (b : Nat) (J : Nat → kx_F) : kx_F := bif Nat.beq b 0 then bk_124_0 d C J else bif Nat.beq b 36 then bk_124_36 d C J else bif Nat.beq b 42 then bk_124_42 d C J else fun _ _ _ => none
set_option maxRecDepth 20000 in
theorem sk_124_0 (X : kx_X p l e R s m args below meth c s0 D cA 3 ι0 h0 rr hf prog_11_method_38_code "TaskDeskModel" C d (Option.some Jvm.ClassFile.FieldType.int) "gate" J) : kx_Sn p l e R s m args below meth c s0 D cA 3 ι0 h0 rr hf 0 (bk_124_0 d C J) := by
  obtain ⟨G, CS, R9, O9, RT, NM, T0, FL, JS⟩ := X
  exact (kx_s_aload_n (j := 0) G rfl (by decide +kernel) (kx_s_iconst (i := 0) G (by decide +kernel) (by decide +kernel) (kx_s_pI G kf_9_99 rfl (by decide +kernel) (by decide +kernel) (kx_s_iload_n (j := 1) G rfl (by decide +kernel) (kx_s_iflt (off := 30) (tgt := 36) G (by decide +kernel) rfl (kx_s_nm (JS 36)) (kx_s_iload_n (j := 1) G rfl (by decide +kernel) (kx_s_iconst (i := 4) G (by decide +kernel) (by decide +kernel) (kx_s_cgt (off := 25) (tgt := 36) G (by decide +kernel) rfl (kx_s_nm (JS 36)) (kx_s_iload_n (j := 1) G rfl (by decide +kernel) (kx_s_iconst (i := 3) G (by decide +kernel) (by decide +kernel) (kx_s_cne (off := 26) (tgt := 42) G (by decide +kernel) rfl (kx_s_nm (JS 42)) (kx_s_aload_n (j := 0) G rfl (by decide +kernel) (kx_s_iload_n (j := 2) G rfl (by decide +kernel) (kx_s_Vi (n := 125) G kx_good CS R9 (O9 _) kc_125 rfl kw_1206 kw_1208 kw_63 (r := kr_9) rfl (by decide) (by decide +kernel) (kx_s_ifeq (off := 12) (tgt := 36) G (by decide +kernel) rfl (kx_s_nm (JS 36)) (kx_s_aload_n (j := 0) G rfl (by decide +kernel) (kx_s_gR G kf_9_75 (by decide +kernel) (kx_s_iload_n (j := 2) G rfl (by decide +kernel) (kx_s_aI G ka_99 (by decide +kernel) (kx_s_ifeq (off := 9) (tgt := 42) G (by decide +kernel) rfl (kx_s_nm (JS 42)) (kx_s_nm (JS 36))))))))))))))))))))))
set_option maxRecDepth 20000 in
theorem sk_124_36 (X : kx_X p l e R s m args below meth c s0 D cA 3 ι0 h0 rr hf prog_11_method_38_code "TaskDeskModel" C d (Option.some Jvm.ClassFile.FieldType.int) "gate" J) : kx_Sn p l e R s m args below meth c s0 D cA 3 ι0 h0 rr hf 36 (bk_124_36 d C J) := by
  obtain ⟨G, CS, R9, O9, RT, NM, T0, FL, JS⟩ := X
  exact (kx_s_aload_n (j := 0) G rfl (by decide +kernel) (kx_s_iconst (i := 1) G (by decide +kernel) (by decide +kernel) (kx_s_Vi (n := 91) G kx_good CS R9 (O9 _) kc_91 rfl kw_1068 kw_1070 kw_41 (r := kr_9) rfl (by decide) (by decide +kernel) (kx_s_ireturn G RT (by decide +kernel)))))
set_option maxRecDepth 20000 in
theorem sk_124_42 (X : kx_X p l e R s m args below meth c s0 D cA 3 ι0 h0 rr hf prog_11_method_38_code "TaskDeskModel" C d (Option.some Jvm.ClassFile.FieldType.int) "gate" J) : kx_Sn p l e R s m args below meth c s0 D cA 3 ι0 h0 rr hf 42 (bk_124_42 d C J) := by
  obtain ⟨G, CS, R9, O9, RT, NM, T0, FL, JS⟩ := X
  exact (kx_s_aload_n (j := 0) G rfl (by decide +kernel) (kx_s_gI G kf_9_218 (by decide +kernel) (kx_s_sipush (i := 256) G (by decide +kernel) (by decide +kernel) (kx_s_cne (off := 9) (tgt := 58) G (by decide +kernel) rfl (kx_s_aload_n (j := 0) G rfl (by decide +kernel) (kx_s_gR G kf_9_75 (by decide +kernel) (kx_s_aload_n (j := 0) G rfl (by decide +kernel) (kx_s_gI G kf_9_218 (by decide +kernel) (kx_s_iload_n (j := 1) G rfl (by decide +kernel) (kx_s_asI G ka_99 (by decide +kernel) (kx_s_aload_n (j := 0) G rfl (by decide +kernel) (kx_s_gR G kf_9_81 (by decide +kernel) (kx_s_aload_n (j := 0) G rfl (by decide +kernel) (kx_s_gI G kf_9_218 (by decide +kernel) (kx_s_iload_n (j := 2) G rfl (by decide +kernel) (kx_s_asI G ka_99 (by decide +kernel) (kx_s_aload_n (j := 0) G rfl (by decide +kernel) (kx_s_gR G kf_9_78 (by decide +kernel) (kx_s_aload_n (j := 0) G rfl (by decide +kernel) (kx_s_gI G kf_9_218 (by decide +kernel) (kx_s_iconst (i := 0) G (by decide +kernel) (by decide +kernel) (kx_s_asI G ka_99 (by decide +kernel) (kx_s_aload_n (j := 0) G rfl (by decide +kernel) (kx_s_dup G (by decide +kernel) (kx_s_gI G kf_9_218 (by decide +kernel) (kx_s_iconst (i := 1) G (by decide +kernel) (by decide +kernel) (kx_s_iadd G (by decide +kernel) (kx_s_pI G kf_9_218 rfl (by decide +kernel) (by decide +kernel) (kx_s_aload_n (j := 0) G rfl (by decide +kernel) (kx_s_gI G kf_9_218 (by decide +kernel) (kx_s_iconst (i := 1) G (by decide +kernel) (by decide +kernel) (kx_s_isub G (by decide +kernel) (kx_s_ireturn G RT (by decide +kernel)))))))))))))))))))))))))))))) (kx_s_aload_n (j := 0) G rfl (by decide +kernel) (kx_s_iconst (i := 2) G (by decide +kernel) (by decide +kernel) (kx_s_Vi (n := 91) G kx_good CS R9 (O9 _) kc_91 rfl kw_1068 kw_1070 kw_41 (r := kr_9) rfl (by decide) (by decide +kernel) (kx_s_ireturn G RT (by decide +kernel)))))))))
theorem sm_124 (X : kx_X p l e R s m args below meth c s0 D cA 3 ι0 h0 rr hf prog_11_method_38_code "TaskDeskModel" C d (Option.some Jvm.ClassFile.FieldType.int) "gate" J) (b : Nat) : kx_Sn p l e R s m args below meth c s0 D cA 3 ι0 h0 rr hf b (bm_124 d C b J) := by
  unfold bm_124
  cases h0 : Nat.beq b 0 with
  | true => rw [Nat.eq_of_beq_eq_true h0]; exact sk_124_0 X
  | false =>
   cases h36 : Nat.beq b 36 with
   | true => rw [Nat.eq_of_beq_eq_true h36]; exact sk_124_36 X
   | false =>
    cases h42 : Nat.beq b 42 with
    | true => rw [Nat.eq_of_beq_eq_true h42]; exact sk_124_42 X
    | false =>
     exact kx_s_no
/-! TaskDeskModel.isGate(I)Z -/
def bk_125_0 (d : Nat) (C : kx_C) (J : Nat → kx_F) : kx_F := (kx_li 1 (kx_iflt (kx_nm [] (J 16)) (kx_li 1 (kx_la 0 (kx_gI 9 30 (kx_cge (kx_nm [] (J 16)) (kx_c (kx_i 1) (kx_nm [] (J 17)))))))))
def bk_125_16 (d : Nat) (C : kx_C) (J : Nat → kx_F) : kx_F := (kx_c (kx_i 0) (kx_nm [] (J 17)))
def bk_125_17 (d : Nat) (C : kx_C) (J : Nat → kx_F) : kx_F := kx_rz
def bm_125 (d : Nat) (C : kx_C) (b : Nat) (J : Nat → kx_F) : kx_F := bif Nat.beq b 0 then bk_125_0 d C J else bif Nat.beq b 16 then bk_125_16 d C J else bif Nat.beq b 17 then bk_125_17 d C J else fun _ _ _ => none
set_option maxRecDepth 20000 in
theorem sk_125_0 (X : kx_X p l e R s m args below meth c s0 D cA 2 ι0 h0 rr hf prog_11_method_37_code "TaskDeskModel" C d (Option.some Jvm.ClassFile.FieldType.boolean) "isGate" J) : kx_Sn p l e R s m args below meth c s0 D cA 2 ι0 h0 rr hf 0 (bk_125_0 d C J) := by
  obtain ⟨G, CS, R9, O9, RT, NM, T0, FL, JS⟩ := X
  exact (kx_s_iload_n (j := 1) G rfl (by decide +kernel) (kx_s_iflt (off := 15) (tgt := 16) G (by decide +kernel) rfl (kx_s_nm (JS 16)) (kx_s_iload_n (j := 1) G rfl (by decide +kernel) (kx_s_aload_n (j := 0) G rfl (by decide +kernel) (kx_s_gI G kf_9_218 (by decide +kernel) (kx_s_cge (off := 7) (tgt := 16) G (by decide +kernel) rfl (kx_s_nm (JS 16)) (kx_s_iconst (i := 1) G (by decide +kernel) (by decide +kernel) (kx_s_goto (off := 4) (tgt := 17) G (by decide +kernel) rfl (kx_s_nm (JS 17))))))))))
set_option maxRecDepth 20000 in
theorem sk_125_16 (X : kx_X p l e R s m args below meth c s0 D cA 2 ι0 h0 rr hf prog_11_method_37_code "TaskDeskModel" C d (Option.some Jvm.ClassFile.FieldType.boolean) "isGate" J) : kx_Sn p l e R s m args below meth c s0 D cA 2 ι0 h0 rr hf 16 (bk_125_16 d C J) := by
  obtain ⟨G, CS, R9, O9, RT, NM, T0, FL, JS⟩ := X
  exact (kx_s_iconst (i := 0) G (by decide +kernel) (by decide +kernel) (kx_s_nm (JS 17)))
set_option maxRecDepth 20000 in
theorem sk_125_17 (X : kx_X p l e R s m args below meth c s0 D cA 2 ι0 h0 rr hf prog_11_method_37_code "TaskDeskModel" C d (Option.some Jvm.ClassFile.FieldType.boolean) "isGate" J) : kx_Sn p l e R s m args below meth c s0 D cA 2 ι0 h0 rr hf 17 (bk_125_17 d C J) := by
  obtain ⟨G, CS, R9, O9, RT, NM, T0, FL, JS⟩ := X
  exact (kx_s_zreturn G RT (by decide +kernel))
theorem sm_125 (X : kx_X p l e R s m args below meth c s0 D cA 2 ι0 h0 rr hf prog_11_method_37_code "TaskDeskModel" C d (Option.some Jvm.ClassFile.FieldType.boolean) "isGate" J) (b : Nat) : kx_Sn p l e R s m args below meth c s0 D cA 2 ι0 h0 rr hf b (bm_125 d C b J) := by
  unfold bm_125
  cases h0 : Nat.beq b 0 with
  | true => rw [Nat.eq_of_beq_eq_true h0]; exact sk_125_0 X
  | false =>
   cases h16 : Nat.beq b 16 with
   | true => rw [Nat.eq_of_beq_eq_true h16]; exact sk_125_16 X
   | false =>
    cases h17 : Nat.beq b 17 with
    | true => rw [Nat.eq_of_beq_eq_true h17]; exact sk_125_17 X
    | false =>
     exact kx_s_no
/-! TaskDeskModel.enter(I)Z -/
def bk_126_0 (d : Nat) (C : kx_C) (J : Nat → kx_F) : kx_F := (kx_la 0 (kx_c (kx_i 0) (kx_pI 9 0 (kx_la 0 (kx_li 1 (kx_Vi C 125 9 [0] (kx_ifne (kx_la 0 (kx_gI 9 1 (kx_ifge (kx_la 0 (kx_gR 9 32 99 (kx_li 1 (kx_aI 99 (kx_si 2 (kx_la 0 (kx_gR 9 31 99 (kx_li 1 (kx_aI 99 (kx_sw [(0, (kx_la 0 (kx_gR 9 32 99 (kx_li 1 (kx_c (kx_i 1) (kx_asI 99 (kx_la 0 (kx_li 2 (kx_ifne (kx_c (kx_i 0) (kx_nm [1] (J 93))) (kx_c (kx_i 1) (kx_nm [1] (J 93)))))))))))), (1, (kx_li 2 (kx_ifne (kx_nm [0, 1, 2] (J 111)) (kx_la 0 (kx_gR 9 32 99 (kx_li 1 (kx_c (kx_i (-1)) (kx_asI 99 (kx_nm [0, 1, 2] (J 111)))))))))), (2, (kx_la 0 (kx_li 2 (kx_ifne (kx_c (kx_i 0) (kx_nm [1] (J 138))) (kx_c (kx_i 1) (kx_nm [1] (J 138))))))), (3, (kx_la 0 (kx_gR 9 32 99 (kx_la 0 (kx_gR 9 33 99 (kx_li 1 (kx_aI 99 (kx_aI 99 (kx_ifne (kx_la 0 (kx_la 0 (kx_gR 9 33 99 (kx_li 1 (kx_aI 99 (kx_Vv C 129 9 [0] (kx_la 0 (kx_c (kx_i 0) (kx_li 1 (kx_c (kx_i 0) (kx_c (kx_i 1) (kx_Vi C 127 9 [0, 0, 0, 0] kx_rz)))))))))))) (kx_la 0 (kx_c (kx_i 3) (kx_Vi C 99 9 [0] kx_rz))))))))))))] (kx_la 0 (kx_gR 9 32 99 (kx_li 1 (kx_li 2 (kx_ifne (kx_li 2 (kx_nm [0, 1, 2] (J 198))) (kx_c (kx_i 1) (kx_nm [0, 1, 2] (J 198)))))))))))))))))) (kx_la 0 (kx_c (kx_i 2) (kx_Vi C 99 9 [0] kx_rz)))))) (kx_la 0 (kx_c (kx_i 1) (kx_Vi C 99 9 [0] kx_rz))))))))))
def bk_126_93 (d : Nat) (C : kx_C) (J : Nat → kx_F) : kx_F := (kx_li 1 (kx_c (kx_i 0) (kx_c (kx_i 1) (kx_Vi C 127 9 [0, 0, 0, 0] kx_rz))))
def bk_126_111 (d : Nat) (C : kx_C) (J : Nat → kx_F) : kx_F := (kx_la 0 (kx_li 2 (kx_ifne (kx_c (kx_i 0) (kx_nm [1] (J 121))) (kx_c (kx_i 1) (kx_nm [1] (J 121))))))
def bk_126_121 (d : Nat) (C : kx_C) (J : Nat → kx_F) : kx_F := (kx_li 1 (kx_c (kx_i 0) (kx_c (kx_i 1) (kx_Vi C 127 9 [0, 0, 0, 0] kx_rz))))
def bk_126_138 (d : Nat) (C : kx_C) (J : Nat → kx_F) : kx_F := (kx_li 1 (kx_c (kx_i 0) (kx_c (kx_i 1) (kx_Vi C 127 9 [0, 0, 0, 0] kx_rz))))
def bk_126_198 (d : Nat) (C : kx_C) (J : Nat → kx_F) : kx_F := (kx_asI 99 (kx_la 0 (kx_li 2 (kx_c (kx_i 1) (kx_ceq (kx_c (kx_i 0) (kx_nm [1, 2] (J 210))) (kx_c (kx_i 1) (kx_nm [1, 2] (J 210))))))))
def bk_126_210 (d : Nat) (C : kx_C) (J : Nat → kx_F) : kx_F := (kx_li 1 (kx_c (kx_i 0) (kx_li 2 (kx_ifne (kx_c (kx_i 0) (kx_nm [] (J 221))) (kx_c (kx_i 1) (kx_nm [] (J 221)))))))
def bk_126_221 (d : Nat) (C : kx_C) (J : Nat → kx_F) : kx_F := (kx_Vi C 127 9 [0, 0, 0, 0] kx_rz)
def bm_126 (d : Nat) (C : kx_C) (b : Nat) (J : Nat → kx_F) : kx_F := bif Nat.beq b 0 then bk_126_0 d C J else bif Nat.beq b 93 then bk_126_93 d C J else bif Nat.beq b 111 then bk_126_111 d C J else bif Nat.beq b 121 then bk_126_121 d C J else bif Nat.beq b 138 then bk_126_138 d C J else bif Nat.beq b 198 then bk_126_198 d C J else bif Nat.beq b 210 then bk_126_210 d C J else bif Nat.beq b 221 then bk_126_221 d C J else fun _ _ _ => none
set_option maxRecDepth 20000 in
theorem sk_126_0 (X : kx_X p l e R s m args below meth c s0 D cA 3 ι0 h0 rr hf prog_11_method_47_code "TaskDeskModel" C d (Option.some Jvm.ClassFile.FieldType.boolean) "enter" J) : kx_Sn p l e R s m args below meth c s0 D cA 3 ι0 h0 rr hf 0 (bk_126_0 d C J) := by
  obtain ⟨G, CS, R9, O9, RT, NM, T0, FL, JS⟩ := X
  exact (kx_s_aload_n (j := 0) G rfl (by decide +kernel) (kx_s_iconst (i := 0) G (by decide +kernel) (by decide +kernel) (kx_s_pI G kf_9_99 rfl (by decide +kernel) (by decide +kernel) (kx_s_aload_n (j := 0) G rfl (by decide +kernel) (kx_s_iload_n (j := 1) G rfl (by decide +kernel) (kx_s_Vi (n := 125) G kx_good CS R9 (O9 _) kc_125 rfl kw_1206 kw_1208 kw_63 (r := kr_9) rfl (by decide) (by decide +kernel) (kx_s_ifne (off := 9) (tgt := 19) G (by decide +kernel) rfl (kx_s_aload_n (j := 0) G rfl (by decide +kernel) (kx_s_gI G kf_9_106 (by decide +kernel) (kx_s_ifge (off := 9) (tgt := 32) G (by decide +kernel) rfl (kx_s_aload_n (j := 0) G rfl (by decide +kernel) (kx_s_gR G kf_9_78 (by decide +kernel) (kx_s_iload_n (j := 1) G rfl (by decide +kernel) (kx_s_aI G ka_99 (by decide +kernel) (kx_s_istore_n (j := 2) G rfl (by decide +kernel) (by decide) (kx_s_aload_n (j := 0) G rfl (by decide +kernel) (kx_s_gR G kf_9_75 (by decide +kernel) (kx_s_iload_n (j := 1) G rfl (by decide +kernel) (kx_s_aI G ka_99 (by decide +kernel) (kx_s_tsw (dflt := 139) (lo := 0) (hi := 3) (offs := #[31, 55, 83, 100]) (len := 31) G (by decide +kernel) (tgtD := 184) rfl (kx_s_aload_n (j := 0) G rfl (by decide +kernel) (kx_s_gR G kf_9_78 (by decide +kernel) (kx_s_iload_n (j := 1) G rfl (by decide +kernel) (kx_s_iload_n (j := 2) G rfl (by decide +kernel) (kx_s_ifne (off := 7) (tgt := 197) G (by decide +kernel) rfl (kx_s_iload_n (j := 2) G rfl (by decide +kernel) (kx_s_nm (JS 198))) (kx_s_iconst (i := 1) G (by decide +kernel) (by decide +kernel) (kx_s_goto (off := 4) (tgt := 198) G (by decide +kernel) rfl (kx_s_nm (JS 198))))))))) (List.forall_mem_cons.mpr ⟨kx_tq (31) 76 (by decide +kernel) (by decide +kernel) (by decide +kernel) rfl (kx_s_aload_n (j := 0) G rfl (by decide +kernel) (kx_s_gR G kf_9_78 (by decide +kernel) (kx_s_iload_n (j := 1) G rfl (by decide +kernel) (kx_s_iconst (i := 1) G (by decide +kernel) (by decide +kernel) (kx_s_asI G ka_99 (by decide +kernel) (kx_s_aload_n (j := 0) G rfl (by decide +kernel) (kx_s_iload_n (j := 2) G rfl (by decide +kernel) (kx_s_ifne (off := 7) (tgt := 92) G (by decide +kernel) rfl (kx_s_iconst (i := 0) G (by decide +kernel) (by decide +kernel) (kx_s_nm (JS 93))) (kx_s_iconst (i := 1) G (by decide +kernel) (by decide +kernel) (kx_s_goto (off := 4) (tgt := 93) G (by decide +kernel) rfl (kx_s_nm (JS 93)))))))))))), List.forall_mem_cons.mpr ⟨kx_tq (55) 100 (by decide +kernel) (by decide +kernel) (by decide +kernel) rfl (kx_s_iload_n (j := 2) G rfl (by decide +kernel) (kx_s_ifne (off := 10) (tgt := 111) G (by decide +kernel) rfl (kx_s_nm (JS 111)) (kx_s_aload_n (j := 0) G rfl (by decide +kernel) (kx_s_gR G kf_9_78 (by decide +kernel) (kx_s_iload_n (j := 1) G rfl (by decide +kernel) (kx_s_iconst (i := -1) G (by decide +kernel) (by decide +kernel) (kx_s_asI G ka_99 (by decide +kernel) (kx_s_nm (JS 111))))))))), List.forall_mem_cons.mpr ⟨kx_tq (83) 128 (by decide +kernel) (by decide +kernel) (by decide +kernel) rfl (kx_s_aload_n (j := 0) G rfl (by decide +kernel) (kx_s_iload_n (j := 2) G rfl (by decide +kernel) (kx_s_ifne (off := 7) (tgt := 137) G (by decide +kernel) rfl (kx_s_iconst (i := 0) G (by decide +kernel) (by decide +kernel) (kx_s_nm (JS 138))) (kx_s_iconst (i := 1) G (by decide +kernel) (by decide +kernel) (kx_s_goto (off := 4) (tgt := 138) G (by decide +kernel) rfl (kx_s_nm (JS 138))))))), List.forall_mem_cons.mpr ⟨kx_tq (100) 145 (by decide +kernel) (by decide +kernel) (by decide +kernel) rfl (kx_s_aload_n (j := 0) G rfl (by decide +kernel) (kx_s_gR G kf_9_78 (by decide +kernel) (kx_s_aload_n (j := 0) G rfl (by decide +kernel) (kx_s_gR G kf_9_81 (by decide +kernel) (kx_s_iload_n (j := 1) G rfl (by decide +kernel) (kx_s_aI G ka_99 (by decide +kernel) (kx_s_aI G ka_99 (by decide +kernel) (kx_s_ifne (off := 9) (tgt := 165) G (by decide +kernel) rfl (kx_s_aload_n (j := 0) G rfl (by decide +kernel) (kx_s_aload_n (j := 0) G rfl (by decide +kernel) (kx_s_gR G kf_9_81 (by decide +kernel) (kx_s_iload_n (j := 1) G rfl (by decide +kernel) (kx_s_aI G ka_99 (by decide +kernel) (kx_s_Vv (n := 129) G kx_good CS R9 (O9 _) kc_129 rfl kw_1222 kw_1224 kw_66 (r := kr_9) rfl (by decide) (by decide +kernel) (kx_s_aload_n (j := 0) G rfl (by decide +kernel) (kx_s_iconst (i := 0) G (by decide +kernel) (by decide +kernel) (kx_s_iload_n (j := 1) G rfl (by decide +kernel) (kx_s_iconst (i := 0) G (by decide +kernel) (by decide +kernel) (kx_s_iconst (i := 1) G (by decide +kernel) (by decide +kernel) (kx_s_Vi (n := 127) G kx_good CS R9 (O9 _) kc_127 rfl kw_1214 kw_1216 kw_64 (r := kr_9) rfl (by decide) (by decide +kernel) (kx_s_zreturn G RT (by decide +kernel)))))))))))))) (kx_s_aload_n (j := 0) G rfl (by decide +kernel) (kx_s_iconst (i := 3) G (by decide +kernel) (by decide +kernel) (kx_s_Vi (n := 99) G kx_good CS R9 (O9 _) kc_99 rfl kw_1101 kw_1103 kw_46 (r := kr_9) rfl (by decide) (by decide +kernel) (kx_s_zreturn G RT (by decide +kernel))))))))))))), List.forall_mem_nil _⟩⟩⟩⟩) (kx_cov 4 (by decide) (vs := [0, 1, 2, 3]) rfl (by decide +kernel)))))))))))) (kx_s_aload_n (j := 0) G rfl (by decide +kernel) (kx_s_iconst (i := 2) G (by decide +kernel) (by decide +kernel) (kx_s_Vi (n := 99) G kx_good CS R9 (O9 _) kc_99 rfl kw_1101 kw_1103 kw_46 (r := kr_9) rfl (by decide) (by decide +kernel) (kx_s_zreturn G RT (by decide +kernel)))))))) (kx_s_aload_n (j := 0) G rfl (by decide +kernel) (kx_s_iconst (i := 1) G (by decide +kernel) (by decide +kernel) (kx_s_Vi (n := 99) G kx_good CS R9 (O9 _) kc_99 rfl kw_1101 kw_1103 kw_46 (r := kr_9) rfl (by decide) (by decide +kernel) (kx_s_zreturn G RT (by decide +kernel))))))))))))
set_option maxRecDepth 20000 in
theorem sk_126_93 (X : kx_X p l e R s m args below meth c s0 D cA 3 ι0 h0 rr hf prog_11_method_47_code "TaskDeskModel" C d (Option.some Jvm.ClassFile.FieldType.boolean) "enter" J) : kx_Sn p l e R s m args below meth c s0 D cA 3 ι0 h0 rr hf 93 (bk_126_93 d C J) := by
  obtain ⟨G, CS, R9, O9, RT, NM, T0, FL, JS⟩ := X
  exact (kx_s_iload_n (j := 1) G rfl (by decide +kernel) (kx_s_iconst (i := 0) G (by decide +kernel) (by decide +kernel) (kx_s_iconst (i := 1) G (by decide +kernel) (by decide +kernel) (kx_s_Vi (n := 127) G kx_good CS R9 (O9 _) kc_127 rfl kw_1214 kw_1216 kw_64 (r := kr_9) rfl (by decide) (by decide +kernel) (kx_s_zreturn G RT (by decide +kernel))))))
set_option maxRecDepth 20000 in
theorem sk_126_111 (X : kx_X p l e R s m args below meth c s0 D cA 3 ι0 h0 rr hf prog_11_method_47_code "TaskDeskModel" C d (Option.some Jvm.ClassFile.FieldType.boolean) "enter" J) : kx_Sn p l e R s m args below meth c s0 D cA 3 ι0 h0 rr hf 111 (bk_126_111 d C J) := by
  obtain ⟨G, CS, R9, O9, RT, NM, T0, FL, JS⟩ := X
  exact (kx_s_aload_n (j := 0) G rfl (by decide +kernel) (kx_s_iload_n (j := 2) G rfl (by decide +kernel) (kx_s_ifne (off := 7) (tgt := 120) G (by decide +kernel) rfl (kx_s_iconst (i := 0) G (by decide +kernel) (by decide +kernel) (kx_s_nm (JS 121))) (kx_s_iconst (i := 1) G (by decide +kernel) (by decide +kernel) (kx_s_goto (off := 4) (tgt := 121) G (by decide +kernel) rfl (kx_s_nm (JS 121)))))))
set_option maxRecDepth 20000 in
theorem sk_126_121 (X : kx_X p l e R s m args below meth c s0 D cA 3 ι0 h0 rr hf prog_11_method_47_code "TaskDeskModel" C d (Option.some Jvm.ClassFile.FieldType.boolean) "enter" J) : kx_Sn p l e R s m args below meth c s0 D cA 3 ι0 h0 rr hf 121 (bk_126_121 d C J) := by
  obtain ⟨G, CS, R9, O9, RT, NM, T0, FL, JS⟩ := X
  exact (kx_s_iload_n (j := 1) G rfl (by decide +kernel) (kx_s_iconst (i := 0) G (by decide +kernel) (by decide +kernel) (kx_s_iconst (i := 1) G (by decide +kernel) (by decide +kernel) (kx_s_Vi (n := 127) G kx_good CS R9 (O9 _) kc_127 rfl kw_1214 kw_1216 kw_64 (r := kr_9) rfl (by decide) (by decide +kernel) (kx_s_zreturn G RT (by decide +kernel))))))
set_option maxRecDepth 20000 in
theorem sk_126_138 (X : kx_X p l e R s m args below meth c s0 D cA 3 ι0 h0 rr hf prog_11_method_47_code "TaskDeskModel" C d (Option.some Jvm.ClassFile.FieldType.boolean) "enter" J) : kx_Sn p l e R s m args below meth c s0 D cA 3 ι0 h0 rr hf 138 (bk_126_138 d C J) := by
  obtain ⟨G, CS, R9, O9, RT, NM, T0, FL, JS⟩ := X
  exact (kx_s_iload_n (j := 1) G rfl (by decide +kernel) (kx_s_iconst (i := 0) G (by decide +kernel) (by decide +kernel) (kx_s_iconst (i := 1) G (by decide +kernel) (by decide +kernel) (kx_s_Vi (n := 127) G kx_good CS R9 (O9 _) kc_127 rfl kw_1214 kw_1216 kw_64 (r := kr_9) rfl (by decide) (by decide +kernel) (kx_s_zreturn G RT (by decide +kernel))))))
set_option maxRecDepth 20000 in
theorem sk_126_198 (X : kx_X p l e R s m args below meth c s0 D cA 3 ι0 h0 rr hf prog_11_method_47_code "TaskDeskModel" C d (Option.some Jvm.ClassFile.FieldType.boolean) "enter" J) : kx_Sn p l e R s m args below meth c s0 D cA 3 ι0 h0 rr hf 198 (bk_126_198 d C J) := by
  obtain ⟨G, CS, R9, O9, RT, NM, T0, FL, JS⟩ := X
  exact (kx_s_asI G ka_99 (by decide +kernel) (kx_s_aload_n (j := 0) G rfl (by decide +kernel) (kx_s_iload_n (j := 2) G rfl (by decide +kernel) (kx_s_iconst (i := 1) G (by decide +kernel) (by decide +kernel) (kx_s_ceq (off := 7) (tgt := 209) G (by decide +kernel) rfl (kx_s_iconst (i := 0) G (by decide +kernel) (by decide +kernel) (kx_s_nm (JS 210))) (kx_s_iconst (i := 1) G (by decide +kernel) (by decide +kernel) (kx_s_goto (off := 4) (tgt := 210) G (by decide +kernel) rfl (kx_s_nm (JS 210)))))))))
set_option maxRecDepth 20000 in
theorem sk_126_210 (X : kx_X p l e R s m args below meth c s0 D cA 3 ι0 h0 rr hf prog_11_method_47_code "TaskDeskModel" C d (Option.some Jvm.ClassFile.FieldType.boolean) "enter" J) : kx_Sn p l e R s m args below meth c s0 D cA 3 ι0 h0 rr hf 210 (bk_126_210 d C J) := by
  obtain ⟨G, CS, R9, O9, RT, NM, T0, FL, JS⟩ := X
  exact (kx_s_iload_n (j := 1) G rfl (by decide +kernel) (kx_s_iconst (i := 0) G (by decide +kernel) (by decide +kernel) (kx_s_iload_n (j := 2) G rfl (by decide +kernel) (kx_s_ifne (off := 7) (tgt := 220) G (by decide +kernel) rfl (kx_s_iconst (i := 0) G (by decide +kernel) (by decide +kernel) (kx_s_nm (JS 221))) (kx_s_iconst (i := 1) G (by decide +kernel) (by decide +kernel) (kx_s_goto (off := 4) (tgt := 221) G (by decide +kernel) rfl (kx_s_nm (JS 221))))))))
set_option maxRecDepth 20000 in
theorem sk_126_221 (X : kx_X p l e R s m args below meth c s0 D cA 3 ι0 h0 rr hf prog_11_method_47_code "TaskDeskModel" C d (Option.some Jvm.ClassFile.FieldType.boolean) "enter" J) : kx_Sn p l e R s m args below meth c s0 D cA 3 ι0 h0 rr hf 221 (bk_126_221 d C J) := by
  obtain ⟨G, CS, R9, O9, RT, NM, T0, FL, JS⟩ := X
  exact (kx_s_Vi (n := 127) G kx_good CS R9 (O9 _) kc_127 rfl kw_1214 kw_1216 kw_64 (r := kr_9) rfl (by decide) (by decide +kernel) (kx_s_zreturn G RT (by decide +kernel)))
theorem sm_126 (X : kx_X p l e R s m args below meth c s0 D cA 3 ι0 h0 rr hf prog_11_method_47_code "TaskDeskModel" C d (Option.some Jvm.ClassFile.FieldType.boolean) "enter" J) (b : Nat) : kx_Sn p l e R s m args below meth c s0 D cA 3 ι0 h0 rr hf b (bm_126 d C b J) := by
  unfold bm_126
  cases h0 : Nat.beq b 0 with
  | true => rw [Nat.eq_of_beq_eq_true h0]; exact sk_126_0 X
  | false =>
   cases h93 : Nat.beq b 93 with
   | true => rw [Nat.eq_of_beq_eq_true h93]; exact sk_126_93 X
   | false =>
    cases h111 : Nat.beq b 111 with
    | true => rw [Nat.eq_of_beq_eq_true h111]; exact sk_126_111 X
    | false =>
     cases h121 : Nat.beq b 121 with
     | true => rw [Nat.eq_of_beq_eq_true h121]; exact sk_126_121 X
     | false =>
      cases h138 : Nat.beq b 138 with
      | true => rw [Nat.eq_of_beq_eq_true h138]; exact sk_126_138 X
      | false =>
       cases h198 : Nat.beq b 198 with
       | true => rw [Nat.eq_of_beq_eq_true h198]; exact sk_126_198 X
       | false =>
        cases h210 : Nat.beq b 210 with
        | true => rw [Nat.eq_of_beq_eq_true h210]; exact sk_126_210 X
        | false =>
         cases h221 : Nat.beq b 221 with
         | true => rw [Nat.eq_of_beq_eq_true h221]; exact sk_126_221 X
         | false =>
          exact kx_s_no
/-! TaskDeskModel.passes(ZIZZ)Z -/
def bk_127_0 (d : Nat) (C : kx_C) (J : Nat → kx_F) : kx_F := (kx_li 1 (kx_ifeq (kx_la 0 (kx_la 0 (kx_gI 9 1 (kx_li 2 (kx_li 3 (kx_Vv C 128 9 [0, 0, 0] (kx_la 0 (kx_c (kx_i 6) (kx_li 2 (kx_Vv C 108 9 [0, 0] (kx_c (kx_i 0) kx_rz))))))))))) (kx_la 0 (kx_la 0 (kx_gI 9 1 (kx_c (kx_l 0) (kx_li 4 (kx_c (kx_i (-1)) (kx_c (kx_i 0) (kx_Vv C 103 9 [0, 1, 0, 0, 0] (kx_c (kx_i 1) kx_rz)))))))))))
def bm_127 (d : Nat) (C : kx_C) (b : Nat) (J : Nat → kx_F) : kx_F := bif Nat.beq b 0 then bk_127_0 d C J else fun _ _ _ => none
set_option maxRecDepth 20000 in
theorem sk_127_0 (X : kx_X p l e R s m args below meth c s0 D cA 5 ι0 h0 rr hf prog_11_method_46_code "TaskDeskModel" C d (Option.some Jvm.ClassFile.FieldType.boolean) "passes" J) : kx_Sn p l e R s m args below meth c s0 D cA 5 ι0 h0 rr hf 0 (bk_127_0 d C J) := by
  obtain ⟨G, CS, R9, O9, RT, NM, T0, FL, JS⟩ := X
  exact (kx_s_iload_n (j := 1) G rfl (by decide +kernel) (kx_s_ifeq (off := 18) (tgt := 19) G (by decide +kernel) rfl (kx_s_aload_n (j := 0) G rfl (by decide +kernel) (kx_s_aload_n (j := 0) G rfl (by decide +kernel) (kx_s_gI G kf_9_106 (by decide +kernel) (kx_s_iload_n (j := 2) G rfl (by decide +kernel) (kx_s_iload_n (j := 3) G rfl (by decide +kernel) (kx_s_Vv (n := 128) G kx_good CS R9 (O9 _) kc_128 rfl kw_1218 kw_1220 kw_65 (r := kr_9) rfl (by decide) (by decide +kernel) (kx_s_aload_n (j := 0) G rfl (by decide +kernel) (kx_s_bipush (i := 6) G (by decide +kernel) (by decide +kernel) (kx_s_iload_n (j := 2) G rfl (by decide +kernel) (kx_s_Vv (n := 108) G kx_good CS R9 (O9 _) kc_108 rfl kw_1137 kw_1139 kw_55 (r := kr_9) rfl (by decide) (by decide +kernel) (kx_s_iconst (i := 0) G (by decide +kernel) (by decide +kernel) (kx_s_zreturn G RT (by decide +kernel))))))))))))) (kx_s_aload_n (j := 0) G rfl (by decide +kernel) (kx_s_aload_n (j := 0) G rfl (by decide +kernel) (kx_s_gI G kf_9_106 (by decide +kernel) (kx_s_lconst (i := 0) G (by decide +kernel) (by decide +kernel) (kx_s_iload G (by decide +kernel) (kx_s_iconst (i := -1) G (by decide +kernel) (by decide +kernel) (kx_s_iconst (i := 0) G (by decide +kernel) (by decide +kernel) (kx_s_Vv (n := 103) G kx_good CS R9 (O9 _) kc_103 rfl kw_1117 kw_1119 kw_50 (r := kr_9) rfl (by decide) (by decide +kernel) (kx_s_iconst (i := 1) G (by decide +kernel) (by decide +kernel) (kx_s_zreturn G RT (by decide +kernel)))))))))))))
theorem sm_127 (X : kx_X p l e R s m args below meth c s0 D cA 5 ι0 h0 rr hf prog_11_method_46_code "TaskDeskModel" C d (Option.some Jvm.ClassFile.FieldType.boolean) "passes" J) (b : Nat) : kx_Sn p l e R s m args below meth c s0 D cA 5 ι0 h0 rr hf b (bm_127 d C b J) := by
  unfold bm_127
  cases h0 : Nat.beq b 0 with
  | true => rw [Nat.eq_of_beq_eq_true h0]; exact sk_127_0 X
  | false =>
   exact kx_s_no
/-! TaskDeskModel.stand(IIZ)V -/
def bk_128_0 (d : Nat) (C : kx_C) (J : Nat → kx_F) : kx_F := (kx_la 0 (kx_gR 9 35 99 (kx_la 0 (kx_gI 9 34 (kx_li 1 (kx_asI 99 (kx_la 0 (kx_gR 9 36 99 (kx_la 0 (kx_gI 9 34 (kx_li 2 (kx_asI 99 (kx_la 0 (kx_gR 9 37 101 (kx_la 0 (kx_gI 9 34 (kx_li 3 (kx_asB 101 (kx_la 0 (kx_dup (kx_gI 9 34 (kx_c (kx_i 1) (kx_ii (fun x y => x + y) (kx_pI 9 34 kx_rv))))))))))))))))))))))))
def bm_128 (d : Nat) (C : kx_C) (b : Nat) (J : Nat → kx_F) : kx_F := bif Nat.beq b 0 then bk_128_0 d C J else fun _ _ _ => none
set_option maxRecDepth 20000 in
theorem sk_128_0 (X : kx_X p l e R s m args below meth c s0 D cA 4 ι0 h0 rr hf prog_11_method_41_code "TaskDeskModel" C d (Option.none : Option Jvm.ClassFile.FieldType) "stand" J) : kx_Sn p l e R s m args below meth c s0 D cA 4 ι0 h0 rr hf 0 (bk_128_0 d C J) := by
  obtain ⟨G, CS, R9, O9, RT, NM, T0, FL, JS⟩ := X
  exact (kx_s_aload_n (j := 0) G rfl (by decide +kernel) (kx_s_gR G kf_9_84 (by decide +kernel) (kx_s_aload_n (j := 0) G rfl (by decide +kernel) (kx_s_gI G kf_9_211 (by decide +kernel) (kx_s_iload_n (j := 1) G rfl (by decide +kernel) (kx_s_asI G ka_99 (by decide +kernel) (kx_s_aload_n (j := 0) G rfl (by decide +kernel) (kx_s_gR G kf_9_87 (by decide +kernel) (kx_s_aload_n (j := 0) G rfl (by decide +kernel) (kx_s_gI G kf_9_211 (by decide +kernel) (kx_s_iload_n (j := 2) G rfl (by decide +kernel) (kx_s_asI G ka_99 (by decide +kernel) (kx_s_aload_n (j := 0) G rfl (by decide +kernel) (kx_s_gR G kf_9_90 (by decide +kernel) (kx_s_aload_n (j := 0) G rfl (by decide +kernel) (kx_s_gI G kf_9_211 (by decide +kernel) (kx_s_iload_n (j := 3) G rfl (by decide +kernel) (kx_s_asB G ka_101 (by decide +kernel) (kx_s_aload_n (j := 0) G rfl (by decide +kernel) (kx_s_dup G (by decide +kernel) (kx_s_gI G kf_9_211 (by decide +kernel) (kx_s_iconst (i := 1) G (by decide +kernel) (by decide +kernel) (kx_s_iadd G (by decide +kernel) (kx_s_pI G kf_9_211 rfl (by decide +kernel) (by decide +kernel) (kx_s_return G RT (by decide +kernel))))))))))))))))))))))))))
theorem sm_128 (X : kx_X p l e R s m args below meth c s0 D cA 4 ι0 h0 rr hf prog_11_method_41_code "TaskDeskModel" C d (Option.none : Option Jvm.ClassFile.FieldType) "stand" J) (b : Nat) : kx_Sn p l e R s m args below meth c s0 D cA 4 ι0 h0 rr hf b (bm_128 d C b J) := by
  unfold bm_128
  cases h0 : Nat.beq b 0 with
  | true => rw [Nat.eq_of_beq_eq_true h0]; exact sk_128_0 X
  | false =>
   exact kx_s_no
/-! TaskDeskModel.unlock(I)V -/
def bk_129_0 (d : Nat) (C : kx_C) (J : Nat → kx_F) : kx_F := (kx_la 0 (kx_li 1 (kx_c (kx_i 2) (kx_Vi C 130 9 [0, 0] (kx_si 2 (kx_li 2 (kx_ifge (kx_la 0 (kx_li 2 (kx_c (kx_i 1) (kx_Vv C 131 9 [0, 0] (kx_nm [] (J 27)))))) (kx_la 0 (kx_gR 9 32 99 (kx_li 1 (kx_c (kx_i 0) (kx_asI 99 (kx_nm [] (J 27))))))))))))))
def bk_129_27 (d : Nat) (C : kx_C) (J : Nat → kx_F) : kx_F := kx_rv
def bm_129 (d : Nat) (C : kx_C) (b : Nat) (J : Nat → kx_F) : kx_F := bif Nat.beq b 0 then bk_129_0 d C J else bif Nat.beq b 27 then bk_129_27 d C J else fun _ _ _ => none
set_option maxRecDepth 20000 in
theorem sk_129_0 (X : kx_X p l e R s m args below meth c s0 D cA 3 ι0 h0 rr hf prog_11_method_44_code "TaskDeskModel" C d (Option.none : Option Jvm.ClassFile.FieldType) "unlock" J) : kx_Sn p l e R s m args below meth c s0 D cA 3 ι0 h0 rr hf 0 (bk_129_0 d C J) := by
  obtain ⟨G, CS, R9, O9, RT, NM, T0, FL, JS⟩ := X
  exact (kx_s_aload_n (j := 0) G rfl (by decide +kernel) (kx_s_iload_n (j := 1) G rfl (by decide +kernel) (kx_s_iconst (i := 2) G (by decide +kernel) (by decide +kernel) (kx_s_Vi (n := 130) G kx_good CS R9 (O9 _) kc_130 rfl kw_1226 kw_1228 kw_67 (r := kr_9) rfl (by decide) (by decide +kernel) (kx_s_istore_n (j := 2) G rfl (by decide +kernel) (by decide) (kx_s_iload_n (j := 2) G rfl (by decide +kernel) (kx_s_ifge (off := 13) (tgt := 21) G (by decide +kernel) rfl (kx_s_aload_n (j := 0) G rfl (by decide +kernel) (kx_s_iload_n (j := 2) G rfl (by decide +kernel) (kx_s_iconst (i := 1) G (by decide +kernel) (by decide +kernel) (kx_s_Vv (n := 131) G kx_good CS R9 (O9 _) kc_131 rfl kw_1230 kw_1232 kw_68 (r := kr_9) rfl (by decide) (by decide +kernel) (kx_s_nm (JS 27)))))) (kx_s_aload_n (j := 0) G rfl (by decide +kernel) (kx_s_gR G kf_9_78 (by decide +kernel) (kx_s_iload_n (j := 1) G rfl (by decide +kernel) (kx_s_iconst (i := 0) G (by decide +kernel) (by decide +kernel) (kx_s_asI G ka_99 (by decide +kernel) (kx_s_goto (off := 9) (tgt := 27) G (by decide +kernel) rfl (kx_s_nm (JS 27)))))))))))))))
set_option maxRecDepth 20000 in
theorem sk_129_27 (X : kx_X p l e R s m args below meth c s0 D cA 3 ι0 h0 rr hf prog_11_method_44_code "TaskDeskModel" C d (Option.none : Option Jvm.ClassFile.FieldType) "unlock" J) : kx_Sn p l e R s m args below meth c s0 D cA 3 ι0 h0 rr hf 27 (bk_129_27 d C J) := by
  obtain ⟨G, CS, R9, O9, RT, NM, T0, FL, JS⟩ := X
  exact (kx_s_return G RT (by decide +kernel))
theorem sm_129 (X : kx_X p l e R s m args below meth c s0 D cA 3 ι0 h0 rr hf prog_11_method_44_code "TaskDeskModel" C d (Option.none : Option Jvm.ClassFile.FieldType) "unlock" J) (b : Nat) : kx_Sn p l e R s m args below meth c s0 D cA 3 ι0 h0 rr hf b (bm_129 d C b J) := by
  unfold bm_129
  cases h0 : Nat.beq b 0 with
  | true => rw [Nat.eq_of_beq_eq_true h0]; exact sk_129_0 X
  | false =>
   cases h27 : Nat.beq b 27 with
   | true => rw [Nat.eq_of_beq_eq_true h27]; exact sk_129_27 X
   | false =>
    exact kx_s_no
/-! TaskDeskModel.standing(II)I -/
def bk_130_0 (d : Nat) (C : kx_C) (J : Nat → kx_F) : kx_F := (kx_c (kx_i 0) (kx_si 3 (kx_nm [0, 1, 2, 3] (J 2))))
def bk_130_2 (d : Nat) (C : kx_C) (J : Nat → kx_F) : kx_F := (kx_li 3 (kx_la 0 (kx_gI 9 34 (kx_cge (kx_c (kx_i (-1)) kx_ri) (kx_la 0 (kx_gR 9 36 99 (kx_li 3 (kx_aI 99 (kx_li 1 (kx_cne (kx_nm [0, 1, 2, 3] (J 46)) (kx_li 2 (kx_c (kx_i 2) (kx_ceq (kx_nm [3] (J 44)) (kx_la 0 (kx_gR 9 37 101 (kx_li 3 (kx_aB 101 (kx_li 2 (kx_c (kx_i 1) (kx_cne (kx_c (kx_i 0) (kx_nm [0, 1, 2, 3] (J 41))) (kx_c (kx_i 1) (kx_nm [0, 1, 2, 3] (J 41)))))))))))))))))))))))
def bk_130_41 (d : Nat) (C : kx_C) (J : Nat → kx_F) : kx_F := (kx_cne (kx_nm [0, 1, 2, 3] (J 46)) (kx_nm [3] (J 44)))
def bk_130_44 (d : Nat) (C : kx_C) (J : Nat → kx_F) : kx_F := (kx_li 3 kx_ri)
def bk_130_46 (d : Nat) (C : kx_C) (J : Nat → kx_F) : kx_F := (kx_inc 3 1 (kx_nm [0, 1, 2, 3] (J 2)))
def bm_130 (d : Nat) (C : kx_C) (b : Nat) (J : Nat → kx_F) : kx_F := bif Nat.beq b 0 then bk_130_0 d C J else bif Nat.beq b 2 then bk_130_2 d C J else bif Nat.beq b 41 then bk_130_41 d C J else bif Nat.beq b 44 then bk_130_44 d C J else bif Nat.beq b 46 then bk_130_46 d C J else fun _ _ _ => none
set_option maxRecDepth 20000 in
theorem sk_130_0 (X : kx_X p l e R s m args below meth c s0 D cA 4 ι0 h0 rr hf prog_11_method_39_code "TaskDeskModel" C d (Option.some Jvm.ClassFile.FieldType.int) "standing" J) : kx_Sn p l e R s m args below meth c s0 D cA 4 ι0 h0 rr hf 0 (bk_130_0 d C J) := by
  obtain ⟨G, CS, R9, O9, RT, NM, T0, FL, JS⟩ := X
  exact (kx_s_iconst (i := 0) G (by decide +kernel) (by decide +kernel) (kx_s_istore_n (j := 3) G rfl (by decide +kernel) (by decide) (kx_s_nm (JS 2))))
set_option maxRecDepth 20000 in
theorem sk_130_2 (X : kx_X p l e R s m args below meth c s0 D cA 4 ι0 h0 rr hf prog_11_method_39_code "TaskDeskModel" C d (Option.some Jvm.ClassFile.FieldType.int) "standing" J) : kx_Sn p l e R s m args below meth c s0 D cA 4 ι0 h0 rr hf 2 (bk_130_2 d C J) := by
  obtain ⟨G, CS, R9, O9, RT, NM, T0, FL, JS⟩ := X
  exact (kx_s_iload_n (j := 3) G rfl (by decide +kernel) (kx_s_aload_n (j := 0) G rfl (by decide +kernel) (kx_s_gI G kf_9_211 (by decide +kernel) (kx_s_cge (off := 45) (tgt := 52) G (by decide +kernel) rfl (kx_s_iconst (i := -1) G (by decide +kernel) (by decide +kernel) (kx_s_ireturn G RT (by decide +kernel))) (kx_s_aload_n (j := 0) G rfl (by decide +kernel) (kx_s_gR G kf_9_87 (by decide +kernel) (kx_s_iload_n (j := 3) G rfl (by decide +kernel) (kx_s_aI G ka_99 (by decide +kernel) (kx_s_iload_n (j := 1) G rfl (by decide +kernel) (kx_s_cne (off := 29) (tgt := 46) G (by decide +kernel) rfl (kx_s_nm (JS 46)) (kx_s_iload_n (j := 2) G rfl (by decide +kernel) (kx_s_iconst (i := 2) G (by decide +kernel) (by decide +kernel) (kx_s_ceq (off := 22) (tgt := 44) G (by decide +kernel) rfl (kx_s_nm (JS 44)) (kx_s_aload_n (j := 0) G rfl (by decide +kernel) (kx_s_gR G kf_9_90 (by decide +kernel) (kx_s_iload_n (j := 3) G rfl (by decide +kernel) (kx_s_aB G ka_101 (by decide +kernel) (kx_s_iload_n (j := 2) G rfl (by decide +kernel) (kx_s_iconst (i := 1) G (by decide +kernel) (by decide +kernel) (kx_s_cne (off := 7) (tgt := 40) G (by decide +kernel) rfl (kx_s_iconst (i := 0) G (by decide +kernel) (by decide +kernel) (kx_s_nm (JS 41))) (kx_s_iconst (i := 1) G (by decide +kernel) (by decide +kernel) (kx_s_goto (off := 4) (tgt := 41) G (by decide +kernel) rfl (kx_s_nm (JS 41))))))))))))))))))))))))
set_option maxRecDepth 20000 in
theorem sk_130_41 (X : kx_X p l e R s m args below meth c s0 D cA 4 ι0 h0 rr hf prog_11_method_39_code "TaskDeskModel" C d (Option.some Jvm.ClassFile.FieldType.int) "standing" J) : kx_Sn p l e R s m args below meth c s0 D cA 4 ι0 h0 rr hf 41 (bk_130_41 d C J) := by
  obtain ⟨G, CS, R9, O9, RT, NM, T0, FL, JS⟩ := X
  exact (kx_s_cne (off := 5) (tgt := 46) G (by decide +kernel) rfl (kx_s_nm (JS 46)) (kx_s_nm (JS 44)))
set_option maxRecDepth 20000 in
theorem sk_130_44 (X : kx_X p l e R s m args below meth c s0 D cA 4 ι0 h0 rr hf prog_11_method_39_code "TaskDeskModel" C d (Option.some Jvm.ClassFile.FieldType.int) "standing" J) : kx_Sn p l e R s m args below meth c s0 D cA 4 ι0 h0 rr hf 44 (bk_130_44 d C J) := by
  obtain ⟨G, CS, R9, O9, RT, NM, T0, FL, JS⟩ := X
  exact (kx_s_iload_n (j := 3) G rfl (by decide +kernel) (kx_s_ireturn G RT (by decide +kernel)))
set_option maxRecDepth 20000 in
theorem sk_130_46 (X : kx_X p l e R s m args below meth c s0 D cA 4 ι0 h0 rr hf prog_11_method_39_code "TaskDeskModel" C d (Option.some Jvm.ClassFile.FieldType.int) "standing" J) : kx_Sn p l e R s m args below meth c s0 D cA 4 ι0 h0 rr hf 46 (bk_130_46 d C J) := by
  obtain ⟨G, CS, R9, O9, RT, NM, T0, FL, JS⟩ := X
  exact (kx_s_iinc (n := 1) G (by decide +kernel) (by decide +kernel) (by decide) (kx_s_goto (off := -47) (tgt := 2) G (by decide +kernel) rfl (kx_s_nm (JS 2))))
theorem sm_130 (X : kx_X p l e R s m args below meth c s0 D cA 4 ι0 h0 rr hf prog_11_method_39_code "TaskDeskModel" C d (Option.some Jvm.ClassFile.FieldType.int) "standing" J) (b : Nat) : kx_Sn p l e R s m args below meth c s0 D cA 4 ι0 h0 rr hf b (bm_130 d C b J) := by
  unfold bm_130
  cases h0 : Nat.beq b 0 with
  | true => rw [Nat.eq_of_beq_eq_true h0]; exact sk_130_0 X
  | false =>
   cases h2 : Nat.beq b 2 with
   | true => rw [Nat.eq_of_beq_eq_true h2]; exact sk_130_2 X
   | false =>
    cases h41 : Nat.beq b 41 with
    | true => rw [Nat.eq_of_beq_eq_true h41]; exact sk_130_41 X
    | false =>
     cases h44 : Nat.beq b 44 with
     | true => rw [Nat.eq_of_beq_eq_true h44]; exact sk_130_44 X
     | false =>
      cases h46 : Nat.beq b 46 with
      | true => rw [Nat.eq_of_beq_eq_true h46]; exact sk_130_46 X
      | false =>
       exact kx_s_no
/-! TaskDeskModel.lets(IZ)V -/
def bk_131_0 (d : Nat) (C : kx_C) (J : Nat → kx_F) : kx_F := (kx_la 0 (kx_li 1 (kx_Vi C 132 9 [0] (kx_si 3 (kx_la 0 (kx_li 3 (kx_c (kx_l 0) (kx_li 2 (kx_c (kx_i (-1)) (kx_c (kx_i 0) (kx_Vv C 103 9 [0, 1, 0, 0, 0] (kx_la 0 (kx_li 3 (kx_Vv C 105 9 [0] kx_rv))))))))))))))
def bm_131 (d : Nat) (C : kx_C) (b : Nat) (J : Nat → kx_F) : kx_F := bif Nat.beq b 0 then bk_131_0 d C J else fun _ _ _ => none
set_option maxRecDepth 20000 in
theorem sk_131_0 (X : kx_X p l e R s m args below meth c s0 D cA 4 ι0 h0 rr hf prog_11_method_42_code "TaskDeskModel" C d (Option.none : Option Jvm.ClassFile.FieldType) "lets" J) : kx_Sn p l e R s m args below meth c s0 D cA 4 ι0 h0 rr hf 0 (bk_131_0 d C J) := by
  obtain ⟨G, CS, R9, O9, RT, NM, T0, FL, JS⟩ := X
  exact (kx_s_aload_n (j := 0) G rfl (by decide +kernel) (kx_s_iload_n (j := 1) G rfl (by decide +kernel) (kx_s_Vi (n := 132) G kx_good CS R9 (O9 _) kc_132 rfl kw_1234 kw_1236 kw_69 (r := kr_9) rfl (by decide) (by decide +kernel) (kx_s_istore_n (j := 3) G rfl (by decide +kernel) (by decide) (kx_s_aload_n (j := 0) G rfl (by decide +kernel) (kx_s_iload_n (j := 3) G rfl (by decide +kernel) (kx_s_lconst (i := 0) G (by decide +kernel) (by decide +kernel) (kx_s_iload_n (j := 2) G rfl (by decide +kernel) (kx_s_iconst (i := -1) G (by decide +kernel) (by decide +kernel) (kx_s_iconst (i := 0) G (by decide +kernel) (by decide +kernel) (kx_s_Vv (n := 103) G kx_good CS R9 (O9 _) kc_103 rfl kw_1117 kw_1119 kw_50 (r := kr_9) rfl (by decide) (by decide +kernel) (kx_s_aload_n (j := 0) G rfl (by decide +kernel) (kx_s_iload_n (j := 3) G rfl (by decide +kernel) (kx_s_Vv (n := 105) G kx_good CS R9 (O9 _) kc_105 rfl kw_1125 kw_1127 kw_52 (r := kr_9) rfl (by decide) (by decide +kernel) (kx_s_return G RT (by decide +kernel))))))))))))))))
theorem sm_131 (X : kx_X p l e R s m args below meth c s0 D cA 4 ι0 h0 rr hf prog_11_method_42_code "TaskDeskModel" C d (Option.none : Option Jvm.ClassFile.FieldType) "lets" J) (b : Nat) : kx_Sn p l e R s m args below meth c s0 D cA 4 ι0 h0 rr hf b (bm_131 d C b J) := by
  unfold bm_131
  cases h0 : Nat.beq b 0 with
  | true => rw [Nat.eq_of_beq_eq_true h0]; exact sk_131_0 X
  | false =>
   exact kx_s_no
/-! TaskDeskModel.takeOut(I)I -/
def bk_132_0 (d : Nat) (C : kx_C) (J : Nat → kx_F) : kx_F := (kx_la 0 (kx_gR 9 35 99 (kx_li 1 (kx_aI 99 (kx_si 2 (kx_la 0 (kx_dup (kx_gI 9 34 (kx_c (kx_i 1) (kx_ii (fun x y => x - y) (kx_pI 9 34 (kx_li 1 (kx_si 3 (kx_nm [0, 2, 3] (J 19)))))))))))))))
def bk_132_19 (d : Nat) (C : kx_C) (J : Nat → kx_F) : kx_F := (kx_li 3 (kx_la 0 (kx_gI 9 34 (kx_cge (kx_li 2 kx_ri) (kx_la 0 (kx_gR 9 35 99 (kx_li 3 (kx_la 0 (kx_gR 9 35 99 (kx_li 3 (kx_c (kx_i 1) (kx_ii (fun x y => x + y) (kx_aI 99 (kx_asI 99 (kx_la 0 (kx_gR 9 36 99 (kx_li 3 (kx_la 0 (kx_gR 9 36 99 (kx_li 3 (kx_c (kx_i 1) (kx_ii (fun x y => x + y) (kx_aI 99 (kx_asI 99 (kx_la 0 (kx_gR 9 37 101 (kx_li 3 (kx_la 0 (kx_gR 9 37 101 (kx_li 3 (kx_c (kx_i 1) (kx_ii (fun x y => x + y) (kx_aB 101 (kx_asB 101 (kx_inc 3 1 (kx_nm [0, 2, 3] (J 19)))))))))))))))))))))))))))))))))))))
def bm_132 (d : Nat) (C : kx_C) (b : Nat) (J : Nat → kx_F) : kx_F := bif Nat.beq b 0 then bk_132_0 d C J else bif Nat.beq b 19 then bk_132_19 d C J else fun _ _ _ => none
set_option maxRecDepth 20000 in
theorem sk_132_0 (X : kx_X p l e R s m args below meth c s0 D cA 4 ι0 h0 rr hf prog_11_method_40_code "TaskDeskModel" C d (Option.some Jvm.ClassFile.FieldType.int) "takeOut" J) : kx_Sn p l e R s m args below meth c s0 D cA 4 ι0 h0 rr hf 0 (bk_132_0 d C J) := by
  obtain ⟨G, CS, R9, O9, RT, NM, T0, FL, JS⟩ := X
  exact (kx_s_aload_n (j := 0) G rfl (by decide +kernel) (kx_s_gR G kf_9_84 (by decide +kernel) (kx_s_iload_n (j := 1) G rfl (by decide +kernel) (kx_s_aI G ka_99 (by decide +kernel) (kx_s_istore_n (j := 2) G rfl (by decide +kernel) (by decide) (kx_s_aload_n (j := 0) G rfl (by decide +kernel) (kx_s_dup G (by decide +kernel) (kx_s_gI G kf_9_211 (by decide +kernel) (kx_s_iconst (i := 1) G (by decide +kernel) (by decide +kernel) (kx_s_isub G (by decide +kernel) (kx_s_pI G kf_9_211 rfl (by decide +kernel) (by decide +kernel) (kx_s_iload_n (j := 1) G rfl (by decide +kernel) (kx_s_istore_n (j := 3) G rfl (by decide +kernel) (by decide) (kx_s_nm (JS 19)))))))))))))))
set_option maxRecDepth 20000 in
theorem sk_132_19 (X : kx_X p l e R s m args below meth c s0 D cA 4 ι0 h0 rr hf prog_11_method_40_code "TaskDeskModel" C d (Option.some Jvm.ClassFile.FieldType.int) "takeOut" J) : kx_Sn p l e R s m args below meth c s0 D cA 4 ι0 h0 rr hf 19 (bk_132_19 d C J) := by
  obtain ⟨G, CS, R9, O9, RT, NM, T0, FL, JS⟩ := X
  exact (kx_s_iload_n (j := 3) G rfl (by decide +kernel) (kx_s_aload_n (j := 0) G rfl (by decide +kernel) (kx_s_gI G kf_9_211 (by decide +kernel) (kx_s_cge (off := 51) (tgt := 75) G (by decide +kernel) rfl (kx_s_iload_n (j := 2) G rfl (by decide +kernel) (kx_s_ireturn G RT (by decide +kernel))) (kx_s_aload_n (j := 0) G rfl (by decide +kernel) (kx_s_gR G kf_9_84 (by decide +kernel) (kx_s_iload_n (j := 3) G rfl (by decide +kernel) (kx_s_aload_n (j := 0) G rfl (by decide +kernel) (kx_s_gR G kf_9_84 (by decide +kernel) (kx_s_iload_n (j := 3) G rfl (by decide +kernel) (kx_s_iconst (i := 1) G (by decide +kernel) (by decide +kernel) (kx_s_iadd G (by decide +kernel) (kx_s_aI G ka_99 (by decide +kernel) (kx_s_asI G ka_99 (by decide +kernel) (kx_s_aload_n (j := 0) G rfl (by decide +kernel) (kx_s_gR G kf_9_87 (by decide +kernel) (kx_s_iload_n (j := 3) G rfl (by decide +kernel) (kx_s_aload_n (j := 0) G rfl (by decide +kernel) (kx_s_gR G kf_9_87 (by decide +kernel) (kx_s_iload_n (j := 3) G rfl (by decide +kernel) (kx_s_iconst (i := 1) G (by decide +kernel) (by decide +kernel) (kx_s_iadd G (by decide +kernel) (kx_s_aI G ka_99 (by decide +kernel) (kx_s_asI G ka_99 (by decide +kernel) (kx_s_aload_n (j := 0) G rfl (by decide +kernel) (kx_s_gR G kf_9_90 (by decide +kernel) (kx_s_iload_n (j := 3) G rfl (by decide +kernel) (kx_s_aload_n (j := 0) G rfl (by decide +kernel) (kx_s_gR G kf_9_90 (by decide +kernel) (kx_s_iload_n (j := 3) G rfl (by decide +kernel) (kx_s_iconst (i := 1) G (by decide +kernel) (by decide +kernel) (kx_s_iadd G (by decide +kernel) (kx_s_aB G ka_101 (by decide +kernel) (kx_s_asB G ka_101 (by decide +kernel) (kx_s_iinc (n := 1) G (by decide +kernel) (by decide +kernel) (by decide) (kx_s_goto (off := -53) (tgt := 19) G (by decide +kernel) rfl (kx_s_nm (JS 19))))))))))))))))))))))))))))))))))))))
theorem sm_132 (X : kx_X p l e R s m args below meth c s0 D cA 4 ι0 h0 rr hf prog_11_method_40_code "TaskDeskModel" C d (Option.some Jvm.ClassFile.FieldType.int) "takeOut" J) (b : Nat) : kx_Sn p l e R s m args below meth c s0 D cA 4 ι0 h0 rr hf b (bm_132 d C b J) := by
  unfold bm_132
  cases h0 : Nat.beq b 0 with
  | true => rw [Nat.eq_of_beq_eq_true h0]; exact sk_132_0 X
  | false =>
   cases h19 : Nat.beq b 19 with
   | true => rw [Nat.eq_of_beq_eq_true h19]; exact sk_132_19 X
   | false =>
    exact kx_s_no
/-! TaskDeskModel.read(I)Z -/
def bk_133_0 (d : Nat) (C : kx_C) (J : Nat → kx_F) : kx_F := (kx_la 0 (kx_c (kx_i 0) (kx_pI 9 0 (kx_la 0 (kx_li 1 (kx_Vi C 125 9 [0] (kx_ifeq (kx_nm [0] (J 23)) (kx_la 0 (kx_gR 9 31 99 (kx_li 1 (kx_aI 99 (kx_c (kx_i 1) (kx_ceq (kx_la 0 (kx_gI 9 1 (kx_ifge (kx_la 0 (kx_gR 9 32 99 (kx_li 1 (kx_aI 99 (kx_iflt (kx_nm [0, 1] (J 64)) (kx_la 0 (kx_li 1 (kx_c (kx_i 0) (kx_Vi C 130 9 [0, 0] (kx_ifge (kx_nm [0, 1] (J 64)) (kx_c (kx_i 1) (kx_nm [0, 1] (J 65))))))))))))) (kx_la 0 (kx_c (kx_i 2) (kx_Vi C 99 9 [0] kx_rz)))))) (kx_nm [0] (J 23)))))))))))))))
def bk_133_23 (d : Nat) (C : kx_C) (J : Nat → kx_F) : kx_F := (kx_la 0 (kx_c (kx_i 1) (kx_Vi C 99 9 [0] kx_rz)))
def bk_133_64 (d : Nat) (C : kx_C) (J : Nat → kx_F) : kx_F := (kx_c (kx_i 0) (kx_nm [0, 1] (J 65)))
def bk_133_65 (d : Nat) (C : kx_C) (J : Nat → kx_F) : kx_F := (kx_si 2 (kx_li 2 (kx_ifeq (kx_nm [0, 1, 2] (J 80)) (kx_la 0 (kx_gR 9 32 99 (kx_li 1 (kx_dup2 (kx_aI 99 (kx_c (kx_i 1) (kx_ii (fun x y => x + y) (kx_asI 99 (kx_nm [0, 1, 2] (J 80)))))))))))))
def bk_133_80 (d : Nat) (C : kx_C) (J : Nat → kx_F) : kx_F := (kx_la 0 (kx_li 2 (kx_li 1 (kx_c (kx_i 1) (kx_c (kx_i 1) (kx_Vi C 127 9 [0, 0, 0, 0] kx_rz))))))
def bm_133 (d : Nat) (C : kx_C) (b : Nat) (J : Nat → kx_F) : kx_F := bif Nat.beq b 0 then bk_133_0 d C J else bif Nat.beq b 23 then bk_133_23 d C J else bif Nat.beq b 64 then bk_133_64 d C J else bif Nat.beq b 65 then bk_133_65 d C J else bif Nat.beq b 80 then bk_133_80 d C J else fun _ _ _ => none
set_option maxRecDepth 20000 in
theorem sk_133_0 (X : kx_X p l e R s m args below meth c s0 D cA 3 ι0 h0 rr hf prog_11_method_48_code "TaskDeskModel" C d (Option.some Jvm.ClassFile.FieldType.boolean) "read" J) : kx_Sn p l e R s m args below meth c s0 D cA 3 ι0 h0 rr hf 0 (bk_133_0 d C J) := by
  obtain ⟨G, CS, R9, O9, RT, NM, T0, FL, JS⟩ := X
  exact (kx_s_aload_n (j := 0) G rfl (by decide +kernel) (kx_s_iconst (i := 0) G (by decide +kernel) (by decide +kernel) (kx_s_pI G kf_9_99 rfl (by decide +kernel) (by decide +kernel) (kx_s_aload_n (j := 0) G rfl (by decide +kernel) (kx_s_iload_n (j := 1) G rfl (by decide +kernel) (kx_s_Vi (n := 125) G kx_good CS R9 (O9 _) kc_125 rfl kw_1206 kw_1208 kw_63 (r := kr_9) rfl (by decide) (by decide +kernel) (kx_s_ifeq (off := 13) (tgt := 23) G (by decide +kernel) rfl (kx_s_nm (JS 23)) (kx_s_aload_n (j := 0) G rfl (by decide +kernel) (kx_s_gR G kf_9_75 (by decide +kernel) (kx_s_iload_n (j := 1) G rfl (by decide +kernel) (kx_s_aI G ka_99 (by decide +kernel) (kx_s_iconst (i := 1) G (by decide +kernel) (by decide +kernel) (kx_s_ceq (off := 9) (tgt := 29) G (by decide +kernel) rfl (kx_s_aload_n (j := 0) G rfl (by decide +kernel) (kx_s_gI G kf_9_106 (by decide +kernel) (kx_s_ifge (off := 9) (tgt := 42) G (by decide +kernel) rfl (kx_s_aload_n (j := 0) G rfl (by decide +kernel) (kx_s_gR G kf_9_78 (by decide +kernel) (kx_s_iload_n (j := 1) G rfl (by decide +kernel) (kx_s_aI G ka_99 (by decide +kernel) (kx_s_iflt (off := 16) (tgt := 64) G (by decide +kernel) rfl (kx_s_nm (JS 64)) (kx_s_aload_n (j := 0) G rfl (by decide +kernel) (kx_s_iload_n (j := 1) G rfl (by decide +kernel) (kx_s_iconst (i := 0) G (by decide +kernel) (by decide +kernel) (kx_s_Vi (n := 130) G kx_good CS R9 (O9 _) kc_130 rfl kw_1226 kw_1228 kw_67 (r := kr_9) rfl (by decide) (by decide +kernel) (kx_s_ifge (off := 7) (tgt := 64) G (by decide +kernel) rfl (kx_s_nm (JS 64)) (kx_s_iconst (i := 1) G (by decide +kernel) (by decide +kernel) (kx_s_goto (off := 4) (tgt := 65) G (by decide +kernel) rfl (kx_s_nm (JS 65)))))))))))))) (kx_s_aload_n (j := 0) G rfl (by decide +kernel) (kx_s_iconst (i := 2) G (by decide +kernel) (by decide +kernel) (kx_s_Vi (n := 99) G kx_good CS R9 (O9 _) kc_99 rfl kw_1101 kw_1103 kw_46 (r := kr_9) rfl (by decide) (by decide +kernel) (kx_s_zreturn G RT (by decide +kernel)))))))) (kx_s_nm (JS 23)))))))))))))))
set_option maxRecDepth 20000 in
theorem sk_133_23 (X : kx_X p l e R s m args below meth c s0 D cA 3 ι0 h0 rr hf prog_11_method_48_code "TaskDeskModel" C d (Option.some Jvm.ClassFile.FieldType.boolean) "read" J) : kx_Sn p l e R s m args below meth c s0 D cA 3 ι0 h0 rr hf 23 (bk_133_23 d C J) := by
  obtain ⟨G, CS, R9, O9, RT, NM, T0, FL, JS⟩ := X
  exact (kx_s_aload_n (j := 0) G rfl (by decide +kernel) (kx_s_iconst (i := 1) G (by decide +kernel) (by decide +kernel) (kx_s_Vi (n := 99) G kx_good CS R9 (O9 _) kc_99 rfl kw_1101 kw_1103 kw_46 (r := kr_9) rfl (by decide) (by decide +kernel) (kx_s_zreturn G RT (by decide +kernel)))))
set_option maxRecDepth 20000 in
theorem sk_133_64 (X : kx_X p l e R s m args below meth c s0 D cA 3 ι0 h0 rr hf prog_11_method_48_code "TaskDeskModel" C d (Option.some Jvm.ClassFile.FieldType.boolean) "read" J) : kx_Sn p l e R s m args below meth c s0 D cA 3 ι0 h0 rr hf 64 (bk_133_64 d C J) := by
  obtain ⟨G, CS, R9, O9, RT, NM, T0, FL, JS⟩ := X
  exact (kx_s_iconst (i := 0) G (by decide +kernel) (by decide +kernel) (kx_s_nm (JS 65)))
set_option maxRecDepth 20000 in
theorem sk_133_65 (X : kx_X p l e R s m args below meth c s0 D cA 3 ι0 h0 rr hf prog_11_method_48_code "TaskDeskModel" C d (Option.some Jvm.ClassFile.FieldType.boolean) "read" J) : kx_Sn p l e R s m args below meth c s0 D cA 3 ι0 h0 rr hf 65 (bk_133_65 d C J) := by
  obtain ⟨G, CS, R9, O9, RT, NM, T0, FL, JS⟩ := X
  exact (kx_s_istore_n (j := 2) G rfl (by decide +kernel) (by decide) (kx_s_iload_n (j := 2) G rfl (by decide +kernel) (kx_s_ifeq (off := 13) (tgt := 80) G (by decide +kernel) rfl (kx_s_nm (JS 80)) (kx_s_aload_n (j := 0) G rfl (by decide +kernel) (kx_s_gR G kf_9_78 (by decide +kernel) (kx_s_iload_n (j := 1) G rfl (by decide +kernel) (kx_s_dup2 G (by decide +kernel) (kx_s_aI G ka_99 (by decide +kernel) (kx_s_iconst (i := 1) G (by decide +kernel) (by decide +kernel) (kx_s_iadd G (by decide +kernel) (kx_s_asI G ka_99 (by decide +kernel) (kx_s_nm (JS 80)))))))))))))
set_option maxRecDepth 20000 in
theorem sk_133_80 (X : kx_X p l e R s m args below meth c s0 D cA 3 ι0 h0 rr hf prog_11_method_48_code "TaskDeskModel" C d (Option.some Jvm.ClassFile.FieldType.boolean) "read" J) : kx_Sn p l e R s m args below meth c s0 D cA 3 ι0 h0 rr hf 80 (bk_133_80 d C J) := by
  obtain ⟨G, CS, R9, O9, RT, NM, T0, FL, JS⟩ := X
  exact (kx_s_aload_n (j := 0) G rfl (by decide +kernel) (kx_s_iload_n (j := 2) G rfl (by decide +kernel) (kx_s_iload_n (j := 1) G rfl (by decide +kernel) (kx_s_iconst (i := 1) G (by decide +kernel) (by decide +kernel) (kx_s_iconst (i := 1) G (by decide +kernel) (by decide +kernel) (kx_s_Vi (n := 127) G kx_good CS R9 (O9 _) kc_127 rfl kw_1214 kw_1216 kw_64 (r := kr_9) rfl (by decide) (by decide +kernel) (kx_s_zreturn G RT (by decide +kernel))))))))
theorem sm_133 (X : kx_X p l e R s m args below meth c s0 D cA 3 ι0 h0 rr hf prog_11_method_48_code "TaskDeskModel" C d (Option.some Jvm.ClassFile.FieldType.boolean) "read" J) (b : Nat) : kx_Sn p l e R s m args below meth c s0 D cA 3 ι0 h0 rr hf b (bm_133 d C b J) := by
  unfold bm_133
  cases h0 : Nat.beq b 0 with
  | true => rw [Nat.eq_of_beq_eq_true h0]; exact sk_133_0 X
  | false =>
   cases h23 : Nat.beq b 23 with
   | true => rw [Nat.eq_of_beq_eq_true h23]; exact sk_133_23 X
   | false =>
    cases h64 : Nat.beq b 64 with
    | true => rw [Nat.eq_of_beq_eq_true h64]; exact sk_133_64 X
    | false =>
     cases h65 : Nat.beq b 65 with
     | true => rw [Nat.eq_of_beq_eq_true h65]; exact sk_133_65 X
     | false =>
      cases h80 : Nat.beq b 80 with
      | true => rw [Nat.eq_of_beq_eq_true h80]; exact sk_133_80 X
      | false =>
       exact kx_s_no
/-! TaskDeskModel.leave(I)V -/
def bk_134_0 (d : Nat) (C : kx_C) (J : Nat → kx_F) : kx_F := (kx_la 0 (kx_la 0 (kx_li 1 (kx_Vi C 125 9 [0] (kx_ifne (kx_la 0 (kx_gI 9 1 (kx_ifge (kx_c (kx_i 0) (kx_nm [0, 1] (J 25))) (kx_c (kx_i 2) (kx_nm [0, 1] (J 25)))))) (kx_c (kx_i 1) (kx_nm [0, 1] (J 25))))))))
def bk_134_25 (d : Nat) (C : kx_C) (J : Nat → kx_F) : kx_F := (kx_pI 9 0 (kx_la 0 (kx_gI 9 0 (kx_ifle (kx_la 0 (kx_gR 9 32 99 (kx_li 1 (kx_aI 99 (kx_si 2 (kx_la 0 (kx_gR 9 31 99 (kx_li 1 (kx_aI 99 (kx_si 3 (kx_li 3 (kx_c (kx_i 1) (kx_cne (kx_li 3 (kx_c (kx_i 4) (kx_cne (kx_li 3 (kx_c (kx_i 3) (kx_ceq (kx_nm [0, 1, 3] (J 90)) (kx_li 2 (kx_ifne (kx_nm [0, 1, 3] (J 90)) (kx_nm [0] (J 84))))))) (kx_li 2 (kx_c (kx_i 1) (kx_ceq (kx_nm [0, 1, 3] (J 90)) (kx_nm [0] (J 84)))))))) (kx_li 2 (kx_iflt (kx_nm [0, 1, 3] (J 90)) (kx_nm [0] (J 84))))))))))))))))) kx_rv))))
def bk_134_84 (d : Nat) (C : kx_C) (J : Nat → kx_F) : kx_F := (kx_la 0 (kx_c (kx_i 3) (kx_pI 9 0 kx_rv)))
def bk_134_90 (d : Nat) (C : kx_C) (J : Nat → kx_F) : kx_F := (kx_li 3 (kx_ifne (kx_li 3 (kx_c (kx_i 1) (kx_cne (kx_li 3 (kx_c (kx_i 2) (kx_cne (kx_li 3 (kx_c (kx_i 3) (kx_cne (kx_la 0 (kx_gR 9 32 99 (kx_li 1 (kx_c (kx_i 2) (kx_asI 99 (kx_la 0 (kx_li 1 (kx_c (kx_i 0) (kx_Vv C 138 9 [0, 0] (kx_nm [] (J 155))))))))))) (kx_la 0 (kx_li 1 (kx_Vv C 139 9 [0] (kx_nm [] (J 155)))))))) (kx_la 0 (kx_li 1 (kx_c (kx_i (-1)) (kx_Vv C 137 9 [0, 0] (kx_nm [] (J 155))))))))) (kx_la 0 (kx_li 1 (kx_Vv C 135 9 [0] (kx_nm [] (J 155)))))))) (kx_la 0 (kx_li 1 (kx_Vv C 129 9 [0] (kx_nm [] (J 155)))))))
def bk_134_155 (d : Nat) (C : kx_C) (J : Nat → kx_F) : kx_F := kx_rv
def bm_134 (d : Nat) (C : kx_C) (b : Nat) (J : Nat → kx_F) : kx_F := bif Nat.beq b 0 then bk_134_0 d C J else bif Nat.beq b 25 then bk_134_25 d C J else bif Nat.beq b 84 then bk_134_84 d C J else bif Nat.beq b 90 then bk_134_90 d C J else bif Nat.beq b 155 then bk_134_155 d C J else fun _ _ _ => none
set_option maxRecDepth 20000 in
theorem sk_134_0 (X : kx_X p l e R s m args below meth c s0 D cA 4 ι0 h0 rr hf prog_11_method_49_code "TaskDeskModel" C d (Option.none : Option Jvm.ClassFile.FieldType) "leave" J) : kx_Sn p l e R s m args below meth c s0 D cA 4 ι0 h0 rr hf 0 (bk_134_0 d C J) := by
  obtain ⟨G, CS, R9, O9, RT, NM, T0, FL, JS⟩ := X
  exact (kx_s_aload_n (j := 0) G rfl (by decide +kernel) (kx_s_aload_n (j := 0) G rfl (by decide +kernel) (kx_s_iload_n (j := 1) G rfl (by decide +kernel) (kx_s_Vi (n := 125) G kx_good CS R9 (O9 _) kc_125 rfl kw_1206 kw_1208 kw_63 (r := kr_9) rfl (by decide) (by decide +kernel) (kx_s_ifne (off := 7) (tgt := 13) G (by decide +kernel) rfl (kx_s_aload_n (j := 0) G rfl (by decide +kernel) (kx_s_gI G kf_9_106 (by decide +kernel) (kx_s_ifge (off := 7) (tgt := 24) G (by decide +kernel) rfl (kx_s_iconst (i := 0) G (by decide +kernel) (by decide +kernel) (kx_s_nm (JS 25))) (kx_s_iconst (i := 2) G (by decide +kernel) (by decide +kernel) (kx_s_goto (off := 4) (tgt := 25) G (by decide +kernel) rfl (kx_s_nm (JS 25))))))) (kx_s_iconst (i := 1) G (by decide +kernel) (by decide +kernel) (kx_s_goto (off := 15) (tgt := 25) G (by decide +kernel) rfl (kx_s_nm (JS 25)))))))))
set_option maxRecDepth 20000 in
theorem sk_134_25 (X : kx_X p l e R s m args below meth c s0 D cA 4 ι0 h0 rr hf prog_11_method_49_code "TaskDeskModel" C d (Option.none : Option Jvm.ClassFile.FieldType) "leave" J) : kx_Sn p l e R s m args below meth c s0 D cA 4 ι0 h0 rr hf 25 (bk_134_25 d C J) := by
  obtain ⟨G, CS, R9, O9, RT, NM, T0, FL, JS⟩ := X
  exact (kx_s_pI G kf_9_99 rfl (by decide +kernel) (by decide +kernel) (kx_s_aload_n (j := 0) G rfl (by decide +kernel) (kx_s_gI G kf_9_99 (by decide +kernel) (kx_s_ifle (off := 4) (tgt := 36) G (by decide +kernel) rfl (kx_s_aload_n (j := 0) G rfl (by decide +kernel) (kx_s_gR G kf_9_78 (by decide +kernel) (kx_s_iload_n (j := 1) G rfl (by decide +kernel) (kx_s_aI G ka_99 (by decide +kernel) (kx_s_istore_n (j := 2) G rfl (by decide +kernel) (by decide) (kx_s_aload_n (j := 0) G rfl (by decide +kernel) (kx_s_gR G kf_9_75 (by decide +kernel) (kx_s_iload_n (j := 1) G rfl (by decide +kernel) (kx_s_aI G ka_99 (by decide +kernel) (kx_s_istore_n (j := 3) G rfl (by decide +kernel) (by decide) (kx_s_iload_n (j := 3) G rfl (by decide +kernel) (kx_s_iconst (i := 1) G (by decide +kernel) (by decide +kernel) (kx_s_cne (off := 10) (tgt := 62) G (by decide +kernel) rfl (kx_s_iload_n (j := 3) G rfl (by decide +kernel) (kx_s_iconst (i := 4) G (by decide +kernel) (by decide +kernel) (kx_s_cne (off := 11) (tgt := 75) G (by decide +kernel) rfl (kx_s_iload_n (j := 3) G rfl (by decide +kernel) (kx_s_iconst (i := 3) G (by decide +kernel) (by decide +kernel) (kx_s_ceq (off := 13) (tgt := 90) G (by decide +kernel) rfl (kx_s_nm (JS 90)) (kx_s_iload_n (j := 2) G rfl (by decide +kernel) (kx_s_ifne (off := 9) (tgt := 90) G (by decide +kernel) rfl (kx_s_nm (JS 90)) (kx_s_nm (JS 84))))))) (kx_s_iload_n (j := 2) G rfl (by decide +kernel) (kx_s_iconst (i := 1) G (by decide +kernel) (by decide +kernel) (kx_s_ceq (off := 21) (tgt := 90) G (by decide +kernel) rfl (kx_s_nm (JS 90)) (kx_s_goto (off := 12) (tgt := 84) G (by decide +kernel) rfl (kx_s_nm (JS 84))))))))) (kx_s_iload_n (j := 2) G rfl (by decide +kernel) (kx_s_iflt (off := 34) (tgt := 90) G (by decide +kernel) rfl (kx_s_nm (JS 90)) (kx_s_goto (off := 25) (tgt := 84) G (by decide +kernel) rfl (kx_s_nm (JS 84)))))))))))))))))) (kx_s_return G RT (by decide +kernel))))))
set_option maxRecDepth 20000 in
theorem sk_134_84 (X : kx_X p l e R s m args below meth c s0 D cA 4 ι0 h0 rr hf prog_11_method_49_code "TaskDeskModel" C d (Option.none : Option Jvm.ClassFile.FieldType) "leave" J) : kx_Sn p l e R s m args below meth c s0 D cA 4 ι0 h0 rr hf 84 (bk_134_84 d C J) := by
  obtain ⟨G, CS, R9, O9, RT, NM, T0, FL, JS⟩ := X
  exact (kx_s_aload_n (j := 0) G rfl (by decide +kernel) (kx_s_iconst (i := 3) G (by decide +kernel) (by decide +kernel) (kx_s_pI G kf_9_99 rfl (by decide +kernel) (by decide +kernel) (kx_s_return G RT (by decide +kernel)))))
set_option maxRecDepth 20000 in
theorem sk_134_90 (X : kx_X p l e R s m args below meth c s0 D cA 4 ι0 h0 rr hf prog_11_method_49_code "TaskDeskModel" C d (Option.none : Option Jvm.ClassFile.FieldType) "leave" J) : kx_Sn p l e R s m args below meth c s0 D cA 4 ι0 h0 rr hf 90 (bk_134_90 d C J) := by
  obtain ⟨G, CS, R9, O9, RT, NM, T0, FL, JS⟩ := X
  exact (kx_s_iload_n (j := 3) G rfl (by decide +kernel) (kx_s_ifne (off := 11) (tgt := 102) G (by decide +kernel) rfl (kx_s_iload_n (j := 3) G rfl (by decide +kernel) (kx_s_iconst (i := 1) G (by decide +kernel) (by decide +kernel) (kx_s_cne (off := 11) (tgt := 115) G (by decide +kernel) rfl (kx_s_iload_n (j := 3) G rfl (by decide +kernel) (kx_s_iconst (i := 2) G (by decide +kernel) (by decide +kernel) (kx_s_cne (off := 12) (tgt := 129) G (by decide +kernel) rfl (kx_s_iload_n (j := 3) G rfl (by decide +kernel) (kx_s_iconst (i := 3) G (by decide +kernel) (by decide +kernel) (kx_s_cne (off := 11) (tgt := 142) G (by decide +kernel) rfl (kx_s_aload_n (j := 0) G rfl (by decide +kernel) (kx_s_gR G kf_9_78 (by decide +kernel) (kx_s_iload_n (j := 1) G rfl (by decide +kernel) (kx_s_iconst (i := 2) G (by decide +kernel) (by decide +kernel) (kx_s_asI G ka_99 (by decide +kernel) (kx_s_aload_n (j := 0) G rfl (by decide +kernel) (kx_s_iload_n (j := 1) G rfl (by decide +kernel) (kx_s_iconst (i := 0) G (by decide +kernel) (by decide +kernel) (kx_s_Vv (n := 138) G kx_good CS R9 (O9 _) kc_138 rfl kw_1258 kw_1260 kw_73 (r := kr_9) rfl (by decide) (by decide +kernel) (kx_s_nm (JS 155))))))))))) (kx_s_aload_n (j := 0) G rfl (by decide +kernel) (kx_s_iload_n (j := 1) G rfl (by decide +kernel) (kx_s_Vv (n := 139) G kx_good CS R9 (O9 _) kc_139 rfl kw_1262 kw_1264 kw_74 (r := kr_9) rfl (by decide) (by decide +kernel) (kx_s_goto (off := 16) (tgt := 155) G (by decide +kernel) rfl (kx_s_nm (JS 155))))))))) (kx_s_aload_n (j := 0) G rfl (by decide +kernel) (kx_s_iload_n (j := 1) G rfl (by decide +kernel) (kx_s_iconst (i := -1) G (by decide +kernel) (by decide +kernel) (kx_s_Vv (n := 137) G kx_good CS R9 (O9 _) kc_137 rfl kw_1254 kw_1256 kw_72 (r := kr_9) rfl (by decide) (by decide +kernel) (kx_s_goto (off := 29) (tgt := 155) G (by decide +kernel) rfl (kx_s_nm (JS 155)))))))))) (kx_s_aload_n (j := 0) G rfl (by decide +kernel) (kx_s_iload_n (j := 1) G rfl (by decide +kernel) (kx_s_Vv (n := 135) G kx_good CS R9 (O9 _) kc_135 rfl kw_1246 kw_1248 kw_70 (r := kr_9) rfl (by decide) (by decide +kernel) (kx_s_goto (off := 43) (tgt := 155) G (by decide +kernel) rfl (kx_s_nm (JS 155))))))))) (kx_s_aload_n (j := 0) G rfl (by decide +kernel) (kx_s_iload_n (j := 1) G rfl (by decide +kernel) (kx_s_Vv (n := 129) G kx_good CS R9 (O9 _) kc_129 rfl kw_1222 kw_1224 kw_66 (r := kr_9) rfl (by decide) (by decide +kernel) (kx_s_goto (off := 56) (tgt := 155) G (by decide +kernel) rfl (kx_s_nm (JS 155))))))))
set_option maxRecDepth 20000 in
theorem sk_134_155 (X : kx_X p l e R s m args below meth c s0 D cA 4 ι0 h0 rr hf prog_11_method_49_code "TaskDeskModel" C d (Option.none : Option Jvm.ClassFile.FieldType) "leave" J) : kx_Sn p l e R s m args below meth c s0 D cA 4 ι0 h0 rr hf 155 (bk_134_155 d C J) := by
  obtain ⟨G, CS, R9, O9, RT, NM, T0, FL, JS⟩ := X
  exact (kx_s_return G RT (by decide +kernel))
theorem sm_134 (X : kx_X p l e R s m args below meth c s0 D cA 4 ι0 h0 rr hf prog_11_method_49_code "TaskDeskModel" C d (Option.none : Option Jvm.ClassFile.FieldType) "leave" J) (b : Nat) : kx_Sn p l e R s m args below meth c s0 D cA 4 ι0 h0 rr hf b (bm_134 d C b J) := by
  unfold bm_134
  cases h0 : Nat.beq b 0 with
  | true => rw [Nat.eq_of_beq_eq_true h0]; exact sk_134_0 X
  | false =>
   cases h25 : Nat.beq b 25 with
   | true => rw [Nat.eq_of_beq_eq_true h25]; exact sk_134_25 X
   | false =>
    cases h84 : Nat.beq b 84 with
    | true => rw [Nat.eq_of_beq_eq_true h84]; exact sk_134_84 X
    | false =>
     cases h90 : Nat.beq b 90 with
     | true => rw [Nat.eq_of_beq_eq_true h90]; exact sk_134_90 X
     | false =>
      cases h155 : Nat.beq b 155 with
      | true => rw [Nat.eq_of_beq_eq_true h155]; exact sk_134_155 X
      | false =>
       exact kx_s_no
/-! TaskDeskModel.letReaders(I)V -/
def bk_135_0 (d : Nat) (C : kx_C) (J : Nat → kx_F) : kx_F := (kx_la 0 (kx_gR 9 32 99 (kx_li 1 (kx_c (kx_i 0) (kx_asI 99 (kx_la 0 (kx_li 1 (kx_c (kx_i 1) (kx_Vi C 130 9 [0, 0] (kx_si 2 (kx_nm [0, 1, 2] (J 14))))))))))))
def bk_135_14 (d : Nat) (C : kx_C) (J : Nat → kx_F) : kx_F := (kx_li 2 (kx_iflt (kx_la 0 (kx_gR 9 32 99 (kx_li 1 (kx_aI 99 (kx_ifne (kx_nm [] (J 58)) (kx_la 0 (kx_li 1 (kx_Vv C 136 9 [0] (kx_nm [] (J 58)))))))))) (kx_la 0 (kx_gR 9 32 99 (kx_li 1 (kx_dup2 (kx_aI 99 (kx_c (kx_i 1) (kx_ii (fun x y => x + y) (kx_asI 99 (kx_la 0 (kx_li 2 (kx_c (kx_i 1) (kx_Vv C 131 9 [0, 0] (kx_la 0 (kx_li 1 (kx_c (kx_i 1) (kx_Vi C 130 9 [0, 0] (kx_si 2 (kx_nm [0, 1, 2] (J 14)))))))))))))))))))))
def bk_135_58 (d : Nat) (C : kx_C) (J : Nat → kx_F) : kx_F := kx_rv
def bm_135 (d : Nat) (C : kx_C) (b : Nat) (J : Nat → kx_F) : kx_F := bif Nat.beq b 0 then bk_135_0 d C J else bif Nat.beq b 14 then bk_135_14 d C J else bif Nat.beq b 58 then bk_135_58 d C J else fun _ _ _ => none
set_option maxRecDepth 20000 in
theorem sk_135_0 (X : kx_X p l e R s m args below meth c s0 D cA 3 ι0 h0 rr hf prog_11_method_50_code "TaskDeskModel" C d (Option.none : Option Jvm.ClassFile.FieldType) "letReaders" J) : kx_Sn p l e R s m args below meth c s0 D cA 3 ι0 h0 rr hf 0 (bk_135_0 d C J) := by
  obtain ⟨G, CS, R9, O9, RT, NM, T0, FL, JS⟩ := X
  exact (kx_s_aload_n (j := 0) G rfl (by decide +kernel) (kx_s_gR G kf_9_78 (by decide +kernel) (kx_s_iload_n (j := 1) G rfl (by decide +kernel) (kx_s_iconst (i := 0) G (by decide +kernel) (by decide +kernel) (kx_s_asI G ka_99 (by decide +kernel) (kx_s_aload_n (j := 0) G rfl (by decide +kernel) (kx_s_iload_n (j := 1) G rfl (by decide +kernel) (kx_s_iconst (i := 1) G (by decide +kernel) (by decide +kernel) (kx_s_Vi (n := 130) G kx_good CS R9 (O9 _) kc_130 rfl kw_1226 kw_1228 kw_67 (r := kr_9) rfl (by decide) (by decide +kernel) (kx_s_istore_n (j := 2) G rfl (by decide +kernel) (by decide) (kx_s_nm (JS 14))))))))))))
set_option maxRecDepth 20000 in
theorem sk_135_14 (X : kx_X p l e R s m args below meth c s0 D cA 3 ι0 h0 rr hf prog_11_method_50_code "TaskDeskModel" C d (Option.none : Option Jvm.ClassFile.FieldType) "letReaders" J) : kx_Sn p l e R s m args below meth c s0 D cA 3 ι0 h0 rr hf 14 (bk_135_14 d C J) := by
  obtain ⟨G, CS, R9, O9, RT, NM, T0, FL, JS⟩ := X
  exact (kx_s_iload_n (j := 2) G rfl (by decide +kernel) (kx_s_iflt (off := 29) (tgt := 44) G (by decide +kernel) rfl (kx_s_aload_n (j := 0) G rfl (by decide +kernel) (kx_s_gR G kf_9_78 (by decide +kernel) (kx_s_iload_n (j := 1) G rfl (by decide +kernel) (kx_s_aI G ka_99 (by decide +kernel) (kx_s_ifne (off := 8) (tgt := 58) G (by decide +kernel) rfl (kx_s_nm (JS 58)) (kx_s_aload_n (j := 0) G rfl (by decide +kernel) (kx_s_iload_n (j := 1) G rfl (by decide +kernel) (kx_s_Vv (n := 136) G kx_good CS R9 (O9 _) kc_136 rfl kw_1250 kw_1252 kw_71 (r := kr_9) rfl (by decide) (by decide +kernel) (kx_s_nm (JS 58)))))))))) (kx_s_aload_n (j := 0) G rfl (by decide +kernel) (kx_s_gR G kf_9_78 (by decide +kernel) (kx_s_iload_n (j := 1) G rfl (by decide +kernel) (kx_s_dup2 G (by decide +kernel) (kx_s_aI G ka_99 (by decide +kernel) (kx_s_iconst (i := 1) G (by decide +kernel) (by decide +kernel) (kx_s_iadd G (by decide +kernel) (kx_s_asI G ka_99 (by decide +kernel) (kx_s_aload_n (j := 0) G rfl (by decide +kernel) (kx_s_iload_n (j := 2) G rfl (by decide +kernel) (kx_s_iconst (i := 1) G (by decide +kernel) (by decide +kernel) (kx_s_Vv (n := 131) G kx_good CS R9 (O9 _) kc_131 rfl kw_1230 kw_1232 kw_68 (r := kr_9) rfl (by decide) (by decide +kernel) (kx_s_aload_n (j := 0) G rfl (by decide +kernel) (kx_s_iload_n (j := 1) G rfl (by decide +kernel) (kx_s_iconst (i := 1) G (by decide +kernel) (by decide +kernel) (kx_s_Vi (n := 130) G kx_good CS R9 (O9 _) kc_130 rfl kw_1226 kw_1228 kw_67 (r := kr_9) rfl (by decide) (by decide +kernel) (kx_s_istore_n (j := 2) G rfl (by decide +kernel) (by decide) (kx_s_goto (off := -27) (tgt := 14) G (by decide +kernel) rfl (kx_s_nm (JS 14))))))))))))))))))))))
set_option maxRecDepth 20000 in
theorem sk_135_58 (X : kx_X p l e R s m args below meth c s0 D cA 3 ι0 h0 rr hf prog_11_method_50_code "TaskDeskModel" C d (Option.none : Option Jvm.ClassFile.FieldType) "letReaders" J) : kx_Sn p l e R s m args below meth c s0 D cA 3 ι0 h0 rr hf 58 (bk_135_58 d C J) := by
  obtain ⟨G, CS, R9, O9, RT, NM, T0, FL, JS⟩ := X
  exact (kx_s_return G RT (by decide +kernel))
theorem sm_135 (X : kx_X p l e R s m args below meth c s0 D cA 3 ι0 h0 rr hf prog_11_method_50_code "TaskDeskModel" C d (Option.none : Option Jvm.ClassFile.FieldType) "letReaders" J) (b : Nat) : kx_Sn p l e R s m args below meth c s0 D cA 3 ι0 h0 rr hf b (bm_135 d C b J) := by
  unfold bm_135
  cases h0 : Nat.beq b 0 with
  | true => rw [Nat.eq_of_beq_eq_true h0]; exact sk_135_0 X
  | false =>
   cases h14 : Nat.beq b 14 with
   | true => rw [Nat.eq_of_beq_eq_true h14]; exact sk_135_14 X
   | false =>
    cases h58 : Nat.beq b 58 with
    | true => rw [Nat.eq_of_beq_eq_true h58]; exact sk_135_58 X
    | false =>
     exact kx_s_no
/-! TaskDeskModel.letWriter(I)V -/
def bk_136_0 (d : Nat) (C : kx_C) (J : Nat → kx_F) : kx_F := (kx_la 0 (kx_li 1 (kx_c (kx_i 0) (kx_Vi C 130 9 [0, 0] (kx_si 2 (kx_li 2 (kx_ifge (kx_la 0 (kx_gR 9 32 99 (kx_li 1 (kx_c (kx_i (-1)) (kx_asI 99 (kx_la 0 (kx_li 2 (kx_c (kx_i 1) (kx_Vv C 131 9 [0, 0] kx_rv))))))))) kx_rv)))))))
def bm_136 (d : Nat) (C : kx_C) (b : Nat) (J : Nat → kx_F) : kx_F := bif Nat.beq b 0 then bk_136_0 d C J else fun _ _ _ => none
set_option maxRecDepth 20000 in
theorem sk_136_0 (X : kx_X p l e R s m args below meth c s0 D cA 3 ι0 h0 rr hf prog_11_method_51_code "TaskDeskModel" C d (Option.none : Option Jvm.ClassFile.FieldType) "letWriter" J) : kx_Sn p l e R s m args below meth c s0 D cA 3 ι0 h0 rr hf 0 (bk_136_0 d C J) := by
  obtain ⟨G, CS, R9, O9, RT, NM, T0, FL, JS⟩ := X
  exact (kx_s_aload_n (j := 0) G rfl (by decide +kernel) (kx_s_iload_n (j := 1) G rfl (by decide +kernel) (kx_s_iconst (i := 0) G (by decide +kernel) (by decide +kernel) (kx_s_Vi (n := 130) G kx_good CS R9 (O9 _) kc_130 rfl kw_1226 kw_1228 kw_67 (r := kr_9) rfl (by decide) (by decide +kernel) (kx_s_istore_n (j := 2) G rfl (by decide +kernel) (by decide) (kx_s_iload_n (j := 2) G rfl (by decide +kernel) (kx_s_ifge (off := 4) (tgt := 12) G (by decide +kernel) rfl (kx_s_aload_n (j := 0) G rfl (by decide +kernel) (kx_s_gR G kf_9_78 (by decide +kernel) (kx_s_iload_n (j := 1) G rfl (by decide +kernel) (kx_s_iconst (i := -1) G (by decide +kernel) (by decide +kernel) (kx_s_asI G ka_99 (by decide +kernel) (kx_s_aload_n (j := 0) G rfl (by decide +kernel) (kx_s_iload_n (j := 2) G rfl (by decide +kernel) (kx_s_iconst (i := 1) G (by decide +kernel) (by decide +kernel) (kx_s_Vv (n := 131) G kx_good CS R9 (O9 _) kc_131 rfl kw_1230 kw_1232 kw_68 (r := kr_9) rfl (by decide) (by decide +kernel) (kx_s_return G RT (by decide +kernel))))))))))) (kx_s_return G RT (by decide +kernel)))))))))
theorem sm_136 (X : kx_X p l e R s m args below meth c s0 D cA 3 ι0 h0 rr hf prog_11_method_51_code "TaskDeskModel" C d (Option.none : Option Jvm.ClassFile.FieldType) "letWriter" J) (b : Nat) : kx_Sn p l e R s m args below meth c s0 D cA 3 ι0 h0 rr hf b (bm_136 d C b J) := by
  unfold bm_136
  cases h0 : Nat.beq b 0 with
  | true => rw [Nat.eq_of_beq_eq_true h0]; exact sk_136_0 X
  | false =>
   exact kx_s_no
/-! TaskDeskModel.grow(II)V -/
def bk_137_0 (d : Nat) (C : kx_C) (J : Nat → kx_F) : kx_F := (kx_la 0 (kx_gR 9 32 99 (kx_li 1 (kx_dup2 (kx_aI 99 (kx_li 2 (kx_ii (fun x y => x + y) (kx_asI 99 (kx_la 0 (kx_gR 9 32 99 (kx_li 1 (kx_aI 99 (kx_ifne (kx_nm [] (J 25)) (kx_la 0 (kx_li 1 (kx_c (kx_i 1) (kx_Vv C 138 9 [0, 0] (kx_nm [] (J 25)))))))))))))))))))
def bk_137_25 (d : Nat) (C : kx_C) (J : Nat → kx_F) : kx_F := kx_rv
def bm_137 (d : Nat) (C : kx_C) (b : Nat) (J : Nat → kx_F) : kx_F := bif Nat.beq b 0 then bk_137_0 d C J else bif Nat.beq b 25 then bk_137_25 d C J else fun _ _ _ => none
set_option maxRecDepth 20000 in
theorem sk_137_0 (X : kx_X p l e R s m args below meth c s0 D cA 3 ι0 h0 rr hf prog_11_method_52_code "TaskDeskModel" C d (Option.none : Option Jvm.ClassFile.FieldType) "grow" J) : kx_Sn p l e R s m args below meth c s0 D cA 3 ι0 h0 rr hf 0 (bk_137_0 d C J) := by
  obtain ⟨G, CS, R9, O9, RT, NM, T0, FL, JS⟩ := X
  exact (kx_s_aload_n (j := 0) G rfl (by decide +kernel) (kx_s_gR G kf_9_78 (by decide +kernel) (kx_s_iload_n (j := 1) G rfl (by decide +kernel) (kx_s_dup2 G (by decide +kernel) (kx_s_aI G ka_99 (by decide +kernel) (kx_s_iload_n (j := 2) G rfl (by decide +kernel) (kx_s_iadd G (by decide +kernel) (kx_s_asI G ka_99 (by decide +kernel) (kx_s_aload_n (j := 0) G rfl (by decide +kernel) (kx_s_gR G kf_9_78 (by decide +kernel) (kx_s_iload_n (j := 1) G rfl (by decide +kernel) (kx_s_aI G ka_99 (by decide +kernel) (kx_s_ifne (off := 9) (tgt := 25) G (by decide +kernel) rfl (kx_s_nm (JS 25)) (kx_s_aload_n (j := 0) G rfl (by decide +kernel) (kx_s_iload_n (j := 1) G rfl (by decide +kernel) (kx_s_iconst (i := 1) G (by decide +kernel) (by decide +kernel) (kx_s_Vv (n := 138) G kx_good CS R9 (O9 _) kc_138 rfl kw_1258 kw_1260 kw_73 (r := kr_9) rfl (by decide) (by decide +kernel) (kx_s_nm (JS 25)))))))))))))))))))
set_option maxRecDepth 20000 in
theorem sk_137_25 (X : kx_X p l e R s m args below meth c s0 D cA 3 ι0 h0 rr hf prog_11_method_52_code "TaskDeskModel" C d (Option.none : Option Jvm.ClassFile.FieldType) "grow" J) : kx_Sn p l e R s m args below meth c s0 D cA 3 ι0 h0 rr hf 25 (bk_137_25 d C J) := by
  obtain ⟨G, CS, R9, O9, RT, NM, T0, FL, JS⟩ := X
  exact (kx_s_return G RT (by decide +kernel))
theorem sm_137 (X : kx_X p l e R s m args below meth c s0 D cA 3 ι0 h0 rr hf prog_11_method_52_code "TaskDeskModel" C d (Option.none : Option Jvm.ClassFile.FieldType) "grow" J) (b : Nat) : kx_Sn p l e R s m args below meth c s0 D cA 3 ι0 h0 rr hf b (bm_137 d C b J) := by
  unfold bm_137
  cases h0 : Nat.beq b 0 with
  | true => rw [Nat.eq_of_beq_eq_true h0]; exact sk_137_0 X
  | false =>
   cases h25 : Nat.beq b 25 with
   | true => rw [Nat.eq_of_beq_eq_true h25]; exact sk_137_25 X
   | false =>
    exact kx_s_no
/-! TaskDeskModel.letAll(IZ)V -/
def bk_138_0 (d : Nat) (C : kx_C) (J : Nat → kx_F) : kx_F := (kx_la 0 (kx_li 1 (kx_c (kx_i 2) (kx_Vi C 130 9 [0, 0] (kx_si 3 (kx_nm [0, 1, 2, 3] (J 7)))))))
def bk_138_7 (d : Nat) (C : kx_C) (J : Nat → kx_F) : kx_F := (kx_li 3 (kx_iflt kx_rv (kx_la 0 (kx_li 3 (kx_li 2 (kx_Vv C 131 9 [0, 0] (kx_la 0 (kx_li 1 (kx_c (kx_i 2) (kx_Vi C 130 9 [0, 0] (kx_si 3 (kx_nm [0, 1, 2, 3] (J 7)))))))))))))
def bm_138 (d : Nat) (C : kx_C) (b : Nat) (J : Nat → kx_F) : kx_F := bif Nat.beq b 0 then bk_138_0 d C J else bif Nat.beq b 7 then bk_138_7 d C J else fun _ _ _ => none
set_option maxRecDepth 20000 in
theorem sk_138_0 (X : kx_X p l e R s m args below meth c s0 D cA 4 ι0 h0 rr hf prog_11_method_43_code "TaskDeskModel" C d (Option.none : Option Jvm.ClassFile.FieldType) "letAll" J) : kx_Sn p l e R s m args below meth c s0 D cA 4 ι0 h0 rr hf 0 (bk_138_0 d C J) := by
  obtain ⟨G, CS, R9, O9, RT, NM, T0, FL, JS⟩ := X
  exact (kx_s_aload_n (j := 0) G rfl (by decide +kernel) (kx_s_iload_n (j := 1) G rfl (by decide +kernel) (kx_s_iconst (i := 2) G (by decide +kernel) (by decide +kernel) (kx_s_Vi (n := 130) G kx_good CS R9 (O9 _) kc_130 rfl kw_1226 kw_1228 kw_67 (r := kr_9) rfl (by decide) (by decide +kernel) (kx_s_istore_n (j := 3) G rfl (by decide +kernel) (by decide) (kx_s_nm (JS 7)))))))
set_option maxRecDepth 20000 in
theorem sk_138_7 (X : kx_X p l e R s m args below meth c s0 D cA 4 ι0 h0 rr hf prog_11_method_43_code "TaskDeskModel" C d (Option.none : Option Jvm.ClassFile.FieldType) "letAll" J) : kx_Sn p l e R s m args below meth c s0 D cA 4 ι0 h0 rr hf 7 (bk_138_7 d C J) := by
  obtain ⟨G, CS, R9, O9, RT, NM, T0, FL, JS⟩ := X
  exact (kx_s_iload_n (j := 3) G rfl (by decide +kernel) (kx_s_iflt (off := 19) (tgt := 27) G (by decide +kernel) rfl (kx_s_return G RT (by decide +kernel)) (kx_s_aload_n (j := 0) G rfl (by decide +kernel) (kx_s_iload_n (j := 3) G rfl (by decide +kernel) (kx_s_iload_n (j := 2) G rfl (by decide +kernel) (kx_s_Vv (n := 131) G kx_good CS R9 (O9 _) kc_131 rfl kw_1230 kw_1232 kw_68 (r := kr_9) rfl (by decide) (by decide +kernel) (kx_s_aload_n (j := 0) G rfl (by decide +kernel) (kx_s_iload_n (j := 1) G rfl (by decide +kernel) (kx_s_iconst (i := 2) G (by decide +kernel) (by decide +kernel) (kx_s_Vi (n := 130) G kx_good CS R9 (O9 _) kc_130 rfl kw_1226 kw_1228 kw_67 (r := kr_9) rfl (by decide) (by decide +kernel) (kx_s_istore_n (j := 3) G rfl (by decide +kernel) (by decide) (kx_s_goto (off := -17) (tgt := 7) G (by decide +kernel) rfl (kx_s_nm (JS 7))))))))))))))
theorem sm_138 (X : kx_X p l e R s m args below meth c s0 D cA 4 ι0 h0 rr hf prog_11_method_43_code "TaskDeskModel" C d (Option.none : Option Jvm.ClassFile.FieldType) "letAll" J) (b : Nat) : kx_Sn p l e R s m args below meth c s0 D cA 4 ι0 h0 rr hf b (bm_138 d C b J) := by
  unfold bm_138
  cases h0 : Nat.beq b 0 with
  | true => rw [Nat.eq_of_beq_eq_true h0]; exact sk_138_0 X
  | false =>
   cases h7 : Nat.beq b 7 with
   | true => rw [Nat.eq_of_beq_eq_true h7]; exact sk_138_7 X
   | false =>
    exact kx_s_no
/-! TaskDeskModel.signal(I)V -/
def bk_139_0 (d : Nat) (C : kx_C) (J : Nat → kx_F) : kx_F := (kx_la 0 (kx_li 1 (kx_c (kx_i 2) (kx_Vi C 130 9 [0, 0] (kx_si 2 (kx_la 0 (kx_gR 9 33 99 (kx_li 1 (kx_aI 99 (kx_si 3 (kx_li 2 (kx_ifge (kx_la 0 (kx_gR 9 32 99 (kx_li 3 (kx_aI 99 (kx_ifne (kx_la 0 (kx_li 2 (kx_Vi C 132 9 [0] (kx_si 4 (kx_la 0 (kx_gR 9 6 99 (kx_li 4 (kx_li 3 (kx_asI 99 (kx_la 0 (kx_li 4 (kx_li 3 (kx_c (kx_i 0) (kx_Vv C 128 9 [0, 0, 0] kx_rv)))))))))))))) (kx_la 0 (kx_gR 9 32 99 (kx_li 3 (kx_c (kx_i 1) (kx_asI 99 (kx_la 0 (kx_li 2 (kx_c (kx_i 1) (kx_Vv C 131 9 [0, 0] kx_rv)))))))))))))) kx_rv))))))))))))
def bm_139 (d : Nat) (C : kx_C) (b : Nat) (J : Nat → kx_F) : kx_F := bif Nat.beq b 0 then bk_139_0 d C J else fun _ _ _ => none
set_option maxRecDepth 20000 in
theorem sk_139_0 (X : kx_X p l e R s m args below meth c s0 D cA 5 ι0 h0 rr hf prog_11_method_45_code "TaskDeskModel" C d (Option.none : Option Jvm.ClassFile.FieldType) "signal" J) : kx_Sn p l e R s m args below meth c s0 D cA 5 ι0 h0 rr hf 0 (bk_139_0 d C J) := by
  obtain ⟨G, CS, R9, O9, RT, NM, T0, FL, JS⟩ := X
  exact (kx_s_aload_n (j := 0) G rfl (by decide +kernel) (kx_s_iload_n (j := 1) G rfl (by decide +kernel) (kx_s_iconst (i := 2) G (by decide +kernel) (by decide +kernel) (kx_s_Vi (n := 130) G kx_good CS R9 (O9 _) kc_130 rfl kw_1226 kw_1228 kw_67 (r := kr_9) rfl (by decide) (by decide +kernel) (kx_s_istore_n (j := 2) G rfl (by decide +kernel) (by decide) (kx_s_aload_n (j := 0) G rfl (by decide +kernel) (kx_s_gR G kf_9_81 (by decide +kernel) (kx_s_iload_n (j := 1) G rfl (by decide +kernel) (kx_s_aI G ka_99 (by decide +kernel) (kx_s_istore_n (j := 3) G rfl (by decide +kernel) (by decide) (kx_s_iload_n (j := 2) G rfl (by decide +kernel) (kx_s_ifge (off := 4) (tgt := 19) G (by decide +kernel) rfl (kx_s_aload_n (j := 0) G rfl (by decide +kernel) (kx_s_gR G kf_9_78 (by decide +kernel) (kx_s_iload_n (j := 3) G rfl (by decide +kernel) (kx_s_aI G ka_99 (by decide +kernel) (kx_s_ifne (off := 17) (tgt := 42) G (by decide +kernel) rfl (kx_s_aload_n (j := 0) G rfl (by decide +kernel) (kx_s_iload_n (j := 2) G rfl (by decide +kernel) (kx_s_Vi (n := 132) G kx_good CS R9 (O9 _) kc_132 rfl kw_1234 kw_1236 kw_69 (r := kr_9) rfl (by decide) (by decide +kernel) (kx_s_istore G (by decide +kernel) (by decide) (kx_s_aload_n (j := 0) G rfl (by decide +kernel) (kx_s_gR G kf_9_17 (by decide +kernel) (kx_s_iload G (by decide +kernel) (kx_s_iload_n (j := 3) G rfl (by decide +kernel) (kx_s_asI G ka_99 (by decide +kernel) (kx_s_aload_n (j := 0) G rfl (by decide +kernel) (kx_s_iload G (by decide +kernel) (kx_s_iload_n (j := 3) G rfl (by decide +kernel) (kx_s_iconst (i := 0) G (by decide +kernel) (by decide +kernel) (kx_s_Vv (n := 128) G kx_good CS R9 (O9 _) kc_128 rfl kw_1218 kw_1220 kw_65 (r := kr_9) rfl (by decide) (by decide +kernel) (kx_s_return G RT (by decide +kernel)))))))))))))))) (kx_s_aload_n (j := 0) G rfl (by decide +kernel) (kx_s_gR G kf_9_78 (by decide +kernel) (kx_s_iload_n (j := 3) G rfl (by decide +kernel) (kx_s_iconst (i := 1) G (by decide +kernel) (by decide +kernel) (kx_s_asI G ka_99 (by decide +kernel) (kx_s_aload_n (j := 0) G rfl (by decide +kernel) (kx_s_iload_n (j := 2) G rfl (by decide +kernel) (kx_s_iconst (i := 1) G (by decide +kernel) (by decide +kernel) (kx_s_Vv (n := 131) G kx_good CS R9 (O9 _) kc_131 rfl kw_1230 kw_1232 kw_68 (r := kr_9) rfl (by decide) (by decide +kernel) (kx_s_return G RT (by decide +kernel)))))))))))))))) (kx_s_return G RT (by decide +kernel))))))))))))))
theorem sm_139 (X : kx_X p l e R s m args below meth c s0 D cA 5 ι0 h0 rr hf prog_11_method_45_code "TaskDeskModel" C d (Option.none : Option Jvm.ClassFile.FieldType) "signal" J) (b : Nat) : kx_Sn p l e R s m args below meth c s0 D cA 5 ι0 h0 rr hf b (bm_139 d C b J) := by
  unfold bm_139
  cases h0 : Nat.beq b 0 with
  | true => rw [Nat.eq_of_beq_eq_true h0]; exact sk_139_0 X
  | false =>
   exact kx_s_no
/-! TaskDeskModel.change(II)V -/
def bk_140_0 (d : Nat) (C : kx_C) (J : Nat → kx_F) : kx_F := (kx_la 0 (kx_la 0 (kx_li 1 (kx_Vi C 125 9 [0] (kx_ifeq (kx_nm [0, 1, 2] (J 28)) (kx_la 0 (kx_gR 9 31 99 (kx_li 1 (kx_aI 99 (kx_ifeq (kx_nm [0, 1, 2] (J 28)) (kx_la 0 (kx_gR 9 31 99 (kx_li 1 (kx_aI 99 (kx_c (kx_i 4) (kx_cne (kx_la 0 (kx_gI 9 1 (kx_ifge (kx_c (kx_i 0) (kx_nm [0, 1, 2] (J 44))) (kx_c (kx_i 2) (kx_nm [0, 1, 2] (J 44)))))) (kx_nm [0, 1, 2] (J 28))))))))))))))))))
def bk_140_28 (d : Nat) (C : kx_C) (J : Nat → kx_F) : kx_F := (kx_c (kx_i 1) (kx_nm [0, 1, 2] (J 44)))
def bk_140_44 (d : Nat) (C : kx_C) (J : Nat → kx_F) : kx_F := (kx_pI 9 0 (kx_la 0 (kx_gI 9 0 (kx_ifle (kx_la 0 (kx_gR 9 32 99 (kx_li 1 (kx_aI 99 (kx_i2l (kx_li 2 (kx_i2l (kx_jj (fun x y => x + y) (kx_sl 3 (kx_la 0 (kx_gR 9 31 99 (kx_li 1 (kx_aI 99 (kx_c (kx_i 1) (kx_cne (kx_nm [0, 1, 2, 3] (J 85)) (kx_la 0 (kx_gR 9 32 99 (kx_li 1 (kx_aI 99 (kx_ifle (kx_nm [0] (J 109)) (kx_nm [0, 1, 2, 3] (J 85)))))))))))))))))))))) kx_rv))))
def bk_140_85 (d : Nat) (C : kx_C) (J : Nat → kx_F) : kx_F := (kx_la 0 (kx_gR 9 31 99 (kx_li 1 (kx_aI 99 (kx_c (kx_i 2) (kx_cne (kx_nm [0, 1, 2] (J 115)) (kx_ll 3 (kx_c (kx_l 0) (kx_lcmp (kx_iflt (kx_nm [0] (J 109)) (kx_ll 3 (kx_c (kx_l 1000000000) (kx_lcmp (kx_ifle (kx_nm [0, 1, 2] (J 115)) (kx_nm [0] (J 109))))))))))))))))
def bk_140_109 (d : Nat) (C : kx_C) (J : Nat → kx_F) : kx_F := (kx_la 0 (kx_c (kx_i 3) (kx_pI 9 0 kx_rv)))
def bk_140_115 (d : Nat) (C : kx_C) (J : Nat → kx_F) : kx_F := (kx_la 0 (kx_gR 9 31 99 (kx_li 1 (kx_aI 99 (kx_c (kx_i 2) (kx_cne (kx_la 0 (kx_gR 9 31 99 (kx_li 1 (kx_aI 99 (kx_c (kx_i 1) (kx_cne (kx_la 0 (kx_li 1 (kx_Vi C 141 9 [0] (kx_si 5 (kx_c (kx_i 0) (kx_si 6 (kx_nm [0, 1, 5, 6] (J 181)))))))) (kx_la 0 (kx_gR 9 32 99 (kx_li 1 (kx_dup2 (kx_aI 99 (kx_c (kx_i 1) (kx_ii (fun x y => x - y) (kx_asI 99 (kx_la 0 (kx_gR 9 32 99 (kx_li 1 (kx_aI 99 (kx_ifne (kx_nm [] (J 199)) (kx_la 0 (kx_li 1 (kx_Vv C 136 9 [0] (kx_nm [] (J 199)))))))))))))))))))))))) (kx_la 0 (kx_li 1 (kx_li 2 (kx_Vv C 137 9 [0, 0] (kx_nm [] (J 199))))))))))))
def bk_140_181 (d : Nat) (C : kx_C) (J : Nat → kx_F) : kx_F := (kx_li 6 (kx_li 5 (kx_cge (kx_nm [] (J 199)) (kx_la 0 (kx_li 1 (kx_Vv C 139 9 [0] (kx_inc 6 1 (kx_nm [0, 1, 5, 6] (J 181)))))))))
def bk_140_199 (d : Nat) (C : kx_C) (J : Nat → kx_F) : kx_F := kx_rv
def bm_140 (d : Nat) (C : kx_C) (b : Nat) (J : Nat → kx_F) : kx_F := bif Nat.beq b 0 then bk_140_0 d C J else bif Nat.beq b 28 then bk_140_28 d C J else bif Nat.beq b 44 then bk_140_44 d C J else bif Nat.beq b 85 then bk_140_85 d C J else bif Nat.beq b 109 then bk_140_109 d C J else bif Nat.beq b 115 then bk_140_115 d C J else bif Nat.beq b 181 then bk_140_181 d C J else bif Nat.beq b 199 then bk_140_199 d C J else fun _ _ _ => none
set_option maxRecDepth 20000 in
theorem sk_140_0 (X : kx_X p l e R s m args below meth c s0 D cA 7 ι0 h0 rr hf prog_11_method_53_code "TaskDeskModel" C d (Option.none : Option Jvm.ClassFile.FieldType) "change" J) : kx_Sn p l e R s m args below meth c s0 D cA 7 ι0 h0 rr hf 0 (bk_140_0 d C J) := by
  obtain ⟨G, CS, R9, O9, RT, NM, T0, FL, JS⟩ := X
  exact (kx_s_aload_n (j := 0) G rfl (by decide +kernel) (kx_s_aload_n (j := 0) G rfl (by decide +kernel) (kx_s_iload_n (j := 1) G rfl (by decide +kernel) (kx_s_Vi (n := 125) G kx_good CS R9 (O9 _) kc_125 rfl kw_1206 kw_1208 kw_63 (r := kr_9) rfl (by decide) (by decide +kernel) (kx_s_ifeq (off := 22) (tgt := 28) G (by decide +kernel) rfl (kx_s_nm (JS 28)) (kx_s_aload_n (j := 0) G rfl (by decide +kernel) (kx_s_gR G kf_9_75 (by decide +kernel) (kx_s_iload_n (j := 1) G rfl (by decide +kernel) (kx_s_aI G ka_99 (by decide +kernel) (kx_s_ifeq (off := 13) (tgt := 28) G (by decide +kernel) rfl (kx_s_nm (JS 28)) (kx_s_aload_n (j := 0) G rfl (by decide +kernel) (kx_s_gR G kf_9_75 (by decide +kernel) (kx_s_iload_n (j := 1) G rfl (by decide +kernel) (kx_s_aI G ka_99 (by decide +kernel) (kx_s_iconst (i := 4) G (by decide +kernel) (by decide +kernel) (kx_s_cne (off := 7) (tgt := 32) G (by decide +kernel) rfl (kx_s_aload_n (j := 0) G rfl (by decide +kernel) (kx_s_gI G kf_9_106 (by decide +kernel) (kx_s_ifge (off := 7) (tgt := 43) G (by decide +kernel) rfl (kx_s_iconst (i := 0) G (by decide +kernel) (by decide +kernel) (kx_s_nm (JS 44))) (kx_s_iconst (i := 2) G (by decide +kernel) (by decide +kernel) (kx_s_goto (off := 4) (tgt := 44) G (by decide +kernel) rfl (kx_s_nm (JS 44))))))) (kx_s_nm (JS 28))))))))))))))))))
set_option maxRecDepth 20000 in
theorem sk_140_28 (X : kx_X p l e R s m args below meth c s0 D cA 7 ι0 h0 rr hf prog_11_method_53_code "TaskDeskModel" C d (Option.none : Option Jvm.ClassFile.FieldType) "change" J) : kx_Sn p l e R s m args below meth c s0 D cA 7 ι0 h0 rr hf 28 (bk_140_28 d C J) := by
  obtain ⟨G, CS, R9, O9, RT, NM, T0, FL, JS⟩ := X
  exact (kx_s_iconst (i := 1) G (by decide +kernel) (by decide +kernel) (kx_s_goto (off := 15) (tgt := 44) G (by decide +kernel) rfl (kx_s_nm (JS 44))))
set_option maxRecDepth 20000 in
theorem sk_140_44 (X : kx_X p l e R s m args below meth c s0 D cA 7 ι0 h0 rr hf prog_11_method_53_code "TaskDeskModel" C d (Option.none : Option Jvm.ClassFile.FieldType) "change" J) : kx_Sn p l e R s m args below meth c s0 D cA 7 ι0 h0 rr hf 44 (bk_140_44 d C J) := by
  obtain ⟨G, CS, R9, O9, RT, NM, T0, FL, JS⟩ := X
  exact (kx_s_pI G kf_9_99 rfl (by decide +kernel) (by decide +kernel) (kx_s_aload_n (j := 0) G rfl (by decide +kernel) (kx_s_gI G kf_9_99 (by decide +kernel) (kx_s_ifle (off := 4) (tgt := 55) G (by decide +kernel) rfl (kx_s_aload_n (j := 0) G rfl (by decide +kernel) (kx_s_gR G kf_9_78 (by decide +kernel) (kx_s_iload_n (j := 1) G rfl (by decide +kernel) (kx_s_aI G ka_99 (by decide +kernel) (kx_s_i2l G (by decide +kernel) (kx_s_iload_n (j := 2) G rfl (by decide +kernel) (kx_s_i2l G (by decide +kernel) (kx_s_ladd G (by decide +kernel) (kx_s_lstore_n (j := 3) G rfl (by decide +kernel) (by decide) (kx_s_aload_n (j := 0) G rfl (by decide +kernel) (kx_s_gR G kf_9_75 (by decide +kernel) (kx_s_iload_n (j := 1) G rfl (by decide +kernel) (kx_s_aI G ka_99 (by decide +kernel) (kx_s_iconst (i := 1) G (by decide +kernel) (by decide +kernel) (kx_s_cne (off := 12) (tgt := 85) G (by decide +kernel) rfl (kx_s_nm (JS 85)) (kx_s_aload_n (j := 0) G rfl (by decide +kernel) (kx_s_gR G kf_9_78 (by decide +kernel) (kx_s_iload_n (j := 1) G rfl (by decide +kernel) (kx_s_aI G ka_99 (by decide +kernel) (kx_s_ifle (off := 27) (tgt := 109) G (by decide +kernel) rfl (kx_s_nm (JS 109)) (kx_s_nm (JS 85)))))))))))))))))))))) (kx_s_return G RT (by decide +kernel))))))
set_option maxRecDepth 20000 in
theorem sk_140_85 (X : kx_X p l e R s m args below meth c s0 D cA 7 ι0 h0 rr hf prog_11_method_53_code "TaskDeskModel" C d (Option.none : Option Jvm.ClassFile.FieldType) "change" J) : kx_Sn p l e R s m args below meth c s0 D cA 7 ι0 h0 rr hf 85 (bk_140_85 d C J) := by
  obtain ⟨G, CS, R9, O9, RT, NM, T0, FL, JS⟩ := X
  exact (kx_s_aload_n (j := 0) G rfl (by decide +kernel) (kx_s_gR G kf_9_75 (by decide +kernel) (kx_s_iload_n (j := 1) G rfl (by decide +kernel) (kx_s_aI G ka_99 (by decide +kernel) (kx_s_iconst (i := 2) G (by decide +kernel) (by decide +kernel) (kx_s_cne (off := 23) (tgt := 115) G (by decide +kernel) rfl (kx_s_nm (JS 115)) (kx_s_lload_n (j := 3) G rfl (by decide +kernel) (kx_s_lconst (i := 0) G (by decide +kernel) (by decide +kernel) (kx_s_lcmp G (by decide +kernel) (kx_s_iflt (off := 11) (tgt := 109) G (by decide +kernel) rfl (kx_s_nm (JS 109)) (kx_s_lload_n (j := 3) G rfl (by decide +kernel) (kx_s_ldc2 G kw_1096 (by decide +kernel) (kx_s_lcmp G (by decide +kernel) (kx_s_ifle (off := 9) (tgt := 115) G (by decide +kernel) rfl (kx_s_nm (JS 115)) (kx_s_nm (JS 109))))))))))))))))
set_option maxRecDepth 20000 in
theorem sk_140_109 (X : kx_X p l e R s m args below meth c s0 D cA 7 ι0 h0 rr hf prog_11_method_53_code "TaskDeskModel" C d (Option.none : Option Jvm.ClassFile.FieldType) "change" J) : kx_Sn p l e R s m args below meth c s0 D cA 7 ι0 h0 rr hf 109 (bk_140_109 d C J) := by
  obtain ⟨G, CS, R9, O9, RT, NM, T0, FL, JS⟩ := X
  exact (kx_s_aload_n (j := 0) G rfl (by decide +kernel) (kx_s_iconst (i := 3) G (by decide +kernel) (by decide +kernel) (kx_s_pI G kf_9_99 rfl (by decide +kernel) (by decide +kernel) (kx_s_return G RT (by decide +kernel)))))
set_option maxRecDepth 20000 in
theorem sk_140_115 (X : kx_X p l e R s m args below meth c s0 D cA 7 ι0 h0 rr hf prog_11_method_53_code "TaskDeskModel" C d (Option.none : Option Jvm.ClassFile.FieldType) "change" J) : kx_Sn p l e R s m args below meth c s0 D cA 7 ι0 h0 rr hf 115 (bk_140_115 d C J) := by
  obtain ⟨G, CS, R9, O9, RT, NM, T0, FL, JS⟩ := X
  exact (kx_s_aload_n (j := 0) G rfl (by decide +kernel) (kx_s_gR G kf_9_75 (by decide +kernel) (kx_s_iload_n (j := 1) G rfl (by decide +kernel) (kx_s_aI G ka_99 (by decide +kernel) (kx_s_iconst (i := 2) G (by decide +kernel) (by decide +kernel) (kx_s_cne (off := 12) (tgt := 134) G (by decide +kernel) rfl (kx_s_aload_n (j := 0) G rfl (by decide +kernel) (kx_s_gR G kf_9_75 (by decide +kernel) (kx_s_iload_n (j := 1) G rfl (by decide +kernel) (kx_s_aI G ka_99 (by decide +kernel) (kx_s_iconst (i := 1) G (by decide +kernel) (by decide +kernel) (kx_s_cne (off := 30) (tgt := 171) G (by decide +kernel) rfl (kx_s_aload_n (j := 0) G rfl (by decide +kernel) (kx_s_iload_n (j := 1) G rfl (by decide +kernel) (kx_s_Vi (n := 141) G kx_good CS R9 (O9 _) kc_141 rfl kw_1270 kw_1272 kw_75 (r := kr_9) rfl (by decide) (by decide +kernel) (kx_s_istore G (by decide +kernel) (by decide) (kx_s_iconst (i := 0) G (by decide +kernel) (by decide +kernel) (kx_s_istore G (by decide +kernel) (by decide) (kx_s_nm (JS 181)))))))) (kx_s_aload_n (j := 0) G rfl (by decide +kernel) (kx_s_gR G kf_9_78 (by decide +kernel) (kx_s_iload_n (j := 1) G rfl (by decide +kernel) (kx_s_dup2 G (by decide +kernel) (kx_s_aI G ka_99 (by decide +kernel) (kx_s_iconst (i := 1) G (by decide +kernel) (by decide +kernel) (kx_s_isub G (by decide +kernel) (kx_s_asI G ka_99 (by decide +kernel) (kx_s_aload_n (j := 0) G rfl (by decide +kernel) (kx_s_gR G kf_9_78 (by decide +kernel) (kx_s_iload_n (j := 1) G rfl (by decide +kernel) (kx_s_aI G ka_99 (by decide +kernel) (kx_s_ifne (off := 39) (tgt := 199) G (by decide +kernel) rfl (kx_s_nm (JS 199)) (kx_s_aload_n (j := 0) G rfl (by decide +kernel) (kx_s_iload_n (j := 1) G rfl (by decide +kernel) (kx_s_Vv (n := 136) G kx_good CS R9 (O9 _) kc_136 rfl kw_1250 kw_1252 kw_71 (r := kr_9) rfl (by decide) (by decide +kernel) (kx_s_goto (off := 31) (tgt := 199) G (by decide +kernel) rfl (kx_s_nm (JS 199))))))))))))))))))))))))) (kx_s_aload_n (j := 0) G rfl (by decide +kernel) (kx_s_iload_n (j := 1) G rfl (by decide +kernel) (kx_s_iload_n (j := 2) G rfl (by decide +kernel) (kx_s_Vv (n := 137) G kx_good CS R9 (O9 _) kc_137 rfl kw_1254 kw_1256 kw_72 (r := kr_9) rfl (by decide) (by decide +kernel) (kx_s_goto (off := 68) (tgt := 199) G (by decide +kernel) rfl (kx_s_nm (JS 199)))))))))))))
set_option maxRecDepth 20000 in
theorem sk_140_181 (X : kx_X p l e R s m args below meth c s0 D cA 7 ι0 h0 rr hf prog_11_method_53_code "TaskDeskModel" C d (Option.none : Option Jvm.ClassFile.FieldType) "change" J) : kx_Sn p l e R s m args below meth c s0 D cA 7 ι0 h0 rr hf 181 (bk_140_181 d C J) := by
  obtain ⟨G, CS, R9, O9, RT, NM, T0, FL, JS⟩ := X
  exact (kx_s_iload G (by decide +kernel) (kx_s_iload G (by decide +kernel) (kx_s_cge (off := 14) (tgt := 199) G (by decide +kernel) rfl (kx_s_nm (JS 199)) (kx_s_aload_n (j := 0) G rfl (by decide +kernel) (kx_s_iload_n (j := 1) G rfl (by decide +kernel) (kx_s_Vv (n := 139) G kx_good CS R9 (O9 _) kc_139 rfl kw_1262 kw_1264 kw_74 (r := kr_9) rfl (by decide) (by decide +kernel) (kx_s_iinc (n := 1) G (by decide +kernel) (by decide +kernel) (by decide) (kx_s_goto (off := -15) (tgt := 181) G (by decide +kernel) rfl (kx_s_nm (JS 181))))))))))
set_option maxRecDepth 20000 in
theorem sk_140_199 (X : kx_X p l e R s m args below meth c s0 D cA 7 ι0 h0 rr hf prog_11_method_53_code "TaskDeskModel" C d (Option.none : Option Jvm.ClassFile.FieldType) "change" J) : kx_Sn p l e R s m args below meth c s0 D cA 7 ι0 h0 rr hf 199 (bk_140_199 d C J) := by
  obtain ⟨G, CS, R9, O9, RT, NM, T0, FL, JS⟩ := X
  exact (kx_s_return G RT (by decide +kernel))
theorem sm_140 (X : kx_X p l e R s m args below meth c s0 D cA 7 ι0 h0 rr hf prog_11_method_53_code "TaskDeskModel" C d (Option.none : Option Jvm.ClassFile.FieldType) "change" J) (b : Nat) : kx_Sn p l e R s m args below meth c s0 D cA 7 ι0 h0 rr hf b (bm_140 d C b J) := by
  unfold bm_140
  cases h0 : Nat.beq b 0 with
  | true => rw [Nat.eq_of_beq_eq_true h0]; exact sk_140_0 X
  | false =>
   cases h28 : Nat.beq b 28 with
   | true => rw [Nat.eq_of_beq_eq_true h28]; exact sk_140_28 X
   | false =>
    cases h44 : Nat.beq b 44 with
    | true => rw [Nat.eq_of_beq_eq_true h44]; exact sk_140_44 X
    | false =>
     cases h85 : Nat.beq b 85 with
     | true => rw [Nat.eq_of_beq_eq_true h85]; exact sk_140_85 X
     | false =>
      cases h109 : Nat.beq b 109 with
      | true => rw [Nat.eq_of_beq_eq_true h109]; exact sk_140_109 X
      | false =>
       cases h115 : Nat.beq b 115 with
       | true => rw [Nat.eq_of_beq_eq_true h115]; exact sk_140_115 X
       | false =>
        cases h181 : Nat.beq b 181 with
        | true => rw [Nat.eq_of_beq_eq_true h181]; exact sk_140_181 X
        | false =>
         cases h199 : Nat.beq b 199 with
         | true => rw [Nat.eq_of_beq_eq_true h199]; exact sk_140_199 X
         | false =>
          exact kx_s_no
/-! TaskDeskModel.waitAt(I)I -/
def bk_141_0 (d : Nat) (C : kx_C) (J : Nat → kx_F) : kx_F := (kx_c (kx_i 0) (kx_si 2 (kx_c (kx_i 0) (kx_si 3 (kx_nm [0, 1, 2, 3] (J 4))))))
def bk_141_4 (d : Nat) (C : kx_C) (J : Nat → kx_F) : kx_F := (kx_li 3 (kx_la 0 (kx_gI 9 34 (kx_cge (kx_li 2 kx_ri) (kx_li 2 (kx_la 0 (kx_gR 9 36 99 (kx_li 3 (kx_aI 99 (kx_li 1 (kx_cne (kx_c (kx_i 0) (kx_nm [0, 1, 3] (J 28))) (kx_c (kx_i 1) (kx_nm [0, 1, 3] (J 28))))))))))))))
def bk_141_28 (d : Nat) (C : kx_C) (J : Nat → kx_F) : kx_F := (kx_ii (fun x y => x + y) (kx_si 2 (kx_inc 3 1 (kx_nm [0, 1, 2, 3] (J 4)))))
def bm_141 (d : Nat) (C : kx_C) (b : Nat) (J : Nat → kx_F) : kx_F := bif Nat.beq b 0 then bk_141_0 d C J else bif Nat.beq b 4 then bk_141_4 d C J else bif Nat.beq b 28 then bk_141_28 d C J else fun _ _ _ => none
set_option maxRecDepth 20000 in
theorem sk_141_0 (X : kx_X p l e R s m args below meth c s0 D cA 4 ι0 h0 rr hf prog_11_method_54_code "TaskDeskModel" C d (Option.some Jvm.ClassFile.FieldType.int) "waitAt" J) : kx_Sn p l e R s m args below meth c s0 D cA 4 ι0 h0 rr hf 0 (bk_141_0 d C J) := by
  obtain ⟨G, CS, R9, O9, RT, NM, T0, FL, JS⟩ := X
  exact (kx_s_iconst (i := 0) G (by decide +kernel) (by decide +kernel) (kx_s_istore_n (j := 2) G rfl (by decide +kernel) (by decide) (kx_s_iconst (i := 0) G (by decide +kernel) (by decide +kernel) (kx_s_istore_n (j := 3) G rfl (by decide +kernel) (by decide) (kx_s_nm (JS 4))))))
set_option maxRecDepth 20000 in
theorem sk_141_4 (X : kx_X p l e R s m args below meth c s0 D cA 4 ι0 h0 rr hf prog_11_method_54_code "TaskDeskModel" C d (Option.some Jvm.ClassFile.FieldType.int) "waitAt" J) : kx_Sn p l e R s m args below meth c s0 D cA 4 ι0 h0 rr hf 4 (bk_141_4 d C J) := by
  obtain ⟨G, CS, R9, O9, RT, NM, T0, FL, JS⟩ := X
  exact (kx_s_iload_n (j := 3) G rfl (by decide +kernel) (kx_s_aload_n (j := 0) G rfl (by decide +kernel) (kx_s_gI G kf_9_211 (by decide +kernel) (kx_s_cge (off := 27) (tgt := 36) G (by decide +kernel) rfl (kx_s_iload_n (j := 2) G rfl (by decide +kernel) (kx_s_ireturn G RT (by decide +kernel))) (kx_s_iload_n (j := 2) G rfl (by decide +kernel) (kx_s_aload_n (j := 0) G rfl (by decide +kernel) (kx_s_gR G kf_9_87 (by decide +kernel) (kx_s_iload_n (j := 3) G rfl (by decide +kernel) (kx_s_aI G ka_99 (by decide +kernel) (kx_s_iload_n (j := 1) G rfl (by decide +kernel) (kx_s_cne (off := 7) (tgt := 27) G (by decide +kernel) rfl (kx_s_iconst (i := 0) G (by decide +kernel) (by decide +kernel) (kx_s_nm (JS 28))) (kx_s_iconst (i := 1) G (by decide +kernel) (by decide +kernel) (kx_s_goto (off := 4) (tgt := 28) G (by decide +kernel) rfl (kx_s_nm (JS 28)))))))))))))))
set_option maxRecDepth 20000 in
theorem sk_141_28 (X : kx_X p l e R s m args below meth c s0 D cA 4 ι0 h0 rr hf prog_11_method_54_code "TaskDeskModel" C d (Option.some Jvm.ClassFile.FieldType.int) "waitAt" J) : kx_Sn p l e R s m args below meth c s0 D cA 4 ι0 h0 rr hf 28 (bk_141_28 d C J) := by
  obtain ⟨G, CS, R9, O9, RT, NM, T0, FL, JS⟩ := X
  exact (kx_s_iadd G (by decide +kernel) (kx_s_istore_n (j := 2) G rfl (by decide +kernel) (by decide) (kx_s_iinc (n := 1) G (by decide +kernel) (by decide +kernel) (by decide) (kx_s_goto (off := -29) (tgt := 4) G (by decide +kernel) rfl (kx_s_nm (JS 4))))))
theorem sm_141 (X : kx_X p l e R s m args below meth c s0 D cA 4 ι0 h0 rr hf prog_11_method_54_code "TaskDeskModel" C d (Option.some Jvm.ClassFile.FieldType.int) "waitAt" J) (b : Nat) : kx_Sn p l e R s m args below meth c s0 D cA 4 ι0 h0 rr hf b (bm_141 d C b J) := by
  unfold bm_141
  cases h0 : Nat.beq b 0 with
  | true => rw [Nat.eq_of_beq_eq_true h0]; exact sk_141_0 X
  | false =>
   cases h4 : Nat.beq b 4 with
   | true => rw [Nat.eq_of_beq_eq_true h4]; exact sk_141_4 X
   | false =>
    cases h28 : Nat.beq b 28 with
    | true => rw [Nat.eq_of_beq_eq_true h28]; exact sk_141_28 X
    | false =>
     exact kx_s_no
/-! TaskDeskModel.current()I -/
def bk_142_0 (d : Nat) (C : kx_C) (J : Nat → kx_F) : kx_F := (kx_la 0 (kx_c (kx_i 0) (kx_pI 9 0 (kx_la 0 (kx_gI 9 1 kx_ri)))))
def bm_142 (d : Nat) (C : kx_C) (b : Nat) (J : Nat → kx_F) : kx_F := bif Nat.beq b 0 then bk_142_0 d C J else fun _ _ _ => none
set_option maxRecDepth 20000 in
theorem sk_142_0 (X : kx_X p l e R s m args below meth c s0 D cA 1 ι0 h0 rr hf prog_11_method_55_code "TaskDeskModel" C d (Option.some Jvm.ClassFile.FieldType.int) "current" J) : kx_Sn p l e R s m args below meth c s0 D cA 1 ι0 h0 rr hf 0 (bk_142_0 d C J) := by
  obtain ⟨G, CS, R9, O9, RT, NM, T0, FL, JS⟩ := X
  exact (kx_s_aload_n (j := 0) G rfl (by decide +kernel) (kx_s_iconst (i := 0) G (by decide +kernel) (by decide +kernel) (kx_s_pI G kf_9_99 rfl (by decide +kernel) (by decide +kernel) (kx_s_aload_n (j := 0) G rfl (by decide +kernel) (kx_s_gI G kf_9_106 (by decide +kernel) (kx_s_ireturn G RT (by decide +kernel)))))))
theorem sm_142 (X : kx_X p l e R s m args below meth c s0 D cA 1 ι0 h0 rr hf prog_11_method_55_code "TaskDeskModel" C d (Option.some Jvm.ClassFile.FieldType.int) "current" J) (b : Nat) : kx_Sn p l e R s m args below meth c s0 D cA 1 ι0 h0 rr hf b (bm_142 d C b J) := by
  unfold bm_142
  cases h0 : Nat.beq b 0 with
  | true => rw [Nat.eq_of_beq_eq_true h0]; exact sk_142_0 X
  | false =>
   exact kx_s_no
/-! TaskDeskModel.task(II)I -/
def bk_143_0 (d : Nat) (C : kx_C) (J : Nat → kx_F) : kx_F := (kx_la 0 (kx_c (kx_i 0) (kx_pI 9 0 (kx_la 0 (kx_li 1 (kx_Vi C 144 9 [0] (kx_ifeq (kx_nm [0] (J 22)) (kx_li 2 (kx_iflt (kx_nm [0] (J 22)) (kx_li 2 (kx_c (kx_i 5) (kx_cle (kx_li 2 (kx_ifne (kx_li 2 (kx_c (kx_i 1) (kx_cne (kx_li 2 (kx_c (kx_i 5) (kx_cge (kx_c (kx_i 0) (kx_si 3 (kx_nm [0, 1, 3] (J 144)))) (kx_li 2 (kx_c (kx_i 2) (kx_cne (kx_li 2 (kx_c (kx_i 3) (kx_cne (kx_la 0 (kx_gR 9 10 101 (kx_li 1 (kx_aB 101 (kx_ifeq (kx_c (kx_i 0) (kx_nm [] (J 141))) (kx_c (kx_i 1) (kx_nm [] (J 141)))))))) (kx_la 0 (kx_gR 9 8 101 (kx_li 1 (kx_aB 101 (kx_ifeq (kx_c (kx_i 0) (kx_nm [] (J 141))) (kx_c (kx_i 1) (kx_nm [] (J 141))))))))))) (kx_la 0 (kx_gR 9 9 99 (kx_li 1 (kx_aI 99 (kx_nm [] (J 141)))))))))))) (kx_la 0 (kx_gR 9 5 99 (kx_li 1 (kx_aI 99 (kx_c (kx_i 2) (kx_ceq (kx_nm [0, 1] (J 75)) (kx_la 0 (kx_gR 9 5 99 (kx_li 1 (kx_aI 99 (kx_c (kx_i 3) (kx_ceq (kx_nm [0, 1] (J 75)) (kx_la 0 (kx_gR 9 5 99 (kx_li 1 (kx_aI 99 (kx_c (kx_i 6) (kx_cne (kx_c (kx_i (-1)) (kx_nm [] (J 85))) (kx_nm [0, 1] (J 75))))))))))))))))))))))) (kx_la 0 (kx_gR 9 5 99 (kx_li 1 (kx_aI 99 kx_ri)))))) (kx_nm [0] (J 22))))))))))))))
def bk_143_22 (d : Nat) (C : kx_C) (J : Nat → kx_F) : kx_F := (kx_la 0 (kx_c (kx_i 1) (kx_Vi C 91 9 [0] kx_ri)))
def bk_143_75 (d : Nat) (C : kx_C) (J : Nat → kx_F) : kx_F := (kx_la 0 (kx_gR 9 6 99 (kx_li 1 (kx_aI 99 (kx_nm [] (J 85))))))
def bk_143_85 (d : Nat) (C : kx_C) (J : Nat → kx_F) : kx_F := kx_ri
def bk_143_141 (d : Nat) (C : kx_C) (J : Nat → kx_F) : kx_F := kx_ri
def bk_143_144 (d : Nat) (C : kx_C) (J : Nat → kx_F) : kx_F := (kx_li 3 (kx_la 0 (kx_gI 9 11 (kx_cge (kx_c (kx_i (-1)) kx_ri) (kx_la 0 (kx_gR 9 12 99 (kx_li 3 (kx_aI 99 (kx_li 1 (kx_cne (kx_inc 3 1 (kx_nm [0, 1, 3] (J 144))) (kx_li 3 kx_ri)))))))))))
def bm_143 (d : Nat) (C : kx_C) (b : Nat) (J : Nat → kx_F) : kx_F := bif Nat.beq b 0 then bk_143_0 d C J else bif Nat.beq b 22 then bk_143_22 d C J else bif Nat.beq b 75 then bk_143_75 d C J else bif Nat.beq b 85 then bk_143_85 d C J else bif Nat.beq b 141 then bk_143_141 d C J else bif Nat.beq b 144 then bk_143_144 d C J else fun _ _ _ => none
set_option maxRecDepth 20000 in
theorem sk_143_0 (X : kx_X p l e R s m args below meth c s0 D cA 4 ι0 h0 rr hf prog_11_method_57_code "TaskDeskModel" C d (Option.some Jvm.ClassFile.FieldType.int) "task" J) : kx_Sn p l e R s m args below meth c s0 D cA 4 ι0 h0 rr hf 0 (bk_143_0 d C J) := by
  obtain ⟨G, CS, R9, O9, RT, NM, T0, FL, JS⟩ := X
  exact (kx_s_aload_n (j := 0) G rfl (by decide +kernel) (kx_s_iconst (i := 0) G (by decide +kernel) (by decide +kernel) (kx_s_pI G kf_9_99 rfl (by decide +kernel) (by decide +kernel) (kx_s_aload_n (j := 0) G rfl (by decide +kernel) (kx_s_iload_n (j := 1) G rfl (by decide +kernel) (kx_s_Vi (n := 144) G kx_good CS R9 (O9 _) kc_144 rfl kw_1282 kw_1284 kw_76 (r := kr_9) rfl (by decide) (by decide +kernel) (kx_s_ifeq (off := 12) (tgt := 22) G (by decide +kernel) rfl (kx_s_nm (JS 22)) (kx_s_iload_n (j := 2) G rfl (by decide +kernel) (kx_s_iflt (off := 8) (tgt := 22) G (by decide +kernel) rfl (kx_s_nm (JS 22)) (kx_s_iload_n (j := 2) G rfl (by decide +kernel) (kx_s_iconst (i := 5) G (by decide +kernel) (by decide +kernel) (kx_s_cle (off := 9) (tgt := 28) G (by decide +kernel) rfl (kx_s_iload_n (j := 2) G rfl (by decide +kernel) (kx_s_ifne (off := 10) (tgt := 39) G (by decide +kernel) rfl (kx_s_iload_n (j := 2) G rfl (by decide +kernel) (kx_s_iconst (i := 1) G (by decide +kernel) (by decide +kernel) (kx_s_cne (off := 45) (tgt := 86) G (by decide +kernel) rfl (kx_s_iload_n (j := 2) G rfl (by decide +kernel) (kx_s_iconst (i := 5) G (by decide +kernel) (by decide +kernel) (kx_s_cge (off := 54) (tgt := 142) G (by decide +kernel) rfl (kx_s_iconst (i := 0) G (by decide +kernel) (by decide +kernel) (kx_s_istore_n (j := 3) G rfl (by decide +kernel) (by decide) (kx_s_nm (JS 144)))) (kx_s_iload_n (j := 2) G rfl (by decide +kernel) (kx_s_iconst (i := 2) G (by decide +kernel) (by decide +kernel) (kx_s_cne (off := 12) (tgt := 105) G (by decide +kernel) rfl (kx_s_iload_n (j := 2) G rfl (by decide +kernel) (kx_s_iconst (i := 3) G (by decide +kernel) (by decide +kernel) (kx_s_cne (off := 20) (tgt := 127) G (by decide +kernel) rfl (kx_s_aload_n (j := 0) G rfl (by decide +kernel) (kx_s_gR G kf_9_30 (by decide +kernel) (kx_s_iload_n (j := 1) G rfl (by decide +kernel) (kx_s_aB G ka_101 (by decide +kernel) (kx_s_ifeq (off := 7) (tgt := 140) G (by decide +kernel) rfl (kx_s_iconst (i := 0) G (by decide +kernel) (by decide +kernel) (kx_s_nm (JS 141))) (kx_s_iconst (i := 1) G (by decide +kernel) (by decide +kernel) (kx_s_goto (off := 4) (tgt := 141) G (by decide +kernel) rfl (kx_s_nm (JS 141))))))))) (kx_s_aload_n (j := 0) G rfl (by decide +kernel) (kx_s_gR G kf_9_24 (by decide +kernel) (kx_s_iload_n (j := 1) G rfl (by decide +kernel) (kx_s_aB G ka_101 (by decide +kernel) (kx_s_ifeq (off := 7) (tgt := 123) G (by decide +kernel) rfl (kx_s_iconst (i := 0) G (by decide +kernel) (by decide +kernel) (kx_s_goto (off := 17) (tgt := 141) G (by decide +kernel) rfl (kx_s_nm (JS 141)))) (kx_s_iconst (i := 1) G (by decide +kernel) (by decide +kernel) (kx_s_goto (off := 21) (tgt := 141) G (by decide +kernel) rfl (kx_s_nm (JS 141)))))))))))) (kx_s_aload_n (j := 0) G rfl (by decide +kernel) (kx_s_gR G kf_9_27 (by decide +kernel) (kx_s_iload_n (j := 1) G rfl (by decide +kernel) (kx_s_aI G ka_99 (by decide +kernel) (kx_s_goto (off := 39) (tgt := 141) G (by decide +kernel) rfl (kx_s_nm (JS 141))))))))))))) (kx_s_aload_n (j := 0) G rfl (by decide +kernel) (kx_s_gR G kf_9_13 (by decide +kernel) (kx_s_iload_n (j := 1) G rfl (by decide +kernel) (kx_s_aI G ka_99 (by decide +kernel) (kx_s_iconst (i := 2) G (by decide +kernel) (by decide +kernel) (kx_s_ceq (off := 24) (tgt := 75) G (by decide +kernel) rfl (kx_s_nm (JS 75)) (kx_s_aload_n (j := 0) G rfl (by decide +kernel) (kx_s_gR G kf_9_13 (by decide +kernel) (kx_s_iload_n (j := 1) G rfl (by decide +kernel) (kx_s_aI G ka_99 (by decide +kernel) (kx_s_iconst (i := 3) G (by decide +kernel) (by decide +kernel) (kx_s_ceq (off := 14) (tgt := 75) G (by decide +kernel) rfl (kx_s_nm (JS 75)) (kx_s_aload_n (j := 0) G rfl (by decide +kernel) (kx_s_gR G kf_9_13 (by decide +kernel) (kx_s_iload_n (j := 1) G rfl (by decide +kernel) (kx_s_aI G ka_99 (by decide +kernel) (kx_s_bipush (i := 6) G (by decide +kernel) (by decide +kernel) (kx_s_cne (off := 12) (tgt := 84) G (by decide +kernel) rfl (kx_s_iconst (i := -1) G (by decide +kernel) (by decide +kernel) (kx_s_nm (JS 85))) (kx_s_nm (JS 75))))))))))))))))))))))) (kx_s_aload_n (j := 0) G rfl (by decide +kernel) (kx_s_gR G kf_9_13 (by decide +kernel) (kx_s_iload_n (j := 1) G rfl (by decide +kernel) (kx_s_aI G ka_99 (by decide +kernel) (kx_s_ireturn G RT (by decide +kernel)))))))) (kx_s_nm (JS 22))))))))))))))
set_option maxRecDepth 20000 in
theorem sk_143_22 (X : kx_X p l e R s m args below meth c s0 D cA 4 ι0 h0 rr hf prog_11_method_57_code "TaskDeskModel" C d (Option.some Jvm.ClassFile.FieldType.int) "task" J) : kx_Sn p l e R s m args below meth c s0 D cA 4 ι0 h0 rr hf 22 (bk_143_22 d C J) := by
  obtain ⟨G, CS, R9, O9, RT, NM, T0, FL, JS⟩ := X
  exact (kx_s_aload_n (j := 0) G rfl (by decide +kernel) (kx_s_iconst (i := 1) G (by decide +kernel) (by decide +kernel) (kx_s_Vi (n := 91) G kx_good CS R9 (O9 _) kc_91 rfl kw_1068 kw_1070 kw_41 (r := kr_9) rfl (by decide) (by decide +kernel) (kx_s_ireturn G RT (by decide +kernel)))))
set_option maxRecDepth 20000 in
theorem sk_143_75 (X : kx_X p l e R s m args below meth c s0 D cA 4 ι0 h0 rr hf prog_11_method_57_code "TaskDeskModel" C d (Option.some Jvm.ClassFile.FieldType.int) "task" J) : kx_Sn p l e R s m args below meth c s0 D cA 4 ι0 h0 rr hf 75 (bk_143_75 d C J) := by
  obtain ⟨G, CS, R9, O9, RT, NM, T0, FL, JS⟩ := X
  exact (kx_s_aload_n (j := 0) G rfl (by decide +kernel) (kx_s_gR G kf_9_17 (by decide +kernel) (kx_s_iload_n (j := 1) G rfl (by decide +kernel) (kx_s_aI G ka_99 (by decide +kernel) (kx_s_goto (off := 4) (tgt := 85) G (by decide +kernel) rfl (kx_s_nm (JS 85)))))))
set_option maxRecDepth 20000 in
theorem sk_143_85 (X : kx_X p l e R s m args below meth c s0 D cA 4 ι0 h0 rr hf prog_11_method_57_code "TaskDeskModel" C d (Option.some Jvm.ClassFile.FieldType.int) "task" J) : kx_Sn p l e R s m args below meth c s0 D cA 4 ι0 h0 rr hf 85 (bk_143_85 d C J) := by
  obtain ⟨G, CS, R9, O9, RT, NM, T0, FL, JS⟩ := X
  exact (kx_s_ireturn G RT (by decide +kernel))
set_option maxRecDepth 20000 in
theorem sk_143_141 (X : kx_X p l e R s m args below meth c s0 D cA 4 ι0 h0 rr hf prog_11_method_57_code "TaskDeskModel" C d (Option.some Jvm.ClassFile.FieldType.int) "task" J) : kx_Sn p l e R s m args below meth c s0 D cA 4 ι0 h0 rr hf 141 (bk_143_141 d C J) := by
  obtain ⟨G, CS, R9, O9, RT, NM, T0, FL, JS⟩ := X
  exact (kx_s_ireturn G RT (by decide +kernel))
set_option maxRecDepth 20000 in
theorem sk_143_144 (X : kx_X p l e R s m args below meth c s0 D cA 4 ι0 h0 rr hf prog_11_method_57_code "TaskDeskModel" C d (Option.some Jvm.ClassFile.FieldType.int) "task" J) : kx_Sn p l e R s m args below meth c s0 D cA 4 ι0 h0 rr hf 144 (bk_143_144 d C J) := by
  obtain ⟨G, CS, R9, O9, RT, NM, T0, FL, JS⟩ := X
  exact (kx_s_iload_n (j := 3) G rfl (by decide +kernel) (kx_s_aload_n (j := 0) G rfl (by decide +kernel) (kx_s_gI G kf_9_103 (by decide +kernel) (kx_s_cge (off := 21) (tgt := 170) G (by decide +kernel) rfl (kx_s_iconst (i := -1) G (by decide +kernel) (by decide +kernel) (kx_s_ireturn G RT (by decide +kernel))) (kx_s_aload_n (j := 0) G rfl (by decide +kernel) (kx_s_gR G kf_9_33 (by decide +kernel) (kx_s_iload_n (j := 3) G rfl (by decide +kernel) (kx_s_aI G ka_99 (by decide +kernel) (kx_s_iload_n (j := 1) G rfl (by decide +kernel) (kx_s_cne (off := 5) (tgt := 164) G (by decide +kernel) rfl (kx_s_iinc (n := 1) G (by decide +kernel) (by decide +kernel) (by decide) (kx_s_goto (off := -23) (tgt := 144) G (by decide +kernel) rfl (kx_s_nm (JS 144)))) (kx_s_iload_n (j := 3) G rfl (by decide +kernel) (kx_s_ireturn G RT (by decide +kernel)))))))))))))
theorem sm_143 (X : kx_X p l e R s m args below meth c s0 D cA 4 ι0 h0 rr hf prog_11_method_57_code "TaskDeskModel" C d (Option.some Jvm.ClassFile.FieldType.int) "task" J) (b : Nat) : kx_Sn p l e R s m args below meth c s0 D cA 4 ι0 h0 rr hf b (bm_143 d C b J) := by
  unfold bm_143
  cases h0 : Nat.beq b 0 with
  | true => rw [Nat.eq_of_beq_eq_true h0]; exact sk_143_0 X
  | false =>
   cases h22 : Nat.beq b 22 with
   | true => rw [Nat.eq_of_beq_eq_true h22]; exact sk_143_22 X
   | false =>
    cases h75 : Nat.beq b 75 with
    | true => rw [Nat.eq_of_beq_eq_true h75]; exact sk_143_75 X
    | false =>
     cases h85 : Nat.beq b 85 with
     | true => rw [Nat.eq_of_beq_eq_true h85]; exact sk_143_85 X
     | false =>
      cases h141 : Nat.beq b 141 with
      | true => rw [Nat.eq_of_beq_eq_true h141]; exact sk_143_141 X
      | false =>
       cases h144 : Nat.beq b 144 with
       | true => rw [Nat.eq_of_beq_eq_true h144]; exact sk_143_144 X
       | false =>
        exact kx_s_no
/-! TaskDeskModel.isTask(I)Z -/
def bk_144_0 (d : Nat) (C : kx_C) (J : Nat → kx_F) : kx_F := (kx_li 1 (kx_iflt (kx_nm [] (J 24)) (kx_li 1 (kx_c (kx_i 256) (kx_cge (kx_nm [] (J 24)) (kx_la 0 (kx_gR 9 4 101 (kx_li 1 (kx_aB 101 (kx_ifeq (kx_nm [] (J 24)) (kx_c (kx_i 1) (kx_nm [] (J 25)))))))))))))
def bk_144_24 (d : Nat) (C : kx_C) (J : Nat → kx_F) : kx_F := (kx_c (kx_i 0) (kx_nm [] (J 25)))
def bk_144_25 (d : Nat) (C : kx_C) (J : Nat → kx_F) : kx_F := kx_rz
def bm_144 (d : Nat) (C : kx_C) (b : Nat) (J : Nat → kx_F) : kx_F := bif Nat.beq b 0 then bk_144_0 d C J else bif Nat.beq b 24 then bk_144_24 d C J else bif Nat.beq b 25 then bk_144_25 d C J else fun _ _ _ => none
set_option maxRecDepth 20000 in
theorem sk_144_0 (X : kx_X p l e R s m args below meth c s0 D cA 2 ι0 h0 rr hf prog_11_method_56_code "TaskDeskModel" C d (Option.some Jvm.ClassFile.FieldType.boolean) "isTask" J) : kx_Sn p l e R s m args below meth c s0 D cA 2 ι0 h0 rr hf 0 (bk_144_0 d C J) := by
  obtain ⟨G, CS, R9, O9, RT, NM, T0, FL, JS⟩ := X
  exact (kx_s_iload_n (j := 1) G rfl (by decide +kernel) (kx_s_iflt (off := 23) (tgt := 24) G (by decide +kernel) rfl (kx_s_nm (JS 24)) (kx_s_iload_n (j := 1) G rfl (by decide +kernel) (kx_s_sipush (i := 256) G (by decide +kernel) (by decide +kernel) (kx_s_cge (off := 16) (tgt := 24) G (by decide +kernel) rfl (kx_s_nm (JS 24)) (kx_s_aload_n (j := 0) G rfl (by decide +kernel) (kx_s_gR G kf_9_7 (by decide +kernel) (kx_s_iload_n (j := 1) G rfl (by decide +kernel) (kx_s_aB G ka_101 (by decide +kernel) (kx_s_ifeq (off := 7) (tgt := 24) G (by decide +kernel) rfl (kx_s_nm (JS 24)) (kx_s_iconst (i := 1) G (by decide +kernel) (by decide +kernel) (kx_s_goto (off := 4) (tgt := 25) G (by decide +kernel) rfl (kx_s_nm (JS 25))))))))))))))
set_option maxRecDepth 20000 in
theorem sk_144_24 (X : kx_X p l e R s m args below meth c s0 D cA 2 ι0 h0 rr hf prog_11_method_56_code "TaskDeskModel" C d (Option.some Jvm.ClassFile.FieldType.boolean) "isTask" J) : kx_Sn p l e R s m args below meth c s0 D cA 2 ι0 h0 rr hf 24 (bk_144_24 d C J) := by
  obtain ⟨G, CS, R9, O9, RT, NM, T0, FL, JS⟩ := X
  exact (kx_s_iconst (i := 0) G (by decide +kernel) (by decide +kernel) (kx_s_nm (JS 25)))
set_option maxRecDepth 20000 in
theorem sk_144_25 (X : kx_X p l e R s m args below meth c s0 D cA 2 ι0 h0 rr hf prog_11_method_56_code "TaskDeskModel" C d (Option.some Jvm.ClassFile.FieldType.boolean) "isTask" J) : kx_Sn p l e R s m args below meth c s0 D cA 2 ι0 h0 rr hf 25 (bk_144_25 d C J) := by
  obtain ⟨G, CS, R9, O9, RT, NM, T0, FL, JS⟩ := X
  exact (kx_s_zreturn G RT (by decide +kernel))
theorem sm_144 (X : kx_X p l e R s m args below meth c s0 D cA 2 ι0 h0 rr hf prog_11_method_56_code "TaskDeskModel" C d (Option.some Jvm.ClassFile.FieldType.boolean) "isTask" J) (b : Nat) : kx_Sn p l e R s m args below meth c s0 D cA 2 ι0 h0 rr hf b (bm_144 d C b J) := by
  unfold bm_144
  cases h0 : Nat.beq b 0 with
  | true => rw [Nat.eq_of_beq_eq_true h0]; exact sk_144_0 X
  | false =>
   cases h24 : Nat.beq b 24 with
   | true => rw [Nat.eq_of_beq_eq_true h24]; exact sk_144_24 X
   | false =>
    cases h25 : Nat.beq b 25 with
    | true => rw [Nat.eq_of_beq_eq_true h25]; exact sk_144_25 X
    | false =>
     exact kx_s_no
/-! TaskDeskModel.outcome(I)J -/
def bk_145_0 (d : Nat) (C : kx_C) (J : Nat → kx_F) : kx_F := (kx_la 0 (kx_c (kx_i 0) (kx_pI 9 0 (kx_la 0 (kx_li 1 (kx_Vi C 144 9 [0] (kx_ifeq (kx_la 0 (kx_c (kx_i 1) (kx_Vi C 91 9 [0] (kx_i2l (kx_nm [] (J 28)))))) (kx_la 0 (kx_gR 9 7 100 (kx_li 1 (kx_aL 100 (kx_nm [] (J 28)))))))))))))
def bk_145_28 (d : Nat) (C : kx_C) (J : Nat → kx_F) : kx_F := kx_rl
def bm_145 (d : Nat) (C : kx_C) (b : Nat) (J : Nat → kx_F) : kx_F := bif Nat.beq b 0 then bk_145_0 d C J else bif Nat.beq b 28 then bk_145_28 d C J else fun _ _ _ => none
set_option maxRecDepth 20000 in
theorem sk_145_0 (X : kx_X p l e R s m args below meth c s0 D cA 2 ι0 h0 rr hf prog_11_method_58_code "TaskDeskModel" C d (Option.some Jvm.ClassFile.FieldType.long) "outcome" J) : kx_Sn p l e R s m args below meth c s0 D cA 2 ι0 h0 rr hf 0 (bk_145_0 d C J) := by
  obtain ⟨G, CS, R9, O9, RT, NM, T0, FL, JS⟩ := X
  exact (kx_s_aload_n (j := 0) G rfl (by decide +kernel) (kx_s_iconst (i := 0) G (by decide +kernel) (by decide +kernel) (kx_s_pI G kf_9_99 rfl (by decide +kernel) (by decide +kernel) (kx_s_aload_n (j := 0) G rfl (by decide +kernel) (kx_s_iload_n (j := 1) G rfl (by decide +kernel) (kx_s_Vi (n := 144) G kx_good CS R9 (O9 _) kc_144 rfl kw_1282 kw_1284 kw_76 (r := kr_9) rfl (by decide) (by decide +kernel) (kx_s_ifeq (off := 12) (tgt := 22) G (by decide +kernel) rfl (kx_s_aload_n (j := 0) G rfl (by decide +kernel) (kx_s_iconst (i := 1) G (by decide +kernel) (by decide +kernel) (kx_s_Vi (n := 91) G kx_good CS R9 (O9 _) kc_91 rfl kw_1068 kw_1070 kw_41 (r := kr_9) rfl (by decide) (by decide +kernel) (kx_s_i2l G (by decide +kernel) (kx_s_nm (JS 28)))))) (kx_s_aload_n (j := 0) G rfl (by decide +kernel) (kx_s_gR G kf_9_20 (by decide +kernel) (kx_s_iload_n (j := 1) G rfl (by decide +kernel) (kx_s_aL G ka_100 (by decide +kernel) (kx_s_goto (off := 9) (tgt := 28) G (by decide +kernel) rfl (kx_s_nm (JS 28))))))))))))))
set_option maxRecDepth 20000 in
theorem sk_145_28 (X : kx_X p l e R s m args below meth c s0 D cA 2 ι0 h0 rr hf prog_11_method_58_code "TaskDeskModel" C d (Option.some Jvm.ClassFile.FieldType.long) "outcome" J) : kx_Sn p l e R s m args below meth c s0 D cA 2 ι0 h0 rr hf 28 (bk_145_28 d C J) := by
  obtain ⟨G, CS, R9, O9, RT, NM, T0, FL, JS⟩ := X
  exact (kx_s_lreturn G RT (by decide +kernel))
theorem sm_145 (X : kx_X p l e R s m args below meth c s0 D cA 2 ι0 h0 rr hf prog_11_method_58_code "TaskDeskModel" C d (Option.some Jvm.ClassFile.FieldType.long) "outcome" J) (b : Nat) : kx_Sn p l e R s m args below meth c s0 D cA 2 ι0 h0 rr hf b (bm_145 d C b J) := by
  unfold bm_145
  cases h0 : Nat.beq b 0 with
  | true => rw [Nat.eq_of_beq_eq_true h0]; exact sk_145_0 X
  | false =>
   cases h28 : Nat.beq b 28 with
   | true => rw [Nat.eq_of_beq_eq_true h28]; exact sk_145_28 X
   | false =>
    exact kx_s_no
/-! TaskDeskModel.look(II)I -/
def bk_146_0 (d : Nat) (C : kx_C) (J : Nat → kx_F) : kx_F := (kx_la 0 (kx_c (kx_i 0) (kx_pI 9 0 (kx_la 0 (kx_li 1 (kx_Vi C 93 9 [0] (kx_ifeq (kx_nm [0] (J 22)) (kx_li 2 (kx_iflt (kx_nm [0] (J 22)) (kx_li 2 (kx_c (kx_i 4) (kx_cle (kx_li 2 (kx_c (kx_i 2) (kx_cge (kx_li 2 (kx_c (kx_i 4) (kx_cne (kx_c (kx_i 0) (kx_si 3 (kx_c (kx_i 0) (kx_si 4 (kx_nm [0, 1, 2, 3, 4] (J 77)))))) (kx_la 0 (kx_gR 9 14 101 (kx_li 1 (kx_aB 101 (kx_ifeq (kx_c (kx_i 0) (kx_nm [] (J 71))) (kx_c (kx_i 1) (kx_nm [] (J 71))))))))))) (kx_li 2 (kx_ifne (kx_la 0 (kx_gR 9 15 99 (kx_li 1 (kx_aI 99 (kx_nm [] (J 51)))))) (kx_la 0 (kx_li 1 (kx_Vi C 95 9 [0] (kx_nm [] (J 51)))))))))) (kx_nm [0] (J 22))))))))))))))
def bk_146_22 (d : Nat) (C : kx_C) (J : Nat → kx_F) : kx_F := (kx_la 0 (kx_c (kx_i 1) (kx_Vi C 91 9 [0] kx_ri)))
def bk_146_51 (d : Nat) (C : kx_C) (J : Nat → kx_F) : kx_F := kx_ri
def bk_146_71 (d : Nat) (C : kx_C) (J : Nat → kx_F) : kx_F := kx_ri
def bk_146_77 (d : Nat) (C : kx_C) (J : Nat → kx_F) : kx_F := (kx_li 4 (kx_la 0 (kx_gI 9 20 (kx_cge (kx_li 3 kx_ri) (kx_li 3 (kx_la 0 (kx_gR 9 22 99 (kx_li 4 (kx_aI 99 (kx_li 1 (kx_cne (kx_nm [0, 1, 2, 4] (J 122)) (kx_la 0 (kx_gR 9 23 101 (kx_li 4 (kx_aB 101 (kx_li 2 (kx_c (kx_i 2) (kx_cne (kx_c (kx_i 0) (kx_nm [0, 1, 2, 4] (J 115))) (kx_c (kx_i 1) (kx_nm [0, 1, 2, 4] (J 115)))))))))))))))))))))
def bk_146_115 (d : Nat) (C : kx_C) (J : Nat → kx_F) : kx_F := (kx_cne (kx_nm [0, 1, 2, 4] (J 122)) (kx_c (kx_i 1) (kx_nm [0, 1, 2, 4] (J 123))))
def bk_146_122 (d : Nat) (C : kx_C) (J : Nat → kx_F) : kx_F := (kx_c (kx_i 0) (kx_nm [0, 1, 2, 4] (J 123)))
def bk_146_123 (d : Nat) (C : kx_C) (J : Nat → kx_F) : kx_F := (kx_ii (fun x y => x + y) (kx_si 3 (kx_inc 4 1 (kx_nm [0, 1, 2, 3, 4] (J 77)))))
def bm_146 (d : Nat) (C : kx_C) (b : Nat) (J : Nat → kx_F) : kx_F := bif Nat.beq b 0 then bk_146_0 d C J else bif Nat.beq b 22 then bk_146_22 d C J else bif Nat.beq b 51 then bk_146_51 d C J else bif Nat.beq b 71 then bk_146_71 d C J else bif Nat.beq b 77 then bk_146_77 d C J else bif Nat.beq b 115 then bk_146_115 d C J else bif Nat.beq b 122 then bk_146_122 d C J else bif Nat.beq b 123 then bk_146_123 d C J else fun _ _ _ => none
set_option maxRecDepth 20000 in
theorem sk_146_0 (X : kx_X p l e R s m args below meth c s0 D cA 5 ι0 h0 rr hf prog_11_method_59_code "TaskDeskModel" C d (Option.some Jvm.ClassFile.FieldType.int) "look" J) : kx_Sn p l e R s m args below meth c s0 D cA 5 ι0 h0 rr hf 0 (bk_146_0 d C J) := by
  obtain ⟨G, CS, R9, O9, RT, NM, T0, FL, JS⟩ := X
  exact (kx_s_aload_n (j := 0) G rfl (by decide +kernel) (kx_s_iconst (i := 0) G (by decide +kernel) (by decide +kernel) (kx_s_pI G kf_9_99 rfl (by decide +kernel) (by decide +kernel) (kx_s_aload_n (j := 0) G rfl (by decide +kernel) (kx_s_iload_n (j := 1) G rfl (by decide +kernel) (kx_s_Vi (n := 93) G kx_good CS R9 (O9 _) kc_93 rfl kw_1076 kw_1078 kw_42 (r := kr_9) rfl (by decide) (by decide +kernel) (kx_s_ifeq (off := 12) (tgt := 22) G (by decide +kernel) rfl (kx_s_nm (JS 22)) (kx_s_iload_n (j := 2) G rfl (by decide +kernel) (kx_s_iflt (off := 8) (tgt := 22) G (by decide +kernel) rfl (kx_s_nm (JS 22)) (kx_s_iload_n (j := 2) G rfl (by decide +kernel) (kx_s_iconst (i := 4) G (by decide +kernel) (by decide +kernel) (kx_s_cle (off := 9) (tgt := 28) G (by decide +kernel) rfl (kx_s_iload_n (j := 2) G rfl (by decide +kernel) (kx_s_iconst (i := 2) G (by decide +kernel) (by decide +kernel) (kx_s_cge (off := 22) (tgt := 52) G (by decide +kernel) rfl (kx_s_iload_n (j := 2) G rfl (by decide +kernel) (kx_s_iconst (i := 4) G (by decide +kernel) (by decide +kernel) (kx_s_cne (off := 18) (tgt := 72) G (by decide +kernel) rfl (kx_s_iconst (i := 0) G (by decide +kernel) (by decide +kernel) (kx_s_istore_n (j := 3) G rfl (by decide +kernel) (by decide) (kx_s_iconst (i := 0) G (by decide +kernel) (by decide +kernel) (kx_s_istore G (by decide +kernel) (by decide) (kx_s_nm (JS 77)))))) (kx_s_aload_n (j := 0) G rfl (by decide +kernel) (kx_s_gR G kf_9_39 (by decide +kernel) (kx_s_iload_n (j := 1) G rfl (by decide +kernel) (kx_s_aB G ka_101 (by decide +kernel) (kx_s_ifeq (off := 7) (tgt := 70) G (by decide +kernel) rfl (kx_s_iconst (i := 0) G (by decide +kernel) (by decide +kernel) (kx_s_nm (JS 71))) (kx_s_iconst (i := 1) G (by decide +kernel) (by decide +kernel) (kx_s_goto (off := 4) (tgt := 71) G (by decide +kernel) rfl (kx_s_nm (JS 71)))))))))))) (kx_s_iload_n (j := 2) G rfl (by decide +kernel) (kx_s_ifne (off := 11) (tgt := 45) G (by decide +kernel) rfl (kx_s_aload_n (j := 0) G rfl (by decide +kernel) (kx_s_gR G kf_9_42 (by decide +kernel) (kx_s_iload_n (j := 1) G rfl (by decide +kernel) (kx_s_aI G ka_99 (by decide +kernel) (kx_s_nm (JS 51)))))) (kx_s_aload_n (j := 0) G rfl (by decide +kernel) (kx_s_iload_n (j := 1) G rfl (by decide +kernel) (kx_s_Vi (n := 95) G kx_good CS R9 (O9 _) kc_95 rfl kw_1084 kw_1086 kw_44 (r := kr_9) rfl (by decide) (by decide +kernel) (kx_s_goto (off := 9) (tgt := 51) G (by decide +kernel) rfl (kx_s_nm (JS 51))))))))))) (kx_s_nm (JS 22))))))))))))))
set_option maxRecDepth 20000 in
theorem sk_146_22 (X : kx_X p l e R s m args below meth c s0 D cA 5 ι0 h0 rr hf prog_11_method_59_code "TaskDeskModel" C d (Option.some Jvm.ClassFile.FieldType.int) "look" J) : kx_Sn p l e R s m args below meth c s0 D cA 5 ι0 h0 rr hf 22 (bk_146_22 d C J) := by
  obtain ⟨G, CS, R9, O9, RT, NM, T0, FL, JS⟩ := X
  exact (kx_s_aload_n (j := 0) G rfl (by decide +kernel) (kx_s_iconst (i := 1) G (by decide +kernel) (by decide +kernel) (kx_s_Vi (n := 91) G kx_good CS R9 (O9 _) kc_91 rfl kw_1068 kw_1070 kw_41 (r := kr_9) rfl (by decide) (by decide +kernel) (kx_s_ireturn G RT (by decide +kernel)))))
set_option maxRecDepth 20000 in
theorem sk_146_51 (X : kx_X p l e R s m args below meth c s0 D cA 5 ι0 h0 rr hf prog_11_method_59_code "TaskDeskModel" C d (Option.some Jvm.ClassFile.FieldType.int) "look" J) : kx_Sn p l e R s m args below meth c s0 D cA 5 ι0 h0 rr hf 51 (bk_146_51 d C J) := by
  obtain ⟨G, CS, R9, O9, RT, NM, T0, FL, JS⟩ := X
  exact (kx_s_ireturn G RT (by decide +kernel))
set_option maxRecDepth 20000 in
theorem sk_146_71 (X : kx_X p l e R s m args below meth c s0 D cA 5 ι0 h0 rr hf prog_11_method_59_code "TaskDeskModel" C d (Option.some Jvm.ClassFile.FieldType.int) "look" J) : kx_Sn p l e R s m args below meth c s0 D cA 5 ι0 h0 rr hf 71 (bk_146_71 d C J) := by
  obtain ⟨G, CS, R9, O9, RT, NM, T0, FL, JS⟩ := X
  exact (kx_s_ireturn G RT (by decide +kernel))
set_option maxRecDepth 20000 in
theorem sk_146_77 (X : kx_X p l e R s m args below meth c s0 D cA 5 ι0 h0 rr hf prog_11_method_59_code "TaskDeskModel" C d (Option.some Jvm.ClassFile.FieldType.int) "look" J) : kx_Sn p l e R s m args below meth c s0 D cA 5 ι0 h0 rr hf 77 (bk_146_77 d C J) := by
  obtain ⟨G, CS, R9, O9, RT, NM, T0, FL, JS⟩ := X
  exact (kx_s_iload G (by decide +kernel) (kx_s_aload_n (j := 0) G rfl (by decide +kernel) (kx_s_gI G kf_9_149 (by decide +kernel) (kx_s_cge (off := 48) (tgt := 131) G (by decide +kernel) rfl (kx_s_iload_n (j := 3) G rfl (by decide +kernel) (kx_s_ireturn G RT (by decide +kernel))) (kx_s_iload_n (j := 3) G rfl (by decide +kernel) (kx_s_aload_n (j := 0) G rfl (by decide +kernel) (kx_s_gR G kf_9_54 (by decide +kernel) (kx_s_iload G (by decide +kernel) (kx_s_aI G ka_99 (by decide +kernel) (kx_s_iload_n (j := 1) G rfl (by decide +kernel) (kx_s_cne (off := 27) (tgt := 122) G (by decide +kernel) rfl (kx_s_nm (JS 122)) (kx_s_aload_n (j := 0) G rfl (by decide +kernel) (kx_s_gR G kf_9_57 (by decide +kernel) (kx_s_iload G (by decide +kernel) (kx_s_aB G ka_101 (by decide +kernel) (kx_s_iload_n (j := 2) G rfl (by decide +kernel) (kx_s_iconst (i := 2) G (by decide +kernel) (by decide +kernel) (kx_s_cne (off := 7) (tgt := 114) G (by decide +kernel) rfl (kx_s_iconst (i := 0) G (by decide +kernel) (by decide +kernel) (kx_s_nm (JS 115))) (kx_s_iconst (i := 1) G (by decide +kernel) (by decide +kernel) (kx_s_goto (off := 4) (tgt := 115) G (by decide +kernel) rfl (kx_s_nm (JS 115))))))))))))))))))))))
set_option maxRecDepth 20000 in
theorem sk_146_115 (X : kx_X p l e R s m args below meth c s0 D cA 5 ι0 h0 rr hf prog_11_method_59_code "TaskDeskModel" C d (Option.some Jvm.ClassFile.FieldType.int) "look" J) : kx_Sn p l e R s m args below meth c s0 D cA 5 ι0 h0 rr hf 115 (bk_146_115 d C J) := by
  obtain ⟨G, CS, R9, O9, RT, NM, T0, FL, JS⟩ := X
  exact (kx_s_cne (off := 7) (tgt := 122) G (by decide +kernel) rfl (kx_s_nm (JS 122)) (kx_s_iconst (i := 1) G (by decide +kernel) (by decide +kernel) (kx_s_goto (off := 4) (tgt := 123) G (by decide +kernel) rfl (kx_s_nm (JS 123)))))
set_option maxRecDepth 20000 in
theorem sk_146_122 (X : kx_X p l e R s m args below meth c s0 D cA 5 ι0 h0 rr hf prog_11_method_59_code "TaskDeskModel" C d (Option.some Jvm.ClassFile.FieldType.int) "look" J) : kx_Sn p l e R s m args below meth c s0 D cA 5 ι0 h0 rr hf 122 (bk_146_122 d C J) := by
  obtain ⟨G, CS, R9, O9, RT, NM, T0, FL, JS⟩ := X
  exact (kx_s_iconst (i := 0) G (by decide +kernel) (by decide +kernel) (kx_s_nm (JS 123)))
set_option maxRecDepth 20000 in
theorem sk_146_123 (X : kx_X p l e R s m args below meth c s0 D cA 5 ι0 h0 rr hf prog_11_method_59_code "TaskDeskModel" C d (Option.some Jvm.ClassFile.FieldType.int) "look" J) : kx_Sn p l e R s m args below meth c s0 D cA 5 ι0 h0 rr hf 123 (bk_146_123 d C J) := by
  obtain ⟨G, CS, R9, O9, RT, NM, T0, FL, JS⟩ := X
  exact (kx_s_iadd G (by decide +kernel) (kx_s_istore_n (j := 3) G rfl (by decide +kernel) (by decide) (kx_s_iinc (n := 1) G (by decide +kernel) (by decide +kernel) (by decide) (kx_s_goto (off := -51) (tgt := 77) G (by decide +kernel) rfl (kx_s_nm (JS 77))))))
theorem sm_146 (X : kx_X p l e R s m args below meth c s0 D cA 5 ι0 h0 rr hf prog_11_method_59_code "TaskDeskModel" C d (Option.some Jvm.ClassFile.FieldType.int) "look" J) (b : Nat) : kx_Sn p l e R s m args below meth c s0 D cA 5 ι0 h0 rr hf b (bm_146 d C b J) := by
  unfold bm_146
  cases h0 : Nat.beq b 0 with
  | true => rw [Nat.eq_of_beq_eq_true h0]; exact sk_146_0 X
  | false =>
   cases h22 : Nat.beq b 22 with
   | true => rw [Nat.eq_of_beq_eq_true h22]; exact sk_146_22 X
   | false =>
    cases h51 : Nat.beq b 51 with
    | true => rw [Nat.eq_of_beq_eq_true h51]; exact sk_146_51 X
    | false =>
     cases h71 : Nat.beq b 71 with
     | true => rw [Nat.eq_of_beq_eq_true h71]; exact sk_146_71 X
     | false =>
      cases h77 : Nat.beq b 77 with
      | true => rw [Nat.eq_of_beq_eq_true h77]; exact sk_146_77 X
      | false =>
       cases h115 : Nat.beq b 115 with
       | true => rw [Nat.eq_of_beq_eq_true h115]; exact sk_146_115 X
       | false =>
        cases h122 : Nat.beq b 122 with
        | true => rw [Nat.eq_of_beq_eq_true h122]; exact sk_146_122 X
        | false =>
         cases h123 : Nat.beq b 123 with
         | true => rw [Nat.eq_of_beq_eq_true h123]; exact sk_146_123 X
         | false =>
          exact kx_s_no
/-! TaskDeskModel.watch(II)I -/
def bk_147_0 (d : Nat) (C : kx_C) (J : Nat → kx_F) : kx_F := (kx_la 0 (kx_c (kx_i 0) (kx_pI 9 0 (kx_la 0 (kx_li 1 (kx_Vi C 125 9 [0] (kx_ifeq (kx_nm [0] (J 22)) (kx_li 2 (kx_iflt (kx_nm [0] (J 22)) (kx_li 2 (kx_c (kx_i 2) (kx_cle (kx_li 2 (kx_ifne (kx_li 2 (kx_c (kx_i 1) (kx_cne (kx_la 0 (kx_li 1 (kx_Vi C 141 9 [0] (kx_nm [] (J 60))))) (kx_la 0 (kx_gR 9 32 99 (kx_li 1 (kx_aI 99 (kx_nm [] (J 60))))))))) (kx_la 0 (kx_gR 9 31 99 (kx_li 1 (kx_aI 99 (kx_nm [] (J 60)))))))) (kx_nm [0] (J 22))))))))))))))
def bk_147_22 (d : Nat) (C : kx_C) (J : Nat → kx_F) : kx_F := (kx_la 0 (kx_c (kx_i 1) (kx_Vi C 91 9 [0] kx_ri)))
def bk_147_60 (d : Nat) (C : kx_C) (J : Nat → kx_F) : kx_F := kx_ri
def bm_147 (d : Nat) (C : kx_C) (b : Nat) (J : Nat → kx_F) : kx_F := bif Nat.beq b 0 then bk_147_0 d C J else bif Nat.beq b 22 then bk_147_22 d C J else bif Nat.beq b 60 then bk_147_60 d C J else fun _ _ _ => none
set_option maxRecDepth 20000 in
theorem sk_147_0 (X : kx_X p l e R s m args below meth c s0 D cA 3 ι0 h0 rr hf prog_11_method_60_code "TaskDeskModel" C d (Option.some Jvm.ClassFile.FieldType.int) "watch" J) : kx_Sn p l e R s m args below meth c s0 D cA 3 ι0 h0 rr hf 0 (bk_147_0 d C J) := by
  obtain ⟨G, CS, R9, O9, RT, NM, T0, FL, JS⟩ := X
  exact (kx_s_aload_n (j := 0) G rfl (by decide +kernel) (kx_s_iconst (i := 0) G (by decide +kernel) (by decide +kernel) (kx_s_pI G kf_9_99 rfl (by decide +kernel) (by decide +kernel) (kx_s_aload_n (j := 0) G rfl (by decide +kernel) (kx_s_iload_n (j := 1) G rfl (by decide +kernel) (kx_s_Vi (n := 125) G kx_good CS R9 (O9 _) kc_125 rfl kw_1206 kw_1208 kw_63 (r := kr_9) rfl (by decide) (by decide +kernel) (kx_s_ifeq (off := 12) (tgt := 22) G (by decide +kernel) rfl (kx_s_nm (JS 22)) (kx_s_iload_n (j := 2) G rfl (by decide +kernel) (kx_s_iflt (off := 8) (tgt := 22) G (by decide +kernel) rfl (kx_s_nm (JS 22)) (kx_s_iload_n (j := 2) G rfl (by decide +kernel) (kx_s_iconst (i := 2) G (by decide +kernel) (by decide +kernel) (kx_s_cle (off := 9) (tgt := 28) G (by decide +kernel) rfl (kx_s_iload_n (j := 2) G rfl (by decide +kernel) (kx_s_ifne (off := 12) (tgt := 41) G (by decide +kernel) rfl (kx_s_iload_n (j := 2) G rfl (by decide +kernel) (kx_s_iconst (i := 1) G (by decide +kernel) (by decide +kernel) (kx_s_cne (off := 12) (tgt := 55) G (by decide +kernel) rfl (kx_s_aload_n (j := 0) G rfl (by decide +kernel) (kx_s_iload_n (j := 1) G rfl (by decide +kernel) (kx_s_Vi (n := 141) G kx_good CS R9 (O9 _) kc_141 rfl kw_1270 kw_1272 kw_75 (r := kr_9) rfl (by decide) (by decide +kernel) (kx_s_nm (JS 60))))) (kx_s_aload_n (j := 0) G rfl (by decide +kernel) (kx_s_gR G kf_9_78 (by decide +kernel) (kx_s_iload_n (j := 1) G rfl (by decide +kernel) (kx_s_aI G ka_99 (by decide +kernel) (kx_s_goto (off := 8) (tgt := 60) G (by decide +kernel) rfl (kx_s_nm (JS 60)))))))))) (kx_s_aload_n (j := 0) G rfl (by decide +kernel) (kx_s_gR G kf_9_75 (by decide +kernel) (kx_s_iload_n (j := 1) G rfl (by decide +kernel) (kx_s_aI G ka_99 (by decide +kernel) (kx_s_goto (off := 22) (tgt := 60) G (by decide +kernel) rfl (kx_s_nm (JS 60))))))))) (kx_s_nm (JS 22))))))))))))))
set_option maxRecDepth 20000 in
theorem sk_147_22 (X : kx_X p l e R s m args below meth c s0 D cA 3 ι0 h0 rr hf prog_11_method_60_code "TaskDeskModel" C d (Option.some Jvm.ClassFile.FieldType.int) "watch" J) : kx_Sn p l e R s m args below meth c s0 D cA 3 ι0 h0 rr hf 22 (bk_147_22 d C J) := by
  obtain ⟨G, CS, R9, O9, RT, NM, T0, FL, JS⟩ := X
  exact (kx_s_aload_n (j := 0) G rfl (by decide +kernel) (kx_s_iconst (i := 1) G (by decide +kernel) (by decide +kernel) (kx_s_Vi (n := 91) G kx_good CS R9 (O9 _) kc_91 rfl kw_1068 kw_1070 kw_41 (r := kr_9) rfl (by decide) (by decide +kernel) (kx_s_ireturn G RT (by decide +kernel)))))
set_option maxRecDepth 20000 in
theorem sk_147_60 (X : kx_X p l e R s m args below meth c s0 D cA 3 ι0 h0 rr hf prog_11_method_60_code "TaskDeskModel" C d (Option.some Jvm.ClassFile.FieldType.int) "watch" J) : kx_Sn p l e R s m args below meth c s0 D cA 3 ι0 h0 rr hf 60 (bk_147_60 d C J) := by
  obtain ⟨G, CS, R9, O9, RT, NM, T0, FL, JS⟩ := X
  exact (kx_s_ireturn G RT (by decide +kernel))
theorem sm_147 (X : kx_X p l e R s m args below meth c s0 D cA 3 ι0 h0 rr hf prog_11_method_60_code "TaskDeskModel" C d (Option.some Jvm.ClassFile.FieldType.int) "watch" J) (b : Nat) : kx_Sn p l e R s m args below meth c s0 D cA 3 ι0 h0 rr hf b (bm_147 d C b J) := by
  unfold bm_147
  cases h0 : Nat.beq b 0 with
  | true => rw [Nat.eq_of_beq_eq_true h0]; exact sk_147_0 X
  | false =>
   cases h22 : Nat.beq b 22 with
   | true => rw [Nat.eq_of_beq_eq_true h22]; exact sk_147_22 X
   | false =>
    cases h60 : Nat.beq b 60 with
    | true => rw [Nat.eq_of_beq_eq_true h60]; exact sk_147_60 X
    | false =>
     exact kx_s_no
/-! TaskDeskModel.clock()J -/
def bk_148_0 (d : Nat) (C : kx_C) (J : Nat → kx_F) : kx_F := (kx_la 0 (kx_c (kx_i 0) (kx_pI 9 0 (kx_la 0 (kx_gL 9 3 kx_rl)))))
def bm_148 (d : Nat) (C : kx_C) (b : Nat) (J : Nat → kx_F) : kx_F := bif Nat.beq b 0 then bk_148_0 d C J else fun _ _ _ => none
set_option maxRecDepth 20000 in
theorem sk_148_0 (X : kx_X p l e R s m args below meth c s0 D cA 1 ι0 h0 rr hf prog_11_method_61_code "TaskDeskModel" C d (Option.some Jvm.ClassFile.FieldType.long) "clock" J) : kx_Sn p l e R s m args below meth c s0 D cA 1 ι0 h0 rr hf 0 (bk_148_0 d C J) := by
  obtain ⟨G, CS, R9, O9, RT, NM, T0, FL, JS⟩ := X
  exact (kx_s_aload_n (j := 0) G rfl (by decide +kernel) (kx_s_iconst (i := 0) G (by decide +kernel) (by decide +kernel) (kx_s_pI G kf_9_99 rfl (by decide +kernel) (by decide +kernel) (kx_s_aload_n (j := 0) G rfl (by decide +kernel) (kx_s_gL G kf_9_121 (by decide +kernel) (kx_s_lreturn G RT (by decide +kernel)))))))
theorem sm_148 (X : kx_X p l e R s m args below meth c s0 D cA 1 ι0 h0 rr hf prog_11_method_61_code "TaskDeskModel" C d (Option.some Jvm.ClassFile.FieldType.long) "clock" J) (b : Nat) : kx_Sn p l e R s m args below meth c s0 D cA 1 ι0 h0 rr hf b (bm_148 d C b J) := by
  unfold bm_148
  cases h0 : Nat.beq b 0 with
  | true => rw [Nat.eq_of_beq_eq_true h0]; exact sk_148_0 X
  | false =>
   exact kx_s_no
/-! TaskDeskModel.count(I)I -/
def bk_149_0 (d : Nat) (C : kx_C) (J : Nat → kx_F) : kx_F := (kx_la 0 (kx_c (kx_i 0) (kx_pI 9 0 (kx_li 1 (kx_sw [(0, (kx_la 0 (kx_Vi C 150 9 [] kx_ri))), (1, (kx_la 0 (kx_gI 9 11 kx_ri))), (2, (kx_la 0 (kx_Vi C 151 9 [] kx_ri))), (3, (kx_la 0 (kx_gI 9 16 kx_ri))), (4, (kx_la 0 (kx_gI 9 30 kx_ri))), (5, (kx_la 0 (kx_gI 9 41 kx_ri))), (6, (kx_la 0 (kx_gI 9 26 kx_ri))), (7, (kx_la 0 (kx_gI 9 2 kx_ri)))] (kx_c (kx_i (-1)) kx_ri))))))
def bm_149 (d : Nat) (C : kx_C) (b : Nat) (J : Nat → kx_F) : kx_F := bif Nat.beq b 0 then bk_149_0 d C J else fun _ _ _ => none
set_option maxRecDepth 20000 in
theorem sk_149_0 (X : kx_X p l e R s m args below meth c s0 D cA 2 ι0 h0 rr hf prog_11_method_62_code "TaskDeskModel" C d (Option.some Jvm.ClassFile.FieldType.int) "count" J) : kx_Sn p l e R s m args below meth c s0 D cA 2 ι0 h0 rr hf 0 (bk_149_0 d C J) := by
  obtain ⟨G, CS, R9, O9, RT, NM, T0, FL, JS⟩ := X
  exact (kx_s_aload_n (j := 0) G rfl (by decide +kernel) (kx_s_iconst (i := 0) G (by decide +kernel) (by decide +kernel) (kx_s_pI G kf_9_99 rfl (by decide +kernel) (by decide +kernel) (kx_s_iload_n (j := 1) G rfl (by decide +kernel) (kx_s_tsw (dflt := 86) (lo := 0) (hi := 7) (offs := #[46, 51, 56, 61, 66, 71, 76, 81]) (len := 46) G (by decide +kernel) (tgtD := 92) rfl (kx_s_iconst (i := -1) G (by decide +kernel) (by decide +kernel) (kx_s_ireturn G RT (by decide +kernel))) (List.forall_mem_cons.mpr ⟨kx_tq (46) 52 (by decide +kernel) (by decide +kernel) (by decide +kernel) rfl (kx_s_aload_n (j := 0) G rfl (by decide +kernel) (kx_s_Vi (n := 150) G kx_good CS R9 (O9 _) kc_150 rfl kw_1306 kw_1308 kw_77 (r := kr_9) rfl (by decide) (by decide +kernel) (kx_s_ireturn G RT (by decide +kernel)))), List.forall_mem_cons.mpr ⟨kx_tq (51) 57 (by decide +kernel) (by decide +kernel) (by decide +kernel) rfl (kx_s_aload_n (j := 0) G rfl (by decide +kernel) (kx_s_gI G kf_9_103 (by decide +kernel) (kx_s_ireturn G RT (by decide +kernel)))), List.forall_mem_cons.mpr ⟨kx_tq (56) 62 (by decide +kernel) (by decide +kernel) (by decide +kernel) rfl (kx_s_aload_n (j := 0) G rfl (by decide +kernel) (kx_s_Vi (n := 151) G kx_good CS R9 (O9 _) kc_151 rfl kw_1310 kw_1312 kw_78 (r := kr_9) rfl (by decide) (by decide +kernel) (kx_s_ireturn G RT (by decide +kernel)))), List.forall_mem_cons.mpr ⟨kx_tq (61) 67 (by decide +kernel) (by decide +kernel) (by decide +kernel) rfl (kx_s_aload_n (j := 0) G rfl (by decide +kernel) (kx_s_gI G kf_9_173 (by decide +kernel) (kx_s_ireturn G RT (by decide +kernel)))), List.forall_mem_cons.mpr ⟨kx_tq (66) 72 (by decide +kernel) (by decide +kernel) (by decide +kernel) rfl (kx_s_aload_n (j := 0) G rfl (by decide +kernel) (kx_s_gI G kf_9_218 (by decide +kernel) (kx_s_ireturn G RT (by decide +kernel)))), List.forall_mem_cons.mpr ⟨kx_tq (71) 77 (by decide +kernel) (by decide +kernel) (by decide +kernel) rfl (kx_s_aload_n (j := 0) G rfl (by decide +kernel) (kx_s_gI G kf_9_129 (by decide +kernel) (kx_s_ireturn G RT (by decide +kernel)))), List.forall_mem_cons.mpr ⟨kx_tq (76) 82 (by decide +kernel) (by decide +kernel) (by decide +kernel) rfl (kx_s_aload_n (j := 0) G rfl (by decide +kernel) (kx_s_gI G kf_9_180 (by decide +kernel) (kx_s_ireturn G RT (by decide +kernel)))), List.forall_mem_cons.mpr ⟨kx_tq (81) 87 (by decide +kernel) (by decide +kernel) (by decide +kernel) rfl (kx_s_aload_n (j := 0) G rfl (by decide +kernel) (kx_s_gI G kf_9_118 (by decide +kernel) (kx_s_ireturn G RT (by decide +kernel)))), List.forall_mem_nil _⟩⟩⟩⟩⟩⟩⟩⟩) (kx_cov 8 (by decide) (vs := [0, 1, 2, 3, 4, 5, 6, 7]) rfl (by decide +kernel)))))))
theorem sm_149 (X : kx_X p l e R s m args below meth c s0 D cA 2 ι0 h0 rr hf prog_11_method_62_code "TaskDeskModel" C d (Option.some Jvm.ClassFile.FieldType.int) "count" J) (b : Nat) : kx_Sn p l e R s m args below meth c s0 D cA 2 ι0 h0 rr hf b (bm_149 d C b J) := by
  unfold bm_149
  cases h0 : Nat.beq b 0 with
  | true => rw [Nat.eq_of_beq_eq_true h0]; exact sk_149_0 X
  | false =>
   exact kx_s_no
/-! TaskDeskModel.living()I -/
def bk_150_0 (d : Nat) (C : kx_C) (J : Nat → kx_F) : kx_F := (kx_c (kx_i 0) (kx_si 1 (kx_c (kx_i 0) (kx_si 2 (kx_nm [0, 1, 2] (J 4))))))
def bk_150_4 (d : Nat) (C : kx_C) (J : Nat → kx_F) : kx_F := (kx_li 2 (kx_c (kx_i 256) (kx_cge (kx_li 1 kx_ri) (kx_li 1 (kx_la 0 (kx_gR 9 4 101 (kx_li 2 (kx_aB 101 (kx_ifeq (kx_c (kx_i 0) (kx_nm [0, 2] (J 26))) (kx_c (kx_i 1) (kx_nm [0, 2] (J 26))))))))))))
def bk_150_26 (d : Nat) (C : kx_C) (J : Nat → kx_F) : kx_F := (kx_ii (fun x y => x + y) (kx_si 1 (kx_inc 2 1 (kx_nm [0, 1, 2] (J 4)))))
def bm_150 (d : Nat) (C : kx_C) (b : Nat) (J : Nat → kx_F) : kx_F := bif Nat.beq b 0 then bk_150_0 d C J else bif Nat.beq b 4 then bk_150_4 d C J else bif Nat.beq b 26 then bk_150_26 d C J else fun _ _ _ => none
set_option maxRecDepth 20000 in
theorem sk_150_0 (X : kx_X p l e R s m args below meth c s0 D cA 3 ι0 h0 rr hf prog_11_method_63_code "TaskDeskModel" C d (Option.some Jvm.ClassFile.FieldType.int) "living" J) : kx_Sn p l e R s m args below meth c s0 D cA 3 ι0 h0 rr hf 0 (bk_150_0 d C J) := by
  obtain ⟨G, CS, R9, O9, RT, NM, T0, FL, JS⟩ := X
  exact (kx_s_iconst (i := 0) G (by decide +kernel) (by decide +kernel) (kx_s_istore_n (j := 1) G rfl (by decide +kernel) (by decide) (kx_s_iconst (i := 0) G (by decide +kernel) (by decide +kernel) (kx_s_istore_n (j := 2) G rfl (by decide +kernel) (by decide) (kx_s_nm (JS 4))))))
set_option maxRecDepth 20000 in
theorem sk_150_4 (X : kx_X p l e R s m args below meth c s0 D cA 3 ι0 h0 rr hf prog_11_method_63_code "TaskDeskModel" C d (Option.some Jvm.ClassFile.FieldType.int) "living" J) : kx_Sn p l e R s m args below meth c s0 D cA 3 ι0 h0 rr hf 4 (bk_150_4 d C J) := by
  obtain ⟨G, CS, R9, O9, RT, NM, T0, FL, JS⟩ := X
  exact (kx_s_iload_n (j := 2) G rfl (by decide +kernel) (kx_s_sipush (i := 256) G (by decide +kernel) (by decide +kernel) (kx_s_cge (off := 26) (tgt := 34) G (by decide +kernel) rfl (kx_s_iload_n (j := 1) G rfl (by decide +kernel) (kx_s_ireturn G RT (by decide +kernel))) (kx_s_iload_n (j := 1) G rfl (by decide +kernel) (kx_s_aload_n (j := 0) G rfl (by decide +kernel) (kx_s_gR G kf_9_7 (by decide +kernel) (kx_s_iload_n (j := 2) G rfl (by decide +kernel) (kx_s_aB G ka_101 (by decide +kernel) (kx_s_ifeq (off := 7) (tgt := 25) G (by decide +kernel) rfl (kx_s_iconst (i := 0) G (by decide +kernel) (by decide +kernel) (kx_s_nm (JS 26))) (kx_s_iconst (i := 1) G (by decide +kernel) (by decide +kernel) (kx_s_goto (off := 4) (tgt := 26) G (by decide +kernel) rfl (kx_s_nm (JS 26)))))))))))))
set_option maxRecDepth 20000 in
theorem sk_150_26 (X : kx_X p l e R s m args below meth c s0 D cA 3 ι0 h0 rr hf prog_11_method_63_code "TaskDeskModel" C d (Option.some Jvm.ClassFile.FieldType.int) "living" J) : kx_Sn p l e R s m args below meth c s0 D cA 3 ι0 h0 rr hf 26 (bk_150_26 d C J) := by
  obtain ⟨G, CS, R9, O9, RT, NM, T0, FL, JS⟩ := X
  exact (kx_s_iadd G (by decide +kernel) (kx_s_istore_n (j := 1) G rfl (by decide +kernel) (by decide) (kx_s_iinc (n := 1) G (by decide +kernel) (by decide +kernel) (by decide) (kx_s_goto (off := -27) (tgt := 4) G (by decide +kernel) rfl (kx_s_nm (JS 4))))))
theorem sm_150 (X : kx_X p l e R s m args below meth c s0 D cA 3 ι0 h0 rr hf prog_11_method_63_code "TaskDeskModel" C d (Option.some Jvm.ClassFile.FieldType.int) "living" J) (b : Nat) : kx_Sn p l e R s m args below meth c s0 D cA 3 ι0 h0 rr hf b (bm_150 d C b J) := by
  unfold bm_150
  cases h0 : Nat.beq b 0 with
  | true => rw [Nat.eq_of_beq_eq_true h0]; exact sk_150_0 X
  | false =>
   cases h4 : Nat.beq b 4 with
   | true => rw [Nat.eq_of_beq_eq_true h4]; exact sk_150_4 X
   | false =>
    cases h26 : Nat.beq b 26 with
    | true => rw [Nat.eq_of_beq_eq_true h26]; exact sk_150_26 X
    | false =>
     exact kx_s_no
/-! TaskDeskModel.channels()I -/
def bk_151_0 (d : Nat) (C : kx_C) (J : Nat → kx_F) : kx_F := (kx_c (kx_i 0) (kx_si 1 (kx_c (kx_i 0) (kx_si 2 (kx_nm [0, 1, 2] (J 4))))))
def bk_151_4 (d : Nat) (C : kx_C) (J : Nat → kx_F) : kx_F := (kx_li 2 (kx_c (kx_i 512) (kx_cge (kx_li 1 kx_ri) (kx_li 1 (kx_la 0 (kx_gR 9 13 101 (kx_li 2 (kx_aB 101 (kx_ifeq (kx_c (kx_i 0) (kx_nm [0, 2] (J 26))) (kx_c (kx_i 1) (kx_nm [0, 2] (J 26))))))))))))
def bk_151_26 (d : Nat) (C : kx_C) (J : Nat → kx_F) : kx_F := (kx_ii (fun x y => x + y) (kx_si 1 (kx_inc 2 1 (kx_nm [0, 1, 2] (J 4)))))
def bm_151 (d : Nat) (C : kx_C) (b : Nat) (J : Nat → kx_F) : kx_F := bif Nat.beq b 0 then bk_151_0 d C J else bif Nat.beq b 4 then bk_151_4 d C J else bif Nat.beq b 26 then bk_151_26 d C J else fun _ _ _ => none
set_option maxRecDepth 20000 in
theorem sk_151_0 (X : kx_X p l e R s m args below meth c s0 D cA 3 ι0 h0 rr hf prog_11_method_64_code "TaskDeskModel" C d (Option.some Jvm.ClassFile.FieldType.int) "channels" J) : kx_Sn p l e R s m args below meth c s0 D cA 3 ι0 h0 rr hf 0 (bk_151_0 d C J) := by
  obtain ⟨G, CS, R9, O9, RT, NM, T0, FL, JS⟩ := X
  exact (kx_s_iconst (i := 0) G (by decide +kernel) (by decide +kernel) (kx_s_istore_n (j := 1) G rfl (by decide +kernel) (by decide) (kx_s_iconst (i := 0) G (by decide +kernel) (by decide +kernel) (kx_s_istore_n (j := 2) G rfl (by decide +kernel) (by decide) (kx_s_nm (JS 4))))))
set_option maxRecDepth 20000 in
theorem sk_151_4 (X : kx_X p l e R s m args below meth c s0 D cA 3 ι0 h0 rr hf prog_11_method_64_code "TaskDeskModel" C d (Option.some Jvm.ClassFile.FieldType.int) "channels" J) : kx_Sn p l e R s m args below meth c s0 D cA 3 ι0 h0 rr hf 4 (bk_151_4 d C J) := by
  obtain ⟨G, CS, R9, O9, RT, NM, T0, FL, JS⟩ := X
  exact (kx_s_iload_n (j := 2) G rfl (by decide +kernel) (kx_s_sipush (i := 512) G (by decide +kernel) (by decide +kernel) (kx_s_cge (off := 26) (tgt := 34) G (by decide +kernel) rfl (kx_s_iload_n (j := 1) G rfl (by decide +kernel) (kx_s_ireturn G RT (by decide +kernel))) (kx_s_iload_n (j := 1) G rfl (by decide +kernel) (kx_s_aload_n (j := 0) G rfl (by decide +kernel) (kx_s_gR G kf_9_36 (by decide +kernel) (kx_s_iload_n (j := 2) G rfl (by decide +kernel) (kx_s_aB G ka_101 (by decide +kernel) (kx_s_ifeq (off := 7) (tgt := 25) G (by decide +kernel) rfl (kx_s_iconst (i := 0) G (by decide +kernel) (by decide +kernel) (kx_s_nm (JS 26))) (kx_s_iconst (i := 1) G (by decide +kernel) (by decide +kernel) (kx_s_goto (off := 4) (tgt := 26) G (by decide +kernel) rfl (kx_s_nm (JS 26)))))))))))))
set_option maxRecDepth 20000 in
theorem sk_151_26 (X : kx_X p l e R s m args below meth c s0 D cA 3 ι0 h0 rr hf prog_11_method_64_code "TaskDeskModel" C d (Option.some Jvm.ClassFile.FieldType.int) "channels" J) : kx_Sn p l e R s m args below meth c s0 D cA 3 ι0 h0 rr hf 26 (bk_151_26 d C J) := by
  obtain ⟨G, CS, R9, O9, RT, NM, T0, FL, JS⟩ := X
  exact (kx_s_iadd G (by decide +kernel) (kx_s_istore_n (j := 1) G rfl (by decide +kernel) (by decide) (kx_s_iinc (n := 1) G (by decide +kernel) (by decide +kernel) (by decide) (kx_s_goto (off := -27) (tgt := 4) G (by decide +kernel) rfl (kx_s_nm (JS 4))))))
theorem sm_151 (X : kx_X p l e R s m args below meth c s0 D cA 3 ι0 h0 rr hf prog_11_method_64_code "TaskDeskModel" C d (Option.some Jvm.ClassFile.FieldType.int) "channels" J) (b : Nat) : kx_Sn p l e R s m args below meth c s0 D cA 3 ι0 h0 rr hf b (bm_151 d C b J) := by
  unfold bm_151
  cases h0 : Nat.beq b 0 with
  | true => rw [Nat.eq_of_beq_eq_true h0]; exact sk_151_0 X
  | false =>
   cases h4 : Nat.beq b 4 with
   | true => rw [Nat.eq_of_beq_eq_true h4]; exact sk_151_4 X
   | false =>
    cases h26 : Nat.beq b 26 with
    | true => rw [Nat.eq_of_beq_eq_true h26]; exact sk_151_26 X
    | false =>
     exact kx_s_no
end KB
