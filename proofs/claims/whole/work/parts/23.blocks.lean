section KB
variable {p : Program} {l : Launch} {e : Env} {R : Room} {s : State} {m : MethodId} {args : Array Value} {below : List Frame} {meth : Method} {c : Code} {s0 : State} {D : va_G} {cA : Nat → ClassId} {ι0 : Nat → Nat} {h0 hf : kx_H} {rr : kx_R} {C : kx_C} {d : Nat} {J : Nat → kx_F}
/-! TaskDesk.givesAtOnce(LTaskDesk$Channel;)Z -/
def bk_51_0 (d : Nat) (C : kx_C) (J : Nat → kx_F) : kx_F := (kx_la 1 (kx_gI 2 6 (kx_ifgt (kx_nm [0, 1] (J 17)) (kx_la 1 (kx_gR 2 1 5 (kx_gR 5 0 4 (kx_nul (kx_c (kx_i 0) (kx_nm [0, 1] (J 22))) (kx_nm [0, 1] (J 17)))))))))
def bk_51_17 (d : Nat) (C : kx_C) (J : Nat → kx_F) : kx_F := (kx_c (kx_i 1) (kx_nm [0, 1] (J 22)))
def bk_51_22 (d : Nat) (C : kx_C) (J : Nat → kx_F) : kx_F := (kx_si 2 (kx_la 1 (kx_la 0 (kx_gR 0 9 2 (kx_aeq (kx_nm [] (J 46)) (kx_la 1 (kx_gB 2 4 (kx_ifne (kx_nm [] (J 42)) (kx_li 2 (kx_ifeq (kx_nm [] (J 46)) (kx_nm [] (J 42))))))))))))
def bk_51_42 (d : Nat) (C : kx_C) (J : Nat → kx_F) : kx_F := (kx_c (kx_i 1) (kx_nm [] (J 47)))
def bk_51_46 (d : Nat) (C : kx_C) (J : Nat → kx_F) : kx_F := (kx_c (kx_i 0) (kx_nm [] (J 47)))
def bk_51_47 (d : Nat) (C : kx_C) (J : Nat → kx_F) : kx_F := kx_rz
def bm_51 (d : Nat) (C : kx_C) (b : Nat) (J : Nat → kx_F) : kx_F := bif Nat.beq b 0 then bk_51_0 d C J else bif Nat.beq b 17 then bk_51_17 d C J else bif Nat.beq b 22 then bk_51_22 d C J else bif Nat.beq b 42 then bk_51_42 d C J else bif Nat.beq b 46 then bk_51_46 d C J else bif Nat.beq b 47 then bk_51_47 d C J else fun _ _ _ => none
set_option maxRecDepth 20000 in
theorem sk_51_0 (X : kx_X p l e R s m args below meth c s0 D cA 3 ι0 h0 rr hf prog_1_method_44_code "TaskDesk" C d (Option.some Jvm.ClassFile.FieldType.boolean) "givesAtOnce" J) : kx_Sn p l e R s m args below meth c s0 D cA 3 ι0 h0 rr hf 0 (bk_51_0 d C J) := by
  obtain ⟨G, CS, R9, O9, RT, NM, T0, FL, JS⟩ := X
  exact (kx_s_aload_n (j := 1) G rfl (by decide +kernel) (kx_s_gI G kf_0_175 (by decide +kernel) (kx_s_ifgt (off := 13) (tgt := 17) G (by decide +kernel) rfl (kx_s_nm (JS 17)) (kx_s_aload_n (j := 1) G rfl (by decide +kernel) (kx_s_gR G kf_0_218 (by decide +kernel) (kx_s_gR G kf_0_317 (by decide +kernel) (kx_s_ifnull (off := 7) (tgt := 21) G (by decide +kernel) rfl (kx_s_iconst (i := 0) G (by decide +kernel) (by decide +kernel) (kx_s_nm (JS 22))) (kx_s_nm (JS 17)))))))))
set_option maxRecDepth 20000 in
theorem sk_51_17 (X : kx_X p l e R s m args below meth c s0 D cA 3 ι0 h0 rr hf prog_1_method_44_code "TaskDesk" C d (Option.some Jvm.ClassFile.FieldType.boolean) "givesAtOnce" J) : kx_Sn p l e R s m args below meth c s0 D cA 3 ι0 h0 rr hf 17 (bk_51_17 d C J) := by
  obtain ⟨G, CS, R9, O9, RT, NM, T0, FL, JS⟩ := X
  exact (kx_s_iconst (i := 1) G (by decide +kernel) (by decide +kernel) (kx_s_goto (off := 4) (tgt := 22) G (by decide +kernel) rfl (kx_s_nm (JS 22))))
set_option maxRecDepth 20000 in
theorem sk_51_22 (X : kx_X p l e R s m args below meth c s0 D cA 3 ι0 h0 rr hf prog_1_method_44_code "TaskDesk" C d (Option.some Jvm.ClassFile.FieldType.boolean) "givesAtOnce" J) : kx_Sn p l e R s m args below meth c s0 D cA 3 ι0 h0 rr hf 22 (bk_51_22 d C J) := by
  obtain ⟨G, CS, R9, O9, RT, NM, T0, FL, JS⟩ := X
  exact (kx_s_istore_n (j := 2) G rfl (by decide +kernel) (by decide) (kx_s_aload_n (j := 1) G rfl (by decide +kernel) (kx_s_aload_n (j := 0) G rfl (by decide +kernel) (kx_s_gR G kf_0_38 (by decide +kernel) (kx_s_aeq (off := 18) (tgt := 46) G (by decide +kernel) rfl (kx_s_nm (JS 46)) (kx_s_aload_n (j := 1) G rfl (by decide +kernel) (kx_s_gB G kf_0_153 (by decide +kernel) (kx_s_ifne (off := 7) (tgt := 42) G (by decide +kernel) rfl (kx_s_nm (JS 42)) (kx_s_iload_n (j := 2) G rfl (by decide +kernel) (kx_s_ifeq (off := 7) (tgt := 46) G (by decide +kernel) rfl (kx_s_nm (JS 46)) (kx_s_nm (JS 42))))))))))))
set_option maxRecDepth 20000 in
theorem sk_51_42 (X : kx_X p l e R s m args below meth c s0 D cA 3 ι0 h0 rr hf prog_1_method_44_code "TaskDesk" C d (Option.some Jvm.ClassFile.FieldType.boolean) "givesAtOnce" J) : kx_Sn p l e R s m args below meth c s0 D cA 3 ι0 h0 rr hf 42 (bk_51_42 d C J) := by
  obtain ⟨G, CS, R9, O9, RT, NM, T0, FL, JS⟩ := X
  exact (kx_s_iconst (i := 1) G (by decide +kernel) (by decide +kernel) (kx_s_goto (off := 4) (tgt := 47) G (by decide +kernel) rfl (kx_s_nm (JS 47))))
set_option maxRecDepth 20000 in
theorem sk_51_46 (X : kx_X p l e R s m args below meth c s0 D cA 3 ι0 h0 rr hf prog_1_method_44_code "TaskDesk" C d (Option.some Jvm.ClassFile.FieldType.boolean) "givesAtOnce" J) : kx_Sn p l e R s m args below meth c s0 D cA 3 ι0 h0 rr hf 46 (bk_51_46 d C J) := by
  obtain ⟨G, CS, R9, O9, RT, NM, T0, FL, JS⟩ := X
  exact (kx_s_iconst (i := 0) G (by decide +kernel) (by decide +kernel) (kx_s_nm (JS 47)))
set_option maxRecDepth 20000 in
theorem sk_51_47 (X : kx_X p l e R s m args below meth c s0 D cA 3 ι0 h0 rr hf prog_1_method_44_code "TaskDesk" C d (Option.some Jvm.ClassFile.FieldType.boolean) "givesAtOnce" J) : kx_Sn p l e R s m args below meth c s0 D cA 3 ι0 h0 rr hf 47 (bk_51_47 d C J) := by
  obtain ⟨G, CS, R9, O9, RT, NM, T0, FL, JS⟩ := X
  exact (kx_s_zreturn G RT (by decide +kernel))
theorem sm_51 (X : kx_X p l e R s m args below meth c s0 D cA 3 ι0 h0 rr hf prog_1_method_44_code "TaskDesk" C d (Option.some Jvm.ClassFile.FieldType.boolean) "givesAtOnce" J) (b : Nat) : kx_Sn p l e R s m args below meth c s0 D cA 3 ι0 h0 rr hf b (bm_51 d C b J) := by
  unfold bm_51
  cases h0 : Nat.beq b 0 with
  | true => rw [Nat.eq_of_beq_eq_true h0]; exact sk_51_0 X
  | false =>
   cases h17 : Nat.beq b 17 with
   | true => rw [Nat.eq_of_beq_eq_true h17]; exact sk_51_17 X
   | false =>
    cases h22 : Nat.beq b 22 with
    | true => rw [Nat.eq_of_beq_eq_true h22]; exact sk_51_22 X
    | false =>
     cases h42 : Nat.beq b 42 with
     | true => rw [Nat.eq_of_beq_eq_true h42]; exact sk_51_42 X
     | false =>
      cases h46 : Nat.beq b 46 with
      | true => rw [Nat.eq_of_beq_eq_true h46]; exact sk_51_46 X
      | false =>
       cases h47 : Nat.beq b 47 with
       | true => rw [Nat.eq_of_beq_eq_true h47]; exact sk_51_47 X
       | false =>
        exact kx_s_no
/-! TaskDesk.receiveNow(LTaskDesk$Task;LTaskDesk$Channel;I)V -/
def bk_52_0 (d : Nat) (C : kx_C) (J : Nat → kx_F) : kx_F := (kx_la 2 (kx_gR 2 1 5 (kx_gR 5 0 4 (kx_sa 4 (kx_la 2 (kx_gI 2 6 (kx_ifgt (kx_nm [0, 1, 2, 3, 4] (J 21)) (kx_la 4 (kx_nul (kx_c (kx_i 0) (kx_nm [0, 1, 2, 3, 4] (J 26))) (kx_nm [0, 1, 2, 3, 4] (J 21)))))))))))
def bk_52_21 (d : Nat) (C : kx_C) (J : Nat → kx_F) : kx_F := (kx_c (kx_i 1) (kx_nm [0, 1, 2, 3, 4] (J 26)))
def bk_52_26 (d : Nat) (C : kx_C) (J : Nat → kx_F) : kx_F := (kx_si 5 (kx_c (kx_l 0) (kx_sl 6 (kx_la 2 (kx_gI 2 6 (kx_ifle (kx_la 4 (kx_nul (kx_nm [0, 1, 3, 4, 5, 6] (J 75)) (kx_la 4 (kx_gL 4 3 (kx_sl 6 (kx_nm [0, 1, 3, 4, 5, 6] (J 75))))))) (kx_la 0 (kx_la 2 (kx_Vl C 17 0 [4] (kx_sl 6 (kx_la 4 (kx_nul (kx_nm [0, 1, 3, 4, 5, 6] (J 75)) (kx_la 0 (kx_la 2 (kx_la 4 (kx_gL 4 3 (kx_Vv C 38 0 [4, 1] (kx_nm [0, 1, 3, 4, 5, 6] (J 75)))))))))))))))))))
def bk_52_75 (d : Nat) (C : kx_C) (J : Nat → kx_F) : kx_F := (kx_la 4 (kx_nul (kx_nm [1, 3, 5, 6] (J 89)) (kx_la 0 (kx_la 4 (kx_c (kx_l 0) (kx_c (kx_i 1) (kx_c (kx_i 0) (kx_Vv C 35 0 [6, 1, 0, 0] (kx_nm [1, 3, 5, 6] (J 89))))))))))
def bk_52_89 (d : Nat) (C : kx_C) (J : Nat → kx_F) : kx_F := (kx_la 1 (kx_ll 6 (kx_li 5 (kx_li 3 (kx_c (kx_i 0) (kx_Vv C 12 6 [1, 0, 0, 0] kx_rv))))))
def bm_52 (d : Nat) (C : kx_C) (b : Nat) (J : Nat → kx_F) : kx_F := bif Nat.beq b 0 then bk_52_0 d C J else bif Nat.beq b 21 then bk_52_21 d C J else bif Nat.beq b 26 then bk_52_26 d C J else bif Nat.beq b 75 then bk_52_75 d C J else bif Nat.beq b 89 then bk_52_89 d C J else fun _ _ _ => none
set_option maxRecDepth 20000 in
theorem sk_52_0 (X : kx_X p l e R s m args below meth c s0 D cA 8 ι0 h0 rr hf prog_1_method_46_code "TaskDesk" C d (Option.none : Option Jvm.ClassFile.FieldType) "receiveNow" J) : kx_Sn p l e R s m args below meth c s0 D cA 8 ι0 h0 rr hf 0 (bk_52_0 d C J) := by
  obtain ⟨G, CS, R9, O9, RT, NM, T0, FL, JS⟩ := X
  exact (kx_s_aload_n (j := 2) G rfl (by decide +kernel) (kx_s_gR G kf_0_218 (by decide +kernel) (kx_s_gR G kf_0_317 (by decide +kernel) (kx_s_astore G (by decide +kernel) (by decide) (kx_s_aload_n (j := 2) G rfl (by decide +kernel) (kx_s_gI G kf_0_175 (by decide +kernel) (kx_s_ifgt (off := 8) (tgt := 21) G (by decide +kernel) rfl (kx_s_nm (JS 21)) (kx_s_aload G (by decide +kernel) (kx_s_ifnull (off := 7) (tgt := 25) G (by decide +kernel) rfl (kx_s_iconst (i := 0) G (by decide +kernel) (by decide +kernel) (kx_s_nm (JS 26))) (kx_s_nm (JS 21)))))))))))
set_option maxRecDepth 20000 in
theorem sk_52_21 (X : kx_X p l e R s m args below meth c s0 D cA 8 ι0 h0 rr hf prog_1_method_46_code "TaskDesk" C d (Option.none : Option Jvm.ClassFile.FieldType) "receiveNow" J) : kx_Sn p l e R s m args below meth c s0 D cA 8 ι0 h0 rr hf 21 (bk_52_21 d C J) := by
  obtain ⟨G, CS, R9, O9, RT, NM, T0, FL, JS⟩ := X
  exact (kx_s_iconst (i := 1) G (by decide +kernel) (by decide +kernel) (kx_s_goto (off := 4) (tgt := 26) G (by decide +kernel) rfl (kx_s_nm (JS 26))))
set_option maxRecDepth 20000 in
theorem sk_52_26 (X : kx_X p l e R s m args below meth c s0 D cA 8 ι0 h0 rr hf prog_1_method_46_code "TaskDesk" C d (Option.none : Option Jvm.ClassFile.FieldType) "receiveNow" J) : kx_Sn p l e R s m args below meth c s0 D cA 8 ι0 h0 rr hf 26 (bk_52_26 d C J) := by
  obtain ⟨G, CS, R9, O9, RT, NM, T0, FL, JS⟩ := X
  exact (kx_s_istore G (by decide +kernel) (by decide) (kx_s_lconst (i := 0) G (by decide +kernel) (by decide +kernel) (kx_s_lstore G (by decide +kernel) (by decide) (kx_s_aload_n (j := 2) G rfl (by decide +kernel) (kx_s_gI G kf_0_175 (by decide +kernel) (kx_s_ifle (off := 28) (tgt := 63) G (by decide +kernel) rfl (kx_s_aload G (by decide +kernel) (kx_s_ifnull (off := 10) (tgt := 75) G (by decide +kernel) rfl (kx_s_nm (JS 75)) (kx_s_aload G (by decide +kernel) (kx_s_gL G kf_0_215 (by decide +kernel) (kx_s_lstore G (by decide +kernel) (by decide) (kx_s_nm (JS 75))))))) (kx_s_aload_n (j := 0) G rfl (by decide +kernel) (kx_s_aload_n (j := 2) G rfl (by decide +kernel) (kx_s_Vl (n := 17) G kx_good CS R9 (O9 _) kc_17 rfl kw_434 kw_436 kw_4 (r := kr_0) rfl (by decide) (by decide +kernel) (kx_s_lstore G (by decide +kernel) (by decide) (kx_s_aload G (by decide +kernel) (kx_s_ifnull (off := 28) (tgt := 75) G (by decide +kernel) rfl (kx_s_nm (JS 75)) (kx_s_aload_n (j := 0) G rfl (by decide +kernel) (kx_s_aload_n (j := 2) G rfl (by decide +kernel) (kx_s_aload G (by decide +kernel) (kx_s_gL G kf_0_215 (by decide +kernel) (kx_s_Vv (n := 38) G kx_good CS R9 (O9 _) kc_38 rfl kw_596 kw_598 kw_16 (r := kr_0) rfl (by decide) (by decide +kernel) (kx_s_goto (off := 15) (tgt := 75) G (by decide +kernel) rfl (kx_s_nm (JS 75))))))))))))))))))))
set_option maxRecDepth 20000 in
theorem sk_52_75 (X : kx_X p l e R s m args below meth c s0 D cA 8 ι0 h0 rr hf prog_1_method_46_code "TaskDesk" C d (Option.none : Option Jvm.ClassFile.FieldType) "receiveNow" J) : kx_Sn p l e R s m args below meth c s0 D cA 8 ι0 h0 rr hf 75 (bk_52_75 d C J) := by
  obtain ⟨G, CS, R9, O9, RT, NM, T0, FL, JS⟩ := X
  exact (kx_s_aload G (by decide +kernel) (kx_s_ifnull (off := 12) (tgt := 89) G (by decide +kernel) rfl (kx_s_nm (JS 89)) (kx_s_aload_n (j := 0) G rfl (by decide +kernel) (kx_s_aload G (by decide +kernel) (kx_s_lconst (i := 0) G (by decide +kernel) (by decide +kernel) (kx_s_iconst (i := 1) G (by decide +kernel) (by decide +kernel) (kx_s_iconst (i := 0) G (by decide +kernel) (by decide +kernel) (kx_s_Vv (n := 35) G kx_good CS R9 (O9 _) kc_35 rfl kw_583 kw_585 kw_14 (r := kr_0) rfl (by decide) (by decide +kernel) (kx_s_nm (JS 89))))))))))
set_option maxRecDepth 20000 in
theorem sk_52_89 (X : kx_X p l e R s m args below meth c s0 D cA 8 ι0 h0 rr hf prog_1_method_46_code "TaskDesk" C d (Option.none : Option Jvm.ClassFile.FieldType) "receiveNow" J) : kx_Sn p l e R s m args below meth c s0 D cA 8 ι0 h0 rr hf 89 (bk_52_89 d C J) := by
  obtain ⟨G, CS, R9, O9, RT, NM, T0, FL, JS⟩ := X
  exact (kx_s_aload_n (j := 1) G rfl (by decide +kernel) (kx_s_lload G (by decide +kernel) (kx_s_iload G (by decide +kernel) (kx_s_iload_n (j := 3) G rfl (by decide +kernel) (kx_s_iconst (i := 0) G (by decide +kernel) (by decide +kernel) (kx_s_Vv (n := 12) G kx_good CS R9 (O9 _) kc_12 rfl kw_587 kw_360 kw_361 (r := kr_6) rfl (by decide) (by decide +kernel) (kx_s_return G RT (by decide +kernel))))))))
theorem sm_52 (X : kx_X p l e R s m args below meth c s0 D cA 8 ι0 h0 rr hf prog_1_method_46_code "TaskDesk" C d (Option.none : Option Jvm.ClassFile.FieldType) "receiveNow" J) (b : Nat) : kx_Sn p l e R s m args below meth c s0 D cA 8 ι0 h0 rr hf b (bm_52 d C b J) := by
  unfold bm_52
  cases h0 : Nat.beq b 0 with
  | true => rw [Nat.eq_of_beq_eq_true h0]; exact sk_52_0 X
  | false =>
   cases h21 : Nat.beq b 21 with
   | true => rw [Nat.eq_of_beq_eq_true h21]; exact sk_52_21 X
   | false =>
    cases h26 : Nat.beq b 26 with
    | true => rw [Nat.eq_of_beq_eq_true h26]; exact sk_52_26 X
    | false =>
     cases h75 : Nat.beq b 75 with
     | true => rw [Nat.eq_of_beq_eq_true h75]; exact sk_52_75 X
     | false =>
      cases h89 : Nat.beq b 89 with
      | true => rw [Nat.eq_of_beq_eq_true h89]; exact sk_52_89 X
      | false =>
       exact kx_s_no
/-! TaskDesk.close(I)V -/
def bk_53_0 (d : Nat) (C : kx_C) (J : Nat → kx_F) : kx_F := (kx_la 0 (kx_li 1 (kx_Vr C 49 0 [0] 2 (kx_sa 2 (kx_la 0 (kx_Vr C 24 0 [] 6 (kx_pop (kx_la 2 (kx_la 0 (kx_gR 0 9 2 (kx_aeq (kx_nm [] (J 26)) (kx_la 2 (kx_gB 2 4 (kx_ifeq (kx_la 2 (kx_c (kx_i 1) (kx_pB 2 4 (kx_la 0 (kx_la 2 (kx_gR 2 2 5 (kx_c (kx_i 0) (kx_c (kx_i 0) (kx_Vv C 54 0 [7, 0, 0] (kx_la 0 (kx_la 2 (kx_gR 2 1 5 (kx_c (kx_i 0) (kx_c (kx_i 1) (kx_Vv C 54 0 [7, 0, 0] kx_rv))))))))))))))) (kx_nm [] (J 26))))))))))))))))
def bk_53_26 (d : Nat) (C : kx_C) (J : Nat → kx_F) : kx_F := (kx_thd kx_cc kx_cs d 2)
def bm_53 (d : Nat) (C : kx_C) (b : Nat) (J : Nat → kx_F) : kx_F := bif Nat.beq b 0 then bk_53_0 d C J else bif Nat.beq b 26 then bk_53_26 d C J else fun _ _ _ => none
set_option maxRecDepth 20000 in
theorem sk_53_0 (X : kx_X p l e R s m args below meth c s0 D cA 3 ι0 h0 rr hf prog_1_method_11_code "TaskDesk" C d (Option.none : Option Jvm.ClassFile.FieldType) "close" J) : kx_Sn p l e R s m args below meth c s0 D cA 3 ι0 h0 rr hf 0 (bk_53_0 d C J) := by
  obtain ⟨G, CS, R9, O9, RT, NM, T0, FL, JS⟩ := X
  exact (kx_s_aload_n (j := 0) G rfl (by decide +kernel) (kx_s_iload_n (j := 1) G rfl (by decide +kernel) (kx_s_Vr (n := 49) G kx_good CS R9 (O9 _) kc_49 rfl kw_679 kw_681 kw_20 (r := kr_0) rfl (by decide) (by decide +kernel) (kx_s_astore_n (j := 2) G rfl (by decide +kernel) (by decide) (kx_s_aload_n (j := 0) G rfl (by decide +kernel) (kx_s_Vr (n := 24) G kx_good CS R9 (O9 _) kc_24 rfl kw_466 kw_468 kw_6 (r := kr_0) rfl (by decide) (by decide +kernel) (kx_s_pop G (by decide +kernel) (kx_s_aload_n (j := 2) G rfl (by decide +kernel) (kx_s_aload_n (j := 0) G rfl (by decide +kernel) (kx_s_gR G kf_0_38 (by decide +kernel) (kx_s_aeq (off := 10) (tgt := 26) G (by decide +kernel) rfl (kx_s_nm (JS 26)) (kx_s_aload_n (j := 2) G rfl (by decide +kernel) (kx_s_gB G kf_0_153 (by decide +kernel) (kx_s_ifeq (off := 13) (tgt := 36) G (by decide +kernel) rfl (kx_s_aload_n (j := 2) G rfl (by decide +kernel) (kx_s_iconst (i := 1) G (by decide +kernel) (by decide +kernel) (kx_s_pB G kf_0_153 rfl (by decide +kernel) (by decide +kernel) (kx_s_aload_n (j := 0) G rfl (by decide +kernel) (kx_s_aload_n (j := 2) G rfl (by decide +kernel) (kx_s_gR G kf_0_232 (by decide +kernel) (kx_s_iconst (i := 0) G (by decide +kernel) (by decide +kernel) (kx_s_iconst (i := 0) G (by decide +kernel) (by decide +kernel) (kx_s_Vv (n := 54) G kx_good CS R9 (O9 _) kc_54 rfl kw_723 kw_725 kw_23 (r := kr_0) rfl (by decide) (by decide +kernel) (kx_s_aload_n (j := 0) G rfl (by decide +kernel) (kx_s_aload_n (j := 2) G rfl (by decide +kernel) (kx_s_gR G kf_0_218 (by decide +kernel) (kx_s_iconst (i := 0) G (by decide +kernel) (by decide +kernel) (kx_s_iconst (i := 1) G (by decide +kernel) (by decide +kernel) (kx_s_Vv (n := 54) G kx_good CS R9 (O9 _) kc_54 rfl kw_723 kw_725 kw_23 (r := kr_0) rfl (by decide) (by decide +kernel) (kx_s_return G RT (by decide +kernel))))))))))))))))) (kx_s_nm (JS 26))))))))))))))))
set_option maxRecDepth 20000 in
theorem sk_53_26 (X : kx_X p l e R s m args below meth c s0 D cA 3 ι0 h0 rr hf prog_1_method_11_code "TaskDesk" C d (Option.none : Option Jvm.ClassFile.FieldType) "close" J) : kx_Sn p l e R s m args below meth c s0 D cA 3 ι0 h0 rr hf 26 (bk_53_26 d C J) := by
  obtain ⟨G, CS, R9, O9, RT, NM, T0, FL, JS⟩ := X
  exact (kx_s_thd (ic := 199) (ex := 2) (i9 := 195) (i8 := 235) (w := 2) G T0 FL R9 (by decide +kernel) (by decide +kernel) kw_684 kw_685 kw_95 kw_722 (by decide +kernel) (by decide +kernel) (Or.inl ⟨rfl, by decide +kernel⟩) (by decide +kernel) (by decide +kernel) O9)
theorem sm_53 (X : kx_X p l e R s m args below meth c s0 D cA 3 ι0 h0 rr hf prog_1_method_11_code "TaskDesk" C d (Option.none : Option Jvm.ClassFile.FieldType) "close" J) (b : Nat) : kx_Sn p l e R s m args below meth c s0 D cA 3 ι0 h0 rr hf b (bm_53 d C b J) := by
  unfold bm_53
  cases h0 : Nat.beq b 0 with
  | true => rw [Nat.eq_of_beq_eq_true h0]; exact sk_53_0 X
  | false =>
   cases h26 : Nat.beq b 26 with
   | true => rw [Nat.eq_of_beq_eq_true h26]; exact sk_53_26 X
   | false =>
    exact kx_s_no
/-! TaskDesk.wakeAll(LTaskDesk$Row;ZZ)V -/
def bk_54_0 (d : Nat) (C : kx_C) (J : Nat → kx_F) : kx_F := (kx_la 1 (kx_gI 5 2 (kx_si 4 (kx_nm [0, 1, 2, 3, 4] (J 6)))))
def bk_54_6 (d : Nat) (C : kx_C) (J : Nat → kx_F) : kx_F := (kx_li 4 (kx_ifle (kx_nm [] (J 35)) (kx_la 1 (kx_gR 5 0 4 (kx_nul (kx_nm [] (J 35)) (kx_la 0 (kx_la 1 (kx_gR 5 0 4 (kx_c (kx_l 0) (kx_li 2 (kx_li 3 (kx_Vv C 35 0 [6, 1, 0, 0] (kx_inc 4 (-1) (kx_nm [0, 1, 2, 3, 4] (J 6)))))))))))))))
def bk_54_35 (d : Nat) (C : kx_C) (J : Nat → kx_F) : kx_F := kx_rv
def bm_54 (d : Nat) (C : kx_C) (b : Nat) (J : Nat → kx_F) : kx_F := bif Nat.beq b 0 then bk_54_0 d C J else bif Nat.beq b 6 then bk_54_6 d C J else bif Nat.beq b 35 then bk_54_35 d C J else fun _ _ _ => none
set_option maxRecDepth 20000 in
theorem sk_54_0 (X : kx_X p l e R s m args below meth c s0 D cA 5 ι0 h0 rr hf prog_1_method_41_code "TaskDesk" C d (Option.none : Option Jvm.ClassFile.FieldType) "wakeAll" J) : kx_Sn p l e R s m args below meth c s0 D cA 5 ι0 h0 rr hf 0 (bk_54_0 d C J) := by
  obtain ⟨G, CS, R9, O9, RT, NM, T0, FL, JS⟩ := X
  exact (kx_s_aload_n (j := 1) G rfl (by decide +kernel) (kx_s_gI G kf_0_383 (by decide +kernel) (kx_s_istore G (by decide +kernel) (by decide) (kx_s_nm (JS 6)))))
set_option maxRecDepth 20000 in
theorem sk_54_6 (X : kx_X p l e R s m args below meth c s0 D cA 5 ι0 h0 rr hf prog_1_method_41_code "TaskDesk" C d (Option.none : Option Jvm.ClassFile.FieldType) "wakeAll" J) : kx_Sn p l e R s m args below meth c s0 D cA 5 ι0 h0 rr hf 6 (bk_54_6 d C J) := by
  obtain ⟨G, CS, R9, O9, RT, NM, T0, FL, JS⟩ := X
  exact (kx_s_iload G (by decide +kernel) (kx_s_ifle (off := 27) (tgt := 35) G (by decide +kernel) rfl (kx_s_nm (JS 35)) (kx_s_aload_n (j := 1) G rfl (by decide +kernel) (kx_s_gR G kf_0_317 (by decide +kernel) (kx_s_ifnull (off := 20) (tgt := 35) G (by decide +kernel) rfl (kx_s_nm (JS 35)) (kx_s_aload_n (j := 0) G rfl (by decide +kernel) (kx_s_aload_n (j := 1) G rfl (by decide +kernel) (kx_s_gR G kf_0_317 (by decide +kernel) (kx_s_lconst (i := 0) G (by decide +kernel) (by decide +kernel) (kx_s_iload_n (j := 2) G rfl (by decide +kernel) (kx_s_iload_n (j := 3) G rfl (by decide +kernel) (kx_s_Vv (n := 35) G kx_good CS R9 (O9 _) kc_35 rfl kw_583 kw_585 kw_14 (r := kr_0) rfl (by decide) (by decide +kernel) (kx_s_iinc (n := -1) G (by decide +kernel) (by decide +kernel) (by decide) (kx_s_goto (off := -26) (tgt := 6) G (by decide +kernel) rfl (kx_s_nm (JS 6))))))))))))))))
set_option maxRecDepth 20000 in
theorem sk_54_35 (X : kx_X p l e R s m args below meth c s0 D cA 5 ι0 h0 rr hf prog_1_method_41_code "TaskDesk" C d (Option.none : Option Jvm.ClassFile.FieldType) "wakeAll" J) : kx_Sn p l e R s m args below meth c s0 D cA 5 ι0 h0 rr hf 35 (bk_54_35 d C J) := by
  obtain ⟨G, CS, R9, O9, RT, NM, T0, FL, JS⟩ := X
  exact (kx_s_return G RT (by decide +kernel))
theorem sm_54 (X : kx_X p l e R s m args below meth c s0 D cA 5 ι0 h0 rr hf prog_1_method_41_code "TaskDesk" C d (Option.none : Option Jvm.ClassFile.FieldType) "wakeAll" J) (b : Nat) : kx_Sn p l e R s m args below meth c s0 D cA 5 ι0 h0 rr hf b (bm_54 d C b J) := by
  unfold bm_54
  cases h0 : Nat.beq b 0 with
  | true => rw [Nat.eq_of_beq_eq_true h0]; exact sk_54_0 X
  | false =>
   cases h6 : Nat.beq b 6 with
   | true => rw [Nat.eq_of_beq_eq_true h6]; exact sk_54_6 X
   | false =>
    cases h35 : Nat.beq b 35 with
    | true => rw [Nat.eq_of_beq_eq_true h35]; exact sk_54_35 X
    | false =>
     exact kx_s_no
/-! TaskDesk.offer(IZJ)I -/
def bk_55_0 (d : Nat) (C : kx_C) (J : Nat → kx_F) : kx_F := (kx_la 0 (kx_li 1 (kx_Vr C 49 0 [0] 2 (kx_sa 5 (kx_la 0 (kx_Vr C 24 0 [] 6 (kx_pop (kx_la 0 (kx_gR 0 15 4 (kx_sa 6 (kx_la 0 (kx_gI 0 14 (kx_c (kx_i 16) (kx_cge (kx_nm [] (J 32)) (kx_la 6 (kx_nnul (kx_la 0 (kx_la 6 (kx_gR 4 8 4 (kx_pR 0 15 4 (kx_la 6 (kx_la 5 (kx_pR 4 1 2 (kx_la 6 (kx_li 2 (kx_pB 4 2 (kx_la 6 (kx_ll 3 (kx_pL 4 3 (kx_la 6 (kx_la 0 (kx_gI 0 14 (kx_pI 4 4 (kx_la 0 (kx_gR 0 13 104 (kx_la 0 (kx_gI 0 14 (kx_la 6 (kx_asR 104 4 (kx_la 0 (kx_dup (kx_gI 0 14 (kx_c (kx_i 1) (kx_ii (fun x y => x + y) (kx_pI 0 14 (kx_la 6 (kx_gI 4 4 kx_ri))))))))))))))))))))))))))))))) (kx_nm [] (J 32))))))))))))))))))
def bk_55_32 (d : Nat) (C : kx_C) (J : Nat → kx_F) : kx_F := (kx_thd kx_cc kx_cs d 0)
def bm_55 (d : Nat) (C : kx_C) (b : Nat) (J : Nat → kx_F) : kx_F := bif Nat.beq b 0 then bk_55_0 d C J else bif Nat.beq b 32 then bk_55_32 d C J else fun _ _ _ => none
set_option maxRecDepth 20000 in
theorem sk_55_0 (X : kx_X p l e R s m args below meth c s0 D cA 7 ι0 h0 rr hf prog_1_method_12_code "TaskDesk" C d (Option.some Jvm.ClassFile.FieldType.int) "offer" J) : kx_Sn p l e R s m args below meth c s0 D cA 7 ι0 h0 rr hf 0 (bk_55_0 d C J) := by
  obtain ⟨G, CS, R9, O9, RT, NM, T0, FL, JS⟩ := X
  exact (kx_s_aload_n (j := 0) G rfl (by decide +kernel) (kx_s_iload_n (j := 1) G rfl (by decide +kernel) (kx_s_Vr (n := 49) G kx_good CS R9 (O9 _) kc_49 rfl kw_679 kw_681 kw_20 (r := kr_0) rfl (by decide) (by decide +kernel) (kx_s_astore G (by decide +kernel) (by decide) (kx_s_aload_n (j := 0) G rfl (by decide +kernel) (kx_s_Vr (n := 24) G kx_good CS R9 (O9 _) kc_24 rfl kw_466 kw_468 kw_6 (r := kr_0) rfl (by decide) (by decide +kernel) (kx_s_pop G (by decide +kernel) (kx_s_aload_n (j := 0) G rfl (by decide +kernel) (kx_s_gR G kf_0_241 (by decide +kernel) (kx_s_astore G (by decide +kernel) (by decide) (kx_s_aload_n (j := 0) G rfl (by decide +kernel) (kx_s_gI G kf_0_244 (by decide +kernel) (kx_s_bipush (i := 16) G (by decide +kernel) (by decide +kernel) (kx_s_cge (off := 8) (tgt := 32) G (by decide +kernel) rfl (kx_s_nm (JS 32)) (kx_s_aload G (by decide +kernel) (kx_s_ifnonnull (off := 13) (tgt := 42) G (by decide +kernel) rfl (kx_s_aload_n (j := 0) G rfl (by decide +kernel) (kx_s_aload G (by decide +kernel) (kx_s_gR G kf_0_249 (by decide +kernel) (kx_s_pR (ty := .object "TaskDesk$Place") G kf_0_241 rfl (by decide +kernel) rfl (by decide +kernel) (kx_s_aload G (by decide +kernel) (kx_s_aload G (by decide +kernel) (kx_s_pR (ty := .object "TaskDesk$Channel") G kf_0_252 rfl (by decide +kernel) rfl (by decide +kernel) (kx_s_aload G (by decide +kernel) (kx_s_iload_n (j := 2) G rfl (by decide +kernel) (kx_s_pB G kf_0_255 rfl (by decide +kernel) (by decide +kernel) (kx_s_aload G (by decide +kernel) (kx_s_lload_n (j := 3) G rfl (by decide +kernel) (kx_s_pL G kf_0_215 rfl (by decide +kernel) (by decide +kernel) (kx_s_aload G (by decide +kernel) (kx_s_aload_n (j := 0) G rfl (by decide +kernel) (kx_s_gI G kf_0_244 (by decide +kernel) (kx_s_pI G kf_0_258 rfl (by decide +kernel) (by decide +kernel) (kx_s_aload_n (j := 0) G rfl (by decide +kernel) (kx_s_gR G kf_0_44 (by decide +kernel) (kx_s_aload_n (j := 0) G rfl (by decide +kernel) (kx_s_gI G kf_0_244 (by decide +kernel) (kx_s_aload G (by decide +kernel) (kx_s_asR G ka_104 rfl (by decide) (by decide +kernel) (kx_s_aload_n (j := 0) G rfl (by decide +kernel) (kx_s_dup G (by decide +kernel) (kx_s_gI G kf_0_244 (by decide +kernel) (kx_s_iconst (i := 1) G (by decide +kernel) (by decide +kernel) (kx_s_iadd G (by decide +kernel) (kx_s_pI G kf_0_244 rfl (by decide +kernel) (by decide +kernel) (kx_s_aload G (by decide +kernel) (kx_s_gI G kf_0_258 (by decide +kernel) (kx_s_ireturn G RT (by decide +kernel))))))))))))))))))))))))))))))))) (kx_s_nm (JS 32))))))))))))))))))
set_option maxRecDepth 20000 in
theorem sk_55_32 (X : kx_X p l e R s m args below meth c s0 D cA 7 ι0 h0 rr hf prog_1_method_12_code "TaskDesk" C d (Option.some Jvm.ClassFile.FieldType.int) "offer" J) : kx_Sn p l e R s m args below meth c s0 D cA 7 ι0 h0 rr hf 32 (bk_55_32 d C J) := by
  obtain ⟨G, CS, R9, O9, RT, NM, T0, FL, JS⟩ := X
  exact (kx_s_thd (ic := 100) (ex := 0) (i9 := 96) (i8 := 247) (w := 2) G T0 FL R9 (by decide +kernel) (by decide +kernel) kw_470 kw_471 kw_93 kw_734 (by decide +kernel) (by decide +kernel) (Or.inl ⟨rfl, by decide +kernel⟩) (by decide +kernel) (by decide +kernel) O9)
theorem sm_55 (X : kx_X p l e R s m args below meth c s0 D cA 7 ι0 h0 rr hf prog_1_method_12_code "TaskDesk" C d (Option.some Jvm.ClassFile.FieldType.int) "offer" J) (b : Nat) : kx_Sn p l e R s m args below meth c s0 D cA 7 ι0 h0 rr hf b (bm_55 d C b J) := by
  unfold bm_55
  cases h0 : Nat.beq b 0 with
  | true => rw [Nat.eq_of_beq_eq_true h0]; exact sk_55_0 X
  | false =>
   cases h32 : Nat.beq b 32 with
   | true => rw [Nat.eq_of_beq_eq_true h32]; exact sk_55_32 X
   | false =>
    exact kx_s_no
/-! TaskDesk.choose(IZ)Z -/
def bk_56_0 (d : Nat) (C : kx_C) (J : Nat → kx_F) : kx_F := (kx_li 1 (kx_ifge (kx_la 0 (kx_Vr C 24 0 [] 6 (kx_sa 3 (kx_la 0 (kx_li 1 (kx_Vr C 57 0 [0] 4 (kx_sa 4 (kx_la 4 (kx_nul (kx_li 2 (kx_ifeq (kx_la 0 (kx_la 3 (kx_Vv C 61 0 [8] (kx_la 0 (kx_Vv C 30 0 [] (kx_c (kx_i 0) kx_rz)))))) (kx_la 0 (kx_Vv C 60 0 [] (kx_la 3 (kx_c (kx_l 0) (kx_c (kx_i 0) (kx_c (kx_i (-1)) (kx_c (kx_i 0) (kx_Vv C 12 6 [1, 0, 0, 0] (kx_c (kx_i 1) kx_rz))))))))))) (kx_la 0 (kx_la 3 (kx_la 4 (kx_Vv C 59 0 [8, 6] (kx_c (kx_i 1) kx_rz)))))))))))))) (kx_thd kx_cc kx_cs d 1)))
def bm_56 (d : Nat) (C : kx_C) (b : Nat) (J : Nat → kx_F) : kx_F := bif Nat.beq b 0 then bk_56_0 d C J else fun _ _ _ => none
set_option maxRecDepth 20000 in
theorem sk_56_0 (X : kx_X p l e R s m args below meth c s0 D cA 5 ι0 h0 rr hf prog_1_method_13_code "TaskDesk" C d (Option.some Jvm.ClassFile.FieldType.boolean) "choose" J) : kx_Sn p l e R s m args below meth c s0 D cA 5 ι0 h0 rr hf 0 (bk_56_0 d C J) := by
  obtain ⟨G, CS, R9, O9, RT, NM, T0, FL, JS⟩ := X
  exact (kx_s_iload_n (j := 1) G rfl (by decide +kernel) (kx_s_ifge (off := 14) (tgt := 15) G (by decide +kernel) rfl (kx_s_aload_n (j := 0) G rfl (by decide +kernel) (kx_s_Vr (n := 24) G kx_good CS R9 (O9 _) kc_24 rfl kw_466 kw_468 kw_6 (r := kr_0) rfl (by decide) (by decide +kernel) (kx_s_astore_n (j := 3) G rfl (by decide +kernel) (by decide) (kx_s_aload_n (j := 0) G rfl (by decide +kernel) (kx_s_iload_n (j := 1) G rfl (by decide +kernel) (kx_s_Vr (n := 57) G kx_good CS R9 (O9 _) kc_57 rfl kw_743 kw_745 kw_24 (r := kr_0) rfl (by decide) (by decide +kernel) (kx_s_astore G (by decide +kernel) (by decide) (kx_s_aload G (by decide +kernel) (kx_s_ifnull (off := 12) (tgt := 41) G (by decide +kernel) rfl (kx_s_iload_n (j := 2) G rfl (by decide +kernel) (kx_s_ifeq (off := 17) (tgt := 59) G (by decide +kernel) rfl (kx_s_aload_n (j := 0) G rfl (by decide +kernel) (kx_s_aload_n (j := 3) G rfl (by decide +kernel) (kx_s_Vv (n := 61) G kx_good CS R9 (O9 _) kc_61 rfl kw_759 kw_761 kw_28 (r := kr_0) rfl (by decide) (by decide +kernel) (kx_s_aload_n (j := 0) G rfl (by decide +kernel) (kx_s_Vv (n := 30) G kx_good CS R9 (O9 _) kc_30 rfl kw_563 kw_565 kw_10 (r := kr_0) rfl (by decide) (by decide +kernel) (kx_s_iconst (i := 0) G (by decide +kernel) (by decide +kernel) (kx_s_zreturn G RT (by decide +kernel)))))))) (kx_s_aload_n (j := 0) G rfl (by decide +kernel) (kx_s_Vv (n := 60) G kx_good CS R9 (O9 _) kc_60 rfl kw_755 kw_757 kw_27 (r := kr_0) rfl (by decide) (by decide +kernel) (kx_s_aload_n (j := 3) G rfl (by decide +kernel) (kx_s_lconst (i := 0) G (by decide +kernel) (by decide +kernel) (kx_s_iconst (i := 0) G (by decide +kernel) (by decide +kernel) (kx_s_iconst (i := -1) G (by decide +kernel) (by decide +kernel) (kx_s_iconst (i := 0) G (by decide +kernel) (by decide +kernel) (kx_s_Vv (n := 12) G kx_good CS R9 (O9 _) kc_12 rfl kw_587 kw_360 kw_361 (r := kr_6) rfl (by decide) (by decide +kernel) (kx_s_iconst (i := 1) G (by decide +kernel) (by decide +kernel) (kx_s_zreturn G RT (by decide +kernel))))))))))))) (kx_s_aload_n (j := 0) G rfl (by decide +kernel) (kx_s_aload_n (j := 3) G rfl (by decide +kernel) (kx_s_aload G (by decide +kernel) (kx_s_Vv (n := 59) G kx_good CS R9 (O9 _) kc_59 rfl kw_751 kw_753 kw_26 (r := kr_0) rfl (by decide) (by decide +kernel) (kx_s_iconst (i := 1) G (by decide +kernel) (by decide +kernel) (kx_s_zreturn G RT (by decide +kernel)))))))))))))))) (kx_s_thd (ic := 130) (ex := 1) (i9 := 126) (i8 := 261) (w := 3) G T0 FL R9 (by decide +kernel) (by decide +kernel) kw_625 kw_626 kw_94 kw_742 (by decide +kernel) (by decide +kernel) (Or.inr ⟨rfl, by decide +kernel⟩) (by decide +kernel) (by decide +kernel) O9)))
theorem sm_56 (X : kx_X p l e R s m args below meth c s0 D cA 5 ι0 h0 rr hf prog_1_method_13_code "TaskDesk" C d (Option.some Jvm.ClassFile.FieldType.boolean) "choose" J) (b : Nat) : kx_Sn p l e R s m args below meth c s0 D cA 5 ι0 h0 rr hf b (bm_56 d C b J) := by
  unfold bm_56
  cases h0 : Nat.beq b 0 with
  | true => rw [Nat.eq_of_beq_eq_true h0]; exact sk_56_0 X
  | false =>
   exact kx_s_no
/-! TaskDesk.openCase(I)LTaskDesk$Place; -/
def bk_57_0 (d : Nat) (C : kx_C) (J : Nat → kx_F) : kx_F := (kx_c (kx_i 0) (kx_si 2 (kx_c (kx_i 0) (kx_si 3 (kx_nm [0, 1, 2, 3] (J 4))))))
def bk_57_4 (d : Nat) (C : kx_C) (J : Nat → kx_F) : kx_F := (kx_li 3 (kx_la 0 (kx_gI 0 14 (kx_cge (kx_li 2 (kx_ifle (kx_c (kx_i 0) (kx_nm [0] (J 50))) (kx_li 1 (kx_li 2 (kx_irem (kx_nm [0] (J 50))))))) (kx_li 2 (kx_la 0 (kx_la 0 (kx_gR 0 13 104 (kx_li 3 (kx_aR 104 4 (kx_Vi C 58 0 [6] (kx_ifeq (kx_c (kx_i 0) (kx_nm [0, 1, 3] (J 31))) (kx_c (kx_i 1) (kx_nm [0, 1, 3] (J 31)))))))))))))))
def bk_57_31 (d : Nat) (C : kx_C) (J : Nat → kx_F) : kx_F := (kx_ii (fun x y => x + y) (kx_si 2 (kx_inc 3 1 (kx_nm [0, 1, 2, 3] (J 4)))))
def bk_57_50 (d : Nat) (C : kx_C) (J : Nat → kx_F) : kx_F := (kx_si 3 (kx_c (kx_i 0) (kx_si 4 (kx_nm [0, 3, 4] (J 54)))))
def bk_57_54 (d : Nat) (C : kx_C) (J : Nat → kx_F) : kx_F := (kx_li 4 (kx_la 0 (kx_gI 0 14 (kx_cge (kx_c (kx_r 4 none) kx_rr) (kx_la 0 (kx_la 0 (kx_gR 0 13 104 (kx_li 4 (kx_aR 104 4 (kx_Vi C 58 0 [6] (kx_ifeq (kx_nm [0, 3, 4] (J 92)) (kx_li 3 (kx_ifne (kx_inc 3 (-1) (kx_nm [0, 3, 4] (J 92))) (kx_la 0 (kx_gR 0 13 104 (kx_li 4 (kx_aR 104 4 kx_rr)))))))))))))))))
def bk_57_92 (d : Nat) (C : kx_C) (J : Nat → kx_F) : kx_F := (kx_inc 4 1 (kx_nm [0, 3, 4] (J 54)))
def bm_57 (d : Nat) (C : kx_C) (b : Nat) (J : Nat → kx_F) : kx_F := bif Nat.beq b 0 then bk_57_0 d C J else bif Nat.beq b 4 then bk_57_4 d C J else bif Nat.beq b 31 then bk_57_31 d C J else bif Nat.beq b 50 then bk_57_50 d C J else bif Nat.beq b 54 then bk_57_54 d C J else bif Nat.beq b 92 then bk_57_92 d C J else fun _ _ _ => none
set_option maxRecDepth 20000 in
theorem sk_57_0 (X : kx_X p l e R s m args below meth c s0 D cA 5 ι0 h0 rr hf prog_1_method_52_code "TaskDesk" C d (Option.some (Jvm.ClassFile.FieldType.object "TaskDesk$Place")) "openCase" J) : kx_Sn p l e R s m args below meth c s0 D cA 5 ι0 h0 rr hf 0 (bk_57_0 d C J) := by
  obtain ⟨G, CS, R9, O9, RT, NM, T0, FL, JS⟩ := X
  exact (kx_s_iconst (i := 0) G (by decide +kernel) (by decide +kernel) (kx_s_istore_n (j := 2) G rfl (by decide +kernel) (by decide) (kx_s_iconst (i := 0) G (by decide +kernel) (by decide +kernel) (kx_s_istore_n (j := 3) G rfl (by decide +kernel) (by decide) (kx_s_nm (JS 4))))))
set_option maxRecDepth 20000 in
theorem sk_57_4 (X : kx_X p l e R s m args below meth c s0 D cA 5 ι0 h0 rr hf prog_1_method_52_code "TaskDesk" C d (Option.some (Jvm.ClassFile.FieldType.object "TaskDesk$Place")) "openCase" J) : kx_Sn p l e R s m args below meth c s0 D cA 5 ι0 h0 rr hf 4 (bk_57_4 d C J) := by
  obtain ⟨G, CS, R9, O9, RT, NM, T0, FL, JS⟩ := X
  exact (kx_s_iload_n (j := 3) G rfl (by decide +kernel) (kx_s_aload_n (j := 0) G rfl (by decide +kernel) (kx_s_gI G kf_0_244 (by decide +kernel) (kx_s_cge (off := 30) (tgt := 39) G (by decide +kernel) rfl (kx_s_iload_n (j := 2) G rfl (by decide +kernel) (kx_s_ifle (off := 9) (tgt := 49) G (by decide +kernel) rfl (kx_s_iconst (i := 0) G (by decide +kernel) (by decide +kernel) (kx_s_nm (JS 50))) (kx_s_iload_n (j := 1) G rfl (by decide +kernel) (kx_s_iload_n (j := 2) G rfl (by decide +kernel) (kx_s_irem G (by decide +kernel) (kx_s_goto (off := 4) (tgt := 50) G (by decide +kernel) rfl (kx_s_nm (JS 50)))))))) (kx_s_iload_n (j := 2) G rfl (by decide +kernel) (kx_s_aload_n (j := 0) G rfl (by decide +kernel) (kx_s_aload_n (j := 0) G rfl (by decide +kernel) (kx_s_gR G kf_0_44 (by decide +kernel) (kx_s_iload_n (j := 3) G rfl (by decide +kernel) (kx_s_aR G rfl ka_104 (by decide +kernel) (kx_s_Vi (n := 58) G kx_good CS R9 (O9 _) kc_58 rfl kw_747 kw_749 kw_25 (r := kr_0) rfl (by decide) (by decide +kernel) (kx_s_ifeq (off := 7) (tgt := 30) G (by decide +kernel) rfl (kx_s_iconst (i := 0) G (by decide +kernel) (by decide +kernel) (kx_s_nm (JS 31))) (kx_s_iconst (i := 1) G (by decide +kernel) (by decide +kernel) (kx_s_goto (off := 4) (tgt := 31) G (by decide +kernel) rfl (kx_s_nm (JS 31))))))))))))))))
set_option maxRecDepth 20000 in
theorem sk_57_31 (X : kx_X p l e R s m args below meth c s0 D cA 5 ι0 h0 rr hf prog_1_method_52_code "TaskDesk" C d (Option.some (Jvm.ClassFile.FieldType.object "TaskDesk$Place")) "openCase" J) : kx_Sn p l e R s m args below meth c s0 D cA 5 ι0 h0 rr hf 31 (bk_57_31 d C J) := by
  obtain ⟨G, CS, R9, O9, RT, NM, T0, FL, JS⟩ := X
  exact (kx_s_iadd G (by decide +kernel) (kx_s_istore_n (j := 2) G rfl (by decide +kernel) (by decide) (kx_s_iinc (n := 1) G (by decide +kernel) (by decide +kernel) (by decide) (kx_s_goto (off := -32) (tgt := 4) G (by decide +kernel) rfl (kx_s_nm (JS 4))))))
set_option maxRecDepth 20000 in
theorem sk_57_50 (X : kx_X p l e R s m args below meth c s0 D cA 5 ι0 h0 rr hf prog_1_method_52_code "TaskDesk" C d (Option.some (Jvm.ClassFile.FieldType.object "TaskDesk$Place")) "openCase" J) : kx_Sn p l e R s m args below meth c s0 D cA 5 ι0 h0 rr hf 50 (bk_57_50 d C J) := by
  obtain ⟨G, CS, R9, O9, RT, NM, T0, FL, JS⟩ := X
  exact (kx_s_istore_n (j := 3) G rfl (by decide +kernel) (by decide) (kx_s_iconst (i := 0) G (by decide +kernel) (by decide +kernel) (kx_s_istore G (by decide +kernel) (by decide) (kx_s_nm (JS 54)))))
set_option maxRecDepth 20000 in
theorem sk_57_54 (X : kx_X p l e R s m args below meth c s0 D cA 5 ι0 h0 rr hf prog_1_method_52_code "TaskDesk" C d (Option.some (Jvm.ClassFile.FieldType.object "TaskDesk$Place")) "openCase" J) : kx_Sn p l e R s m args below meth c s0 D cA 5 ι0 h0 rr hf 54 (bk_57_54 d C J) := by
  obtain ⟨G, CS, R9, O9, RT, NM, T0, FL, JS⟩ := X
  exact (kx_s_iload G (by decide +kernel) (kx_s_aload_n (j := 0) G rfl (by decide +kernel) (kx_s_gI G kf_0_244 (by decide +kernel) (kx_s_cge (off := 38) (tgt := 98) G (by decide +kernel) rfl (kx_s_null G (by decide +kernel) (kx_s_areturn G RT (by decide +kernel))) (kx_s_aload_n (j := 0) G rfl (by decide +kernel) (kx_s_aload_n (j := 0) G rfl (by decide +kernel) (kx_s_gR G kf_0_44 (by decide +kernel) (kx_s_iload G (by decide +kernel) (kx_s_aR G rfl ka_104 (by decide +kernel) (kx_s_Vi (n := 58) G kx_good CS R9 (O9 _) kc_58 rfl kw_747 kw_749 kw_25 (r := kr_0) rfl (by decide) (by decide +kernel) (kx_s_ifeq (off := 18) (tgt := 92) G (by decide +kernel) rfl (kx_s_nm (JS 92)) (kx_s_iload_n (j := 3) G rfl (by decide +kernel) (kx_s_ifne (off := 11) (tgt := 89) G (by decide +kernel) rfl (kx_s_iinc (n := -1) G (by decide +kernel) (by decide +kernel) (by decide) (kx_s_nm (JS 92))) (kx_s_aload_n (j := 0) G rfl (by decide +kernel) (kx_s_gR G kf_0_44 (by decide +kernel) (kx_s_iload G (by decide +kernel) (kx_s_aR G rfl ka_104 (by decide +kernel) (kx_s_areturn G RT (by decide +kernel)))))))))))))))))))
set_option maxRecDepth 20000 in
theorem sk_57_92 (X : kx_X p l e R s m args below meth c s0 D cA 5 ι0 h0 rr hf prog_1_method_52_code "TaskDesk" C d (Option.some (Jvm.ClassFile.FieldType.object "TaskDesk$Place")) "openCase" J) : kx_Sn p l e R s m args below meth c s0 D cA 5 ι0 h0 rr hf 92 (bk_57_92 d C J) := by
  obtain ⟨G, CS, R9, O9, RT, NM, T0, FL, JS⟩ := X
  exact (kx_s_iinc (n := 1) G (by decide +kernel) (by decide +kernel) (by decide) (kx_s_goto (off := -41) (tgt := 54) G (by decide +kernel) rfl (kx_s_nm (JS 54))))
theorem sm_57 (X : kx_X p l e R s m args below meth c s0 D cA 5 ι0 h0 rr hf prog_1_method_52_code "TaskDesk" C d (Option.some (Jvm.ClassFile.FieldType.object "TaskDesk$Place")) "openCase" J) (b : Nat) : kx_Sn p l e R s m args below meth c s0 D cA 5 ι0 h0 rr hf b (bm_57 d C b J) := by
  unfold bm_57
  cases h0 : Nat.beq b 0 with
  | true => rw [Nat.eq_of_beq_eq_true h0]; exact sk_57_0 X
  | false =>
   cases h4 : Nat.beq b 4 with
   | true => rw [Nat.eq_of_beq_eq_true h4]; exact sk_57_4 X
   | false =>
    cases h31 : Nat.beq b 31 with
    | true => rw [Nat.eq_of_beq_eq_true h31]; exact sk_57_31 X
    | false =>
     cases h50 : Nat.beq b 50 with
     | true => rw [Nat.eq_of_beq_eq_true h50]; exact sk_57_50 X
     | false =>
      cases h54 : Nat.beq b 54 with
      | true => rw [Nat.eq_of_beq_eq_true h54]; exact sk_57_54 X
      | false =>
       cases h92 : Nat.beq b 92 with
       | true => rw [Nat.eq_of_beq_eq_true h92]; exact sk_57_92 X
       | false =>
        exact kx_s_no
/-! TaskDesk.isOpen(LTaskDesk$Place;)Z -/
def bk_58_0 (d : Nat) (C : kx_C) (J : Nat → kx_F) : kx_F := (kx_la 1 (kx_nnul (kx_la 1 (kx_gR 4 1 2 (kx_sa 2 (kx_la 1 (kx_gB 4 2 (kx_ifeq (kx_la 0 (kx_la 2 (kx_Vi C 51 0 [4] (kx_nm [] (J 46))))) (kx_la 2 (kx_gB 2 4 (kx_ifne (kx_nm [] (J 33)) (kx_la 0 (kx_la 2 (kx_Vi C 33 0 [4] (kx_ifeq (kx_c (kx_i 0) (kx_nm [] (J 46))) (kx_nm [] (J 33))))))))))))))) (kx_c (kx_i 0) kx_rz)))
def bk_58_33 (d : Nat) (C : kx_C) (J : Nat → kx_F) : kx_F := (kx_c (kx_i 1) (kx_nm [] (J 46)))
def bk_58_46 (d : Nat) (C : kx_C) (J : Nat → kx_F) : kx_F := kx_rz
def bm_58 (d : Nat) (C : kx_C) (b : Nat) (J : Nat → kx_F) : kx_F := bif Nat.beq b 0 then bk_58_0 d C J else bif Nat.beq b 33 then bk_58_33 d C J else bif Nat.beq b 46 then bk_58_46 d C J else fun _ _ _ => none
set_option maxRecDepth 20000 in
theorem sk_58_0 (X : kx_X p l e R s m args below meth c s0 D cA 3 ι0 h0 rr hf prog_1_method_51_code "TaskDesk" C d (Option.some Jvm.ClassFile.FieldType.boolean) "isOpen" J) : kx_Sn p l e R s m args below meth c s0 D cA 3 ι0 h0 rr hf 0 (bk_58_0 d C J) := by
  obtain ⟨G, CS, R9, O9, RT, NM, T0, FL, JS⟩ := X
  exact (kx_s_aload_n (j := 1) G rfl (by decide +kernel) (kx_s_ifnonnull (off := 5) (tgt := 6) G (by decide +kernel) rfl (kx_s_aload_n (j := 1) G rfl (by decide +kernel) (kx_s_gR G kf_0_252 (by decide +kernel) (kx_s_astore_n (j := 2) G rfl (by decide +kernel) (by decide) (kx_s_aload_n (j := 1) G rfl (by decide +kernel) (kx_s_gB G kf_0_255 (by decide +kernel) (kx_s_ifeq (off := 26) (tgt := 41) G (by decide +kernel) rfl (kx_s_aload_n (j := 0) G rfl (by decide +kernel) (kx_s_aload_n (j := 2) G rfl (by decide +kernel) (kx_s_Vi (n := 51) G kx_good CS R9 (O9 _) kc_51 rfl kw_707 kw_709 kw_21 (r := kr_0) rfl (by decide) (by decide +kernel) (kx_s_nm (JS 46))))) (kx_s_aload_n (j := 2) G rfl (by decide +kernel) (kx_s_gB G kf_0_153 (by decide +kernel) (kx_s_ifne (off := 11) (tgt := 33) G (by decide +kernel) rfl (kx_s_nm (JS 33)) (kx_s_aload_n (j := 0) G rfl (by decide +kernel) (kx_s_aload_n (j := 2) G rfl (by decide +kernel) (kx_s_Vi (n := 33) G kx_good CS R9 (O9 _) kc_33 rfl kw_575 kw_577 kw_12 (r := kr_0) rfl (by decide) (by decide +kernel) (kx_s_ifeq (off := 7) (tgt := 37) G (by decide +kernel) rfl (kx_s_iconst (i := 0) G (by decide +kernel) (by decide +kernel) (kx_s_goto (off := 8) (tgt := 46) G (by decide +kernel) rfl (kx_s_nm (JS 46)))) (kx_s_nm (JS 33))))))))))))))) (kx_s_iconst (i := 0) G (by decide +kernel) (by decide +kernel) (kx_s_zreturn G RT (by decide +kernel)))))
set_option maxRecDepth 20000 in
theorem sk_58_33 (X : kx_X p l e R s m args below meth c s0 D cA 3 ι0 h0 rr hf prog_1_method_51_code "TaskDesk" C d (Option.some Jvm.ClassFile.FieldType.boolean) "isOpen" J) : kx_Sn p l e R s m args below meth c s0 D cA 3 ι0 h0 rr hf 33 (bk_58_33 d C J) := by
  obtain ⟨G, CS, R9, O9, RT, NM, T0, FL, JS⟩ := X
  exact (kx_s_iconst (i := 1) G (by decide +kernel) (by decide +kernel) (kx_s_goto (off := 12) (tgt := 46) G (by decide +kernel) rfl (kx_s_nm (JS 46))))
set_option maxRecDepth 20000 in
theorem sk_58_46 (X : kx_X p l e R s m args below meth c s0 D cA 3 ι0 h0 rr hf prog_1_method_51_code "TaskDesk" C d (Option.some Jvm.ClassFile.FieldType.boolean) "isOpen" J) : kx_Sn p l e R s m args below meth c s0 D cA 3 ι0 h0 rr hf 46 (bk_58_46 d C J) := by
  obtain ⟨G, CS, R9, O9, RT, NM, T0, FL, JS⟩ := X
  exact (kx_s_zreturn G RT (by decide +kernel))
theorem sm_58 (X : kx_X p l e R s m args below meth c s0 D cA 3 ι0 h0 rr hf prog_1_method_51_code "TaskDesk" C d (Option.some Jvm.ClassFile.FieldType.boolean) "isOpen" J) (b : Nat) : kx_Sn p l e R s m args below meth c s0 D cA 3 ι0 h0 rr hf b (bm_58 d C b J) := by
  unfold bm_58
  cases h0 : Nat.beq b 0 with
  | true => rw [Nat.eq_of_beq_eq_true h0]; exact sk_58_0 X
  | false =>
   cases h33 : Nat.beq b 33 with
   | true => rw [Nat.eq_of_beq_eq_true h33]; exact sk_58_33 X
   | false =>
    cases h46 : Nat.beq b 46 with
    | true => rw [Nat.eq_of_beq_eq_true h46]; exact sk_58_46 X
    | false =>
     exact kx_s_no
/-! TaskDesk.doCase(LTaskDesk$Task;LTaskDesk$Place;)V -/
def bk_59_0 (d : Nat) (C : kx_C) (J : Nat → kx_F) : kx_F := (kx_la 2 (kx_gR 4 1 2 (kx_sa 3 (kx_la 0 (kx_Vv C 60 0 [] (kx_la 2 (kx_gB 4 2 (kx_ifne (kx_la 3 (kx_gB 2 4 (kx_ifeq (kx_la 0 (kx_la 3 (kx_la 2 (kx_gL 4 3 (kx_Vv C 34 0 [4, 1] (kx_la 1 (kx_c (kx_l 0) (kx_c (kx_i 1) (kx_la 2 (kx_gI 4 4 (kx_c (kx_i 0) (kx_Vv C 12 6 [1, 0, 0, 0] (kx_nm [] (J 66)))))))))))))) (kx_thd kx_cc kx_cs d 2)))) (kx_la 0 (kx_la 1 (kx_la 3 (kx_la 2 (kx_gI 4 4 (kx_Vv C 52 0 [8, 4, 0] (kx_nm [] (J 66))))))))))))))))
def bk_59_66 (d : Nat) (C : kx_C) (J : Nat → kx_F) : kx_F := kx_rv
def bm_59 (d : Nat) (C : kx_C) (b : Nat) (J : Nat → kx_F) : kx_F := bif Nat.beq b 0 then bk_59_0 d C J else bif Nat.beq b 66 then bk_59_66 d C J else fun _ _ _ => none
set_option maxRecDepth 20000 in
theorem sk_59_0 (X : kx_X p l e R s m args below meth c s0 D cA 4 ι0 h0 rr hf prog_1_method_53_code "TaskDesk" C d (Option.none : Option Jvm.ClassFile.FieldType) "doCase" J) : kx_Sn p l e R s m args below meth c s0 D cA 4 ι0 h0 rr hf 0 (bk_59_0 d C J) := by
  obtain ⟨G, CS, R9, O9, RT, NM, T0, FL, JS⟩ := X
  exact (kx_s_aload_n (j := 2) G rfl (by decide +kernel) (kx_s_gR G kf_0_252 (by decide +kernel) (kx_s_astore_n (j := 3) G rfl (by decide +kernel) (by decide) (kx_s_aload_n (j := 0) G rfl (by decide +kernel) (kx_s_Vv (n := 60) G kx_good CS R9 (O9 _) kc_60 rfl kw_755 kw_757 kw_27 (r := kr_0) rfl (by decide) (by decide +kernel) (kx_s_aload_n (j := 2) G rfl (by decide +kernel) (kx_s_gB G kf_0_255 (by decide +kernel) (kx_s_ifne (off := 16) (tgt := 29) G (by decide +kernel) rfl (kx_s_aload_n (j := 3) G rfl (by decide +kernel) (kx_s_gB G kf_0_153 (by decide +kernel) (kx_s_ifeq (off := 13) (tgt := 46) G (by decide +kernel) rfl (kx_s_aload_n (j := 0) G rfl (by decide +kernel) (kx_s_aload_n (j := 3) G rfl (by decide +kernel) (kx_s_aload_n (j := 2) G rfl (by decide +kernel) (kx_s_gL G kf_0_215 (by decide +kernel) (kx_s_Vv (n := 34) G kx_good CS R9 (O9 _) kc_34 rfl kw_579 kw_581 kw_13 (r := kr_0) rfl (by decide) (by decide +kernel) (kx_s_aload_n (j := 1) G rfl (by decide +kernel) (kx_s_lconst (i := 0) G (by decide +kernel) (by decide +kernel) (kx_s_iconst (i := 1) G (by decide +kernel) (by decide +kernel) (kx_s_aload_n (j := 2) G rfl (by decide +kernel) (kx_s_gI G kf_0_258 (by decide +kernel) (kx_s_iconst (i := 0) G (by decide +kernel) (by decide +kernel) (kx_s_Vv (n := 12) G kx_good CS R9 (O9 _) kc_12 rfl kw_587 kw_360 kw_361 (r := kr_6) rfl (by decide) (by decide +kernel) (kx_s_nm (JS 66)))))))))))))) (kx_s_thd (ic := 199) (ex := 2) (i9 := 195) (i8 := 197) (w := 2) G T0 FL R9 (by decide +kernel) (by decide +kernel) kw_684 kw_685 kw_95 kw_693 (by decide +kernel) (by decide +kernel) (Or.inl ⟨rfl, by decide +kernel⟩) (by decide +kernel) (by decide +kernel) O9)))) (kx_s_aload_n (j := 0) G rfl (by decide +kernel) (kx_s_aload_n (j := 1) G rfl (by decide +kernel) (kx_s_aload_n (j := 3) G rfl (by decide +kernel) (kx_s_aload_n (j := 2) G rfl (by decide +kernel) (kx_s_gI G kf_0_258 (by decide +kernel) (kx_s_Vv (n := 52) G kx_good CS R9 (O9 _) kc_52 rfl kw_711 kw_713 kw_22 (r := kr_0) rfl (by decide) (by decide +kernel) (kx_s_goto (off := 40) (tgt := 66) G (by decide +kernel) rfl (kx_s_nm (JS 66)))))))))))))))))
set_option maxRecDepth 20000 in
theorem sk_59_66 (X : kx_X p l e R s m args below meth c s0 D cA 4 ι0 h0 rr hf prog_1_method_53_code "TaskDesk" C d (Option.none : Option Jvm.ClassFile.FieldType) "doCase" J) : kx_Sn p l e R s m args below meth c s0 D cA 4 ι0 h0 rr hf 66 (bk_59_66 d C J) := by
  obtain ⟨G, CS, R9, O9, RT, NM, T0, FL, JS⟩ := X
  exact (kx_s_return G RT (by decide +kernel))
theorem sm_59 (X : kx_X p l e R s m args below meth c s0 D cA 4 ι0 h0 rr hf prog_1_method_53_code "TaskDesk" C d (Option.none : Option Jvm.ClassFile.FieldType) "doCase" J) (b : Nat) : kx_Sn p l e R s m args below meth c s0 D cA 4 ι0 h0 rr hf b (bm_59 d C b J) := by
  unfold bm_59
  cases h0 : Nat.beq b 0 with
  | true => rw [Nat.eq_of_beq_eq_true h0]; exact sk_59_0 X
  | false =>
   cases h66 : Nat.beq b 66 with
   | true => rw [Nat.eq_of_beq_eq_true h66]; exact sk_59_66 X
   | false =>
    exact kx_s_no
/-! TaskDesk.forgetCases()V -/
def bk_60_0 (d : Nat) (C : kx_C) (J : Nat → kx_F) : kx_F := (kx_c (kx_i 0) (kx_si 1 (kx_nm [0, 1] (J 2))))
def bk_60_2 (d : Nat) (C : kx_C) (J : Nat → kx_F) : kx_F := (kx_li 1 (kx_la 0 (kx_gI 0 14 (kx_cge (kx_la 0 (kx_c (kx_i 0) (kx_pI 0 14 kx_rv))) (kx_la 0 (kx_gR 0 13 104 (kx_li 1 (kx_aR 104 4 (kx_nul (kx_nm [0, 1] (J 29)) (kx_la 0 (kx_la 0 (kx_gR 0 13 104 (kx_li 1 (kx_aR 104 4 (kx_Vv C 10 0 [6] (kx_nm [0, 1] (J 29)))))))))))))))))
def bk_60_29 (d : Nat) (C : kx_C) (J : Nat → kx_F) : kx_F := (kx_inc 1 1 (kx_nm [0, 1] (J 2)))
def bm_60 (d : Nat) (C : kx_C) (b : Nat) (J : Nat → kx_F) : kx_F := bif Nat.beq b 0 then bk_60_0 d C J else bif Nat.beq b 2 then bk_60_2 d C J else bif Nat.beq b 29 then bk_60_29 d C J else fun _ _ _ => none
set_option maxRecDepth 20000 in
theorem sk_60_0 (X : kx_X p l e R s m args below meth c s0 D cA 2 ι0 h0 rr hf prog_1_method_54_code "TaskDesk" C d (Option.none : Option Jvm.ClassFile.FieldType) "forgetCases" J) : kx_Sn p l e R s m args below meth c s0 D cA 2 ι0 h0 rr hf 0 (bk_60_0 d C J) := by
  obtain ⟨G, CS, R9, O9, RT, NM, T0, FL, JS⟩ := X
  exact (kx_s_iconst (i := 0) G (by decide +kernel) (by decide +kernel) (kx_s_istore_n (j := 1) G rfl (by decide +kernel) (by decide) (kx_s_nm (JS 2))))
set_option maxRecDepth 20000 in
theorem sk_60_2 (X : kx_X p l e R s m args below meth c s0 D cA 2 ι0 h0 rr hf prog_1_method_54_code "TaskDesk" C d (Option.none : Option Jvm.ClassFile.FieldType) "forgetCases" J) : kx_Sn p l e R s m args below meth c s0 D cA 2 ι0 h0 rr hf 2 (bk_60_2 d C J) := by
  obtain ⟨G, CS, R9, O9, RT, NM, T0, FL, JS⟩ := X
  exact (kx_s_iload_n (j := 1) G rfl (by decide +kernel) (kx_s_aload_n (j := 0) G rfl (by decide +kernel) (kx_s_gI G kf_0_244 (by decide +kernel) (kx_s_cge (off := 28) (tgt := 35) G (by decide +kernel) rfl (kx_s_aload_n (j := 0) G rfl (by decide +kernel) (kx_s_iconst (i := 0) G (by decide +kernel) (by decide +kernel) (kx_s_pI G kf_0_244 rfl (by decide +kernel) (by decide +kernel) (kx_s_return G RT (by decide +kernel))))) (kx_s_aload_n (j := 0) G rfl (by decide +kernel) (kx_s_gR G kf_0_44 (by decide +kernel) (kx_s_iload_n (j := 1) G rfl (by decide +kernel) (kx_s_aR G rfl ka_104 (by decide +kernel) (kx_s_ifnull (off := 13) (tgt := 29) G (by decide +kernel) rfl (kx_s_nm (JS 29)) (kx_s_aload_n (j := 0) G rfl (by decide +kernel) (kx_s_aload_n (j := 0) G rfl (by decide +kernel) (kx_s_gR G kf_0_44 (by decide +kernel) (kx_s_iload_n (j := 1) G rfl (by decide +kernel) (kx_s_aR G rfl ka_104 (by decide +kernel) (kx_s_Vv (n := 10) G kx_good CS R9 (O9 _) kc_10 rfl kw_351 kw_353 kw_1 (r := kr_0) rfl (by decide) (by decide +kernel) (kx_s_nm (JS 29)))))))))))))))))
set_option maxRecDepth 20000 in
theorem sk_60_29 (X : kx_X p l e R s m args below meth c s0 D cA 2 ι0 h0 rr hf prog_1_method_54_code "TaskDesk" C d (Option.none : Option Jvm.ClassFile.FieldType) "forgetCases" J) : kx_Sn p l e R s m args below meth c s0 D cA 2 ι0 h0 rr hf 29 (bk_60_29 d C J) := by
  obtain ⟨G, CS, R9, O9, RT, NM, T0, FL, JS⟩ := X
  exact (kx_s_iinc (n := 1) G (by decide +kernel) (by decide +kernel) (by decide) (kx_s_goto (off := -30) (tgt := 2) G (by decide +kernel) rfl (kx_s_nm (JS 2))))
theorem sm_60 (X : kx_X p l e R s m args below meth c s0 D cA 2 ι0 h0 rr hf prog_1_method_54_code "TaskDesk" C d (Option.none : Option Jvm.ClassFile.FieldType) "forgetCases" J) (b : Nat) : kx_Sn p l e R s m args below meth c s0 D cA 2 ι0 h0 rr hf b (bm_60 d C b J) := by
  unfold bm_60
  cases h0 : Nat.beq b 0 with
  | true => rw [Nat.eq_of_beq_eq_true h0]; exact sk_60_0 X
  | false =>
   cases h2 : Nat.beq b 2 with
   | true => rw [Nat.eq_of_beq_eq_true h2]; exact sk_60_2 X
   | false =>
    cases h29 : Nat.beq b 29 with
    | true => rw [Nat.eq_of_beq_eq_true h29]; exact sk_60_29 X
    | false =>
     exact kx_s_no
/-! TaskDesk.waitInCases(LTaskDesk$Task;)V -/
def bk_61_0 (d : Nat) (C : kx_C) (J : Nat → kx_F) : kx_F := (kx_la 1 (kx_c (kx_i 7) (kx_pI 6 3 (kx_c (kx_i 0) (kx_si 2 (kx_nm [0, 1, 2] (J 8)))))))
def bk_61_8 (d : Nat) (C : kx_C) (J : Nat → kx_F) : kx_F := (kx_li 2 (kx_la 0 (kx_gI 0 14 (kx_cge (kx_la 0 (kx_c (kx_i 0) (kx_pI 0 14 kx_rv))) (kx_la 0 (kx_gR 0 13 104 (kx_li 2 (kx_aR 104 4 (kx_sa 3 (kx_la 3 (kx_nul (kx_nm [0, 1, 2] (J 87)) (kx_la 3 (kx_gB 4 2 (kx_ifeq (kx_la 3 (kx_gR 4 1 2 (kx_gR 2 2 5 (kx_nm [0, 1, 2, 3] (J 51))))) (kx_la 3 (kx_gR 4 1 2 (kx_gR 2 1 5 (kx_nm [0, 1, 2, 3] (J 51)))))))))))))))))))
def bk_61_51 (d : Nat) (C : kx_C) (J : Nat → kx_F) : kx_F := (kx_sa 4 (kx_la 4 (kx_la 3 (kx_Vv C 28 5 [6] (kx_la 1 (kx_la 3 (kx_Vv C 62 6 [6] (kx_la 1 (kx_la 3 (kx_gR 4 1 2 (kx_la 0 (kx_gR 0 9 2 (kx_ane (kx_c (kx_i 4) (kx_nm [0, 1, 2] (J 84))) (kx_la 1 (kx_gI 6 3 (kx_nm [0, 1, 2] (J 84)))))))))))))))))
def bk_61_84 (d : Nat) (C : kx_C) (J : Nat → kx_F) : kx_F := (kx_pI 6 3 (kx_nm [0, 1, 2] (J 87)))
def bk_61_87 (d : Nat) (C : kx_C) (J : Nat → kx_F) : kx_F := (kx_inc 2 1 (kx_nm [0, 1, 2] (J 8)))
def bm_61 (d : Nat) (C : kx_C) (b : Nat) (J : Nat → kx_F) : kx_F := bif Nat.beq b 0 then bk_61_0 d C J else bif Nat.beq b 8 then bk_61_8 d C J else bif Nat.beq b 51 then bk_61_51 d C J else bif Nat.beq b 84 then bk_61_84 d C J else bif Nat.beq b 87 then bk_61_87 d C J else fun _ _ _ => none
set_option maxRecDepth 20000 in
theorem sk_61_0 (X : kx_X p l e R s m args below meth c s0 D cA 5 ι0 h0 rr hf prog_1_method_55_code "TaskDesk" C d (Option.none : Option Jvm.ClassFile.FieldType) "waitInCases" J) : kx_Sn p l e R s m args below meth c s0 D cA 5 ι0 h0 rr hf 0 (bk_61_0 d C J) := by
  obtain ⟨G, CS, R9, O9, RT, NM, T0, FL, JS⟩ := X
  exact (kx_s_aload_n (j := 1) G rfl (by decide +kernel) (kx_s_bipush (i := 7) G (by decide +kernel) (by decide +kernel) (kx_s_pI G kf_0_79 rfl (by decide +kernel) (by decide +kernel) (kx_s_iconst (i := 0) G (by decide +kernel) (by decide +kernel) (kx_s_istore_n (j := 2) G rfl (by decide +kernel) (by decide) (kx_s_nm (JS 8)))))))
set_option maxRecDepth 20000 in
theorem sk_61_8 (X : kx_X p l e R s m args below meth c s0 D cA 5 ι0 h0 rr hf prog_1_method_55_code "TaskDesk" C d (Option.none : Option Jvm.ClassFile.FieldType) "waitInCases" J) : kx_Sn p l e R s m args below meth c s0 D cA 5 ι0 h0 rr hf 8 (bk_61_8 d C J) := by
  obtain ⟨G, CS, R9, O9, RT, NM, T0, FL, JS⟩ := X
  exact (kx_s_iload_n (j := 2) G rfl (by decide +kernel) (kx_s_aload_n (j := 0) G rfl (by decide +kernel) (kx_s_gI G kf_0_244 (by decide +kernel) (kx_s_cge (off := 80) (tgt := 93) G (by decide +kernel) rfl (kx_s_aload_n (j := 0) G rfl (by decide +kernel) (kx_s_iconst (i := 0) G (by decide +kernel) (by decide +kernel) (kx_s_pI G kf_0_244 rfl (by decide +kernel) (by decide +kernel) (kx_s_return G RT (by decide +kernel))))) (kx_s_aload_n (j := 0) G rfl (by decide +kernel) (kx_s_gR G kf_0_44 (by decide +kernel) (kx_s_iload_n (j := 2) G rfl (by decide +kernel) (kx_s_aR G rfl ka_104 (by decide +kernel) (kx_s_astore_n (j := 3) G rfl (by decide +kernel) (by decide) (kx_s_aload_n (j := 3) G rfl (by decide +kernel) (kx_s_ifnull (off := 63) (tgt := 87) G (by decide +kernel) rfl (kx_s_nm (JS 87)) (kx_s_aload_n (j := 3) G rfl (by decide +kernel) (kx_s_gB G kf_0_255 (by decide +kernel) (kx_s_ifeq (off := 13) (tgt := 44) G (by decide +kernel) rfl (kx_s_aload_n (j := 3) G rfl (by decide +kernel) (kx_s_gR G kf_0_252 (by decide +kernel) (kx_s_gR G kf_0_232 (by decide +kernel) (kx_s_nm (JS 51))))) (kx_s_aload_n (j := 3) G rfl (by decide +kernel) (kx_s_gR G kf_0_252 (by decide +kernel) (kx_s_gR G kf_0_218 (by decide +kernel) (kx_s_goto (off := 10) (tgt := 51) G (by decide +kernel) rfl (kx_s_nm (JS 51))))))))))))))))))))
set_option maxRecDepth 20000 in
theorem sk_61_51 (X : kx_X p l e R s m args below meth c s0 D cA 5 ι0 h0 rr hf prog_1_method_55_code "TaskDesk" C d (Option.none : Option Jvm.ClassFile.FieldType) "waitInCases" J) : kx_Sn p l e R s m args below meth c s0 D cA 5 ι0 h0 rr hf 51 (bk_61_51 d C J) := by
  obtain ⟨G, CS, R9, O9, RT, NM, T0, FL, JS⟩ := X
  exact (kx_s_astore G (by decide +kernel) (by decide) (kx_s_aload G (by decide +kernel) (kx_s_aload_n (j := 3) G rfl (by decide +kernel) (kx_s_Vv (n := 28) G kx_good CS R9 (O9 _) kc_28 rfl kw_763 kw_553 kw_554 (r := kr_5) rfl (by decide) (by decide +kernel) (kx_s_aload_n (j := 1) G rfl (by decide +kernel) (kx_s_aload_n (j := 3) G rfl (by decide +kernel) (kx_s_Vv (n := 62) G kx_good CS R9 (O9 _) kc_62 rfl kw_764 kw_765 kw_766 (r := kr_6) rfl (by decide) (by decide +kernel) (kx_s_aload_n (j := 1) G rfl (by decide +kernel) (kx_s_aload_n (j := 3) G rfl (by decide +kernel) (kx_s_gR G kf_0_252 (by decide +kernel) (kx_s_aload_n (j := 0) G rfl (by decide +kernel) (kx_s_gR G kf_0_38 (by decide +kernel) (kx_s_ane (off := 10) (tgt := 83) G (by decide +kernel) rfl (kx_s_iconst (i := 4) G (by decide +kernel) (by decide +kernel) (kx_s_nm (JS 84))) (kx_s_aload_n (j := 1) G rfl (by decide +kernel) (kx_s_gI G kf_0_79 (by decide +kernel) (kx_s_goto (off := 4) (tgt := 84) G (by decide +kernel) rfl (kx_s_nm (JS 84))))))))))))))))))
set_option maxRecDepth 20000 in
theorem sk_61_84 (X : kx_X p l e R s m args below meth c s0 D cA 5 ι0 h0 rr hf prog_1_method_55_code "TaskDesk" C d (Option.none : Option Jvm.ClassFile.FieldType) "waitInCases" J) : kx_Sn p l e R s m args below meth c s0 D cA 5 ι0 h0 rr hf 84 (bk_61_84 d C J) := by
  obtain ⟨G, CS, R9, O9, RT, NM, T0, FL, JS⟩ := X
  exact (kx_s_pI G kf_0_79 rfl (by decide +kernel) (by decide +kernel) (kx_s_nm (JS 87)))
set_option maxRecDepth 20000 in
theorem sk_61_87 (X : kx_X p l e R s m args below meth c s0 D cA 5 ι0 h0 rr hf prog_1_method_55_code "TaskDesk" C d (Option.none : Option Jvm.ClassFile.FieldType) "waitInCases" J) : kx_Sn p l e R s m args below meth c s0 D cA 5 ι0 h0 rr hf 87 (bk_61_87 d C J) := by
  obtain ⟨G, CS, R9, O9, RT, NM, T0, FL, JS⟩ := X
  exact (kx_s_iinc (n := 1) G (by decide +kernel) (by decide +kernel) (by decide) (kx_s_goto (off := -82) (tgt := 8) G (by decide +kernel) rfl (kx_s_nm (JS 8))))
theorem sm_61 (X : kx_X p l e R s m args below meth c s0 D cA 5 ι0 h0 rr hf prog_1_method_55_code "TaskDesk" C d (Option.none : Option Jvm.ClassFile.FieldType) "waitInCases" J) (b : Nat) : kx_Sn p l e R s m args below meth c s0 D cA 5 ι0 h0 rr hf b (bm_61 d C b J) := by
  unfold bm_61
  cases h0 : Nat.beq b 0 with
  | true => rw [Nat.eq_of_beq_eq_true h0]; exact sk_61_0 X
  | false =>
   cases h8 : Nat.beq b 8 with
   | true => rw [Nat.eq_of_beq_eq_true h8]; exact sk_61_8 X
   | false =>
    cases h51 : Nat.beq b 51 with
    | true => rw [Nat.eq_of_beq_eq_true h51]; exact sk_61_51 X
    | false =>
     cases h84 : Nat.beq b 84 with
     | true => rw [Nat.eq_of_beq_eq_true h84]; exact sk_61_84 X
     | false =>
      cases h87 : Nat.beq b 87 with
      | true => rw [Nat.eq_of_beq_eq_true h87]; exact sk_61_87 X
      | false =>
       exact kx_s_no
/-! TaskDesk.gate(II)I -/
def bk_63_0 (d : Nat) (C : kx_C) (J : Nat → kx_F) : kx_F := (kx_li 1 (kx_c (kx_i 3) (kx_cne (kx_c (kx_r 3 none) (kx_nm [0, 1] (J 14))) (kx_la 0 (kx_li 2 (kx_Vr C 64 0 [0] 3 (kx_nm [0, 1] (J 14))))))))
def bk_63_14 (d : Nat) (C : kx_C) (J : Nat → kx_F) : kx_F := (kx_sa 3 (kx_li 1 (kx_c (kx_i 3) (kx_cne (kx_nm [0, 1, 3] (J 35)) (kx_la 3 (kx_nul (kx_nm [0, 1, 3] (J 31)) (kx_la 3 (kx_gI 3 3 (kx_ifeq (kx_nm [0, 1, 3] (J 35)) (kx_nm [0, 1, 3] (J 31)))))))))))
def bk_63_31 (d : Nat) (C : kx_C) (J : Nat → kx_F) : kx_F := (kx_c (kx_i 1) (kx_nm [0, 1, 3] (J 36)))
def bk_63_35 (d : Nat) (C : kx_C) (J : Nat → kx_F) : kx_F := (kx_c (kx_i 0) (kx_nm [0, 1, 3] (J 36)))
def bk_63_36 (d : Nat) (C : kx_C) (J : Nat → kx_F) : kx_F := (kx_si 4 (kx_li 1 (kx_iflt (kx_nm [] (J 52)) (kx_li 1 (kx_c (kx_i 4) (kx_cgt (kx_nm [] (J 52)) (kx_li 4 (kx_ifeq (kx_la 0 (kx_gI 0 17 (kx_c (kx_i 256) (kx_clt (kx_la 0 (kx_gR 0 16 105 (kx_la 0 (kx_gI 0 17 (kx_aR 105 3 (kx_sa 5 (kx_la 5 (kx_li 1 (kx_pI 3 3 (kx_la 5 (kx_la 3 (kx_pR 3 5 3 (kx_la 0 (kx_dup (kx_gI 0 17 (kx_c (kx_i 1) (kx_ii (fun x y => x + y) (kx_pI 0 17 (kx_la 5 (kx_gI 3 0 kx_ri)))))))))))))))))))) (kx_thd kx_cc kx_cs d 0))))) (kx_nm [] (J 52))))))))))
def bk_63_52 (d : Nat) (C : kx_C) (J : Nat → kx_F) : kx_F := (kx_thd kx_cc kx_cs d 1)
def bm_63 (d : Nat) (C : kx_C) (b : Nat) (J : Nat → kx_F) : kx_F := bif Nat.beq b 0 then bk_63_0 d C J else bif Nat.beq b 14 then bk_63_14 d C J else bif Nat.beq b 31 then bk_63_31 d C J else bif Nat.beq b 35 then bk_63_35 d C J else bif Nat.beq b 36 then bk_63_36 d C J else bif Nat.beq b 52 then bk_63_52 d C J else fun _ _ _ => none
set_option maxRecDepth 20000 in
theorem sk_63_0 (X : kx_X p l e R s m args below meth c s0 D cA 6 ι0 h0 rr hf prog_1_method_14_code "TaskDesk" C d (Option.some Jvm.ClassFile.FieldType.int) "gate" J) : kx_Sn p l e R s m args below meth c s0 D cA 6 ι0 h0 rr hf 0 (bk_63_0 d C J) := by
  obtain ⟨G, CS, R9, O9, RT, NM, T0, FL, JS⟩ := X
  exact (kx_s_iload_n (j := 1) G rfl (by decide +kernel) (kx_s_iconst (i := 3) G (by decide +kernel) (by decide +kernel) (kx_s_cne (off := 11) (tgt := 13) G (by decide +kernel) rfl (kx_s_null G (by decide +kernel) (kx_s_nm (JS 14))) (kx_s_aload_n (j := 0) G rfl (by decide +kernel) (kx_s_iload_n (j := 2) G rfl (by decide +kernel) (kx_s_Vr (n := 64) G kx_good CS R9 (O9 _) kc_64 rfl kw_775 kw_777 kw_29 (r := kr_0) rfl (by decide) (by decide +kernel) (kx_s_goto (off := 4) (tgt := 14) G (by decide +kernel) rfl (kx_s_nm (JS 14)))))))))
set_option maxRecDepth 20000 in
theorem sk_63_14 (X : kx_X p l e R s m args below meth c s0 D cA 6 ι0 h0 rr hf prog_1_method_14_code "TaskDesk" C d (Option.some Jvm.ClassFile.FieldType.int) "gate" J) : kx_Sn p l e R s m args below meth c s0 D cA 6 ι0 h0 rr hf 14 (bk_63_14 d C J) := by
  obtain ⟨G, CS, R9, O9, RT, NM, T0, FL, JS⟩ := X
  exact (kx_s_astore_n (j := 3) G rfl (by decide +kernel) (by decide) (kx_s_iload_n (j := 1) G rfl (by decide +kernel) (kx_s_iconst (i := 3) G (by decide +kernel) (by decide +kernel) (kx_s_cne (off := 18) (tgt := 35) G (by decide +kernel) rfl (kx_s_nm (JS 35)) (kx_s_aload_n (j := 3) G rfl (by decide +kernel) (kx_s_ifnull (off := 10) (tgt := 31) G (by decide +kernel) rfl (kx_s_nm (JS 31)) (kx_s_aload_n (j := 3) G rfl (by decide +kernel) (kx_s_gI G kf_0_281 (by decide +kernel) (kx_s_ifeq (off := 7) (tgt := 35) G (by decide +kernel) rfl (kx_s_nm (JS 35)) (kx_s_nm (JS 31)))))))))))
set_option maxRecDepth 20000 in
theorem sk_63_31 (X : kx_X p l e R s m args below meth c s0 D cA 6 ι0 h0 rr hf prog_1_method_14_code "TaskDesk" C d (Option.some Jvm.ClassFile.FieldType.int) "gate" J) : kx_Sn p l e R s m args below meth c s0 D cA 6 ι0 h0 rr hf 31 (bk_63_31 d C J) := by
  obtain ⟨G, CS, R9, O9, RT, NM, T0, FL, JS⟩ := X
  exact (kx_s_iconst (i := 1) G (by decide +kernel) (by decide +kernel) (kx_s_goto (off := 4) (tgt := 36) G (by decide +kernel) rfl (kx_s_nm (JS 36))))
set_option maxRecDepth 20000 in
theorem sk_63_35 (X : kx_X p l e R s m args below meth c s0 D cA 6 ι0 h0 rr hf prog_1_method_14_code "TaskDesk" C d (Option.some Jvm.ClassFile.FieldType.int) "gate" J) : kx_Sn p l e R s m args below meth c s0 D cA 6 ι0 h0 rr hf 35 (bk_63_35 d C J) := by
  obtain ⟨G, CS, R9, O9, RT, NM, T0, FL, JS⟩ := X
  exact (kx_s_iconst (i := 0) G (by decide +kernel) (by decide +kernel) (kx_s_nm (JS 36)))
set_option maxRecDepth 20000 in
theorem sk_63_36 (X : kx_X p l e R s m args below meth c s0 D cA 6 ι0 h0 rr hf prog_1_method_14_code "TaskDesk" C d (Option.some Jvm.ClassFile.FieldType.int) "gate" J) : kx_Sn p l e R s m args below meth c s0 D cA 6 ι0 h0 rr hf 36 (bk_63_36 d C J) := by
  obtain ⟨G, CS, R9, O9, RT, NM, T0, FL, JS⟩ := X
  exact (kx_s_istore G (by decide +kernel) (by decide) (kx_s_iload_n (j := 1) G rfl (by decide +kernel) (kx_s_iflt (off := 13) (tgt := 52) G (by decide +kernel) rfl (kx_s_nm (JS 52)) (kx_s_iload_n (j := 1) G rfl (by decide +kernel) (kx_s_iconst (i := 4) G (by decide +kernel) (by decide +kernel) (kx_s_cgt (off := 8) (tgt := 52) G (by decide +kernel) rfl (kx_s_nm (JS 52)) (kx_s_iload G (by decide +kernel) (kx_s_ifeq (off := 14) (tgt := 63) G (by decide +kernel) rfl (kx_s_aload_n (j := 0) G rfl (by decide +kernel) (kx_s_gI G kf_0_286 (by decide +kernel) (kx_s_sipush (i := 256) G (by decide +kernel) (by decide +kernel) (kx_s_clt (off := 14) (tgt := 84) G (by decide +kernel) rfl (kx_s_aload_n (j := 0) G rfl (by decide +kernel) (kx_s_gR G kf_0_50 (by decide +kernel) (kx_s_aload_n (j := 0) G rfl (by decide +kernel) (kx_s_gI G kf_0_286 (by decide +kernel) (kx_s_aR G rfl ka_105 (by decide +kernel) (kx_s_astore G (by decide +kernel) (by decide) (kx_s_aload G (by decide +kernel) (kx_s_iload_n (j := 1) G rfl (by decide +kernel) (kx_s_pI G kf_0_281 rfl (by decide +kernel) (by decide +kernel) (kx_s_aload G (by decide +kernel) (kx_s_aload_n (j := 3) G rfl (by decide +kernel) (kx_s_pR (ty := .object "TaskDesk$Gate") G kf_0_291 rfl (by decide +kernel) rfl (by decide +kernel) (kx_s_aload_n (j := 0) G rfl (by decide +kernel) (kx_s_dup G (by decide +kernel) (kx_s_gI G kf_0_286 (by decide +kernel) (kx_s_iconst (i := 1) G (by decide +kernel) (by decide +kernel) (kx_s_iadd G (by decide +kernel) (kx_s_pI G kf_0_286 rfl (by decide +kernel) (by decide +kernel) (kx_s_aload G (by decide +kernel) (kx_s_gI G kf_0_295 (by decide +kernel) (kx_s_ireturn G RT (by decide +kernel)))))))))))))))))))))) (kx_s_thd (ic := 100) (ex := 0) (i9 := 96) (i8 := 289) (w := 3) G T0 FL R9 (by decide +kernel) (by decide +kernel) kw_470 kw_471 kw_93 kw_780 (by decide +kernel) (by decide +kernel) (Or.inr ⟨rfl, by decide +kernel⟩) (by decide +kernel) (by decide +kernel) O9))))) (kx_s_nm (JS 52))))))))))
set_option maxRecDepth 20000 in
theorem sk_63_52 (X : kx_X p l e R s m args below meth c s0 D cA 6 ι0 h0 rr hf prog_1_method_14_code "TaskDesk" C d (Option.some Jvm.ClassFile.FieldType.int) "gate" J) : kx_Sn p l e R s m args below meth c s0 D cA 6 ι0 h0 rr hf 52 (bk_63_52 d C J) := by
  obtain ⟨G, CS, R9, O9, RT, NM, T0, FL, JS⟩ := X
  exact (kx_s_thd (ic := 130) (ex := 1) (i9 := 126) (i8 := 284) (w := 3) G T0 FL R9 (by decide +kernel) (by decide +kernel) kw_625 kw_626 kw_94 kw_779 (by decide +kernel) (by decide +kernel) (Or.inr ⟨rfl, by decide +kernel⟩) (by decide +kernel) (by decide +kernel) O9)
theorem sm_63 (X : kx_X p l e R s m args below meth c s0 D cA 6 ι0 h0 rr hf prog_1_method_14_code "TaskDesk" C d (Option.some Jvm.ClassFile.FieldType.int) "gate" J) (b : Nat) : kx_Sn p l e R s m args below meth c s0 D cA 6 ι0 h0 rr hf b (bm_63 d C b J) := by
  unfold bm_63
  cases h0 : Nat.beq b 0 with
  | true => rw [Nat.eq_of_beq_eq_true h0]; exact sk_63_0 X
  | false =>
   cases h14 : Nat.beq b 14 with
   | true => rw [Nat.eq_of_beq_eq_true h14]; exact sk_63_14 X
   | false =>
    cases h31 : Nat.beq b 31 with
    | true => rw [Nat.eq_of_beq_eq_true h31]; exact sk_63_31 X
    | false =>
     cases h35 : Nat.beq b 35 with
     | true => rw [Nat.eq_of_beq_eq_true h35]; exact sk_63_35 X
     | false =>
      cases h36 : Nat.beq b 36 with
      | true => rw [Nat.eq_of_beq_eq_true h36]; exact sk_63_36 X
      | false =>
       cases h52 : Nat.beq b 52 with
       | true => rw [Nat.eq_of_beq_eq_true h52]; exact sk_63_52 X
       | false =>
        exact kx_s_no
/-! TaskDesk.gateAt(I)LTaskDesk$Gate; -/
def bk_64_0 (d : Nat) (C : kx_C) (J : Nat → kx_F) : kx_F := (kx_li 1 (kx_iflt (kx_nm [] (J 12)) (kx_li 1 (kx_la 0 (kx_gI 0 17 (kx_clt (kx_la 0 (kx_gR 0 16 105 (kx_li 1 (kx_aR 105 3 (kx_nm [] (J 22)))))) (kx_nm [] (J 12))))))))
def bk_64_12 (d : Nat) (C : kx_C) (J : Nat → kx_F) : kx_F := (kx_c (kx_r 3 none) (kx_nm [] (J 22)))
def bk_64_22 (d : Nat) (C : kx_C) (J : Nat → kx_F) : kx_F := kx_rr
def bm_64 (d : Nat) (C : kx_C) (b : Nat) (J : Nat → kx_F) : kx_F := bif Nat.beq b 0 then bk_64_0 d C J else bif Nat.beq b 12 then bk_64_12 d C J else bif Nat.beq b 22 then bk_64_22 d C J else fun _ _ _ => none
set_option maxRecDepth 20000 in
theorem sk_64_0 (X : kx_X p l e R s m args below meth c s0 D cA 2 ι0 h0 rr hf prog_1_method_31_code "TaskDesk" C d (Option.some (Jvm.ClassFile.FieldType.object "TaskDesk$Gate")) "gateAt" J) : kx_Sn p l e R s m args below meth c s0 D cA 2 ι0 h0 rr hf 0 (bk_64_0 d C J) := by
  obtain ⟨G, CS, R9, O9, RT, NM, T0, FL, JS⟩ := X
  exact (kx_s_iload_n (j := 1) G rfl (by decide +kernel) (kx_s_iflt (off := 11) (tgt := 12) G (by decide +kernel) rfl (kx_s_nm (JS 12)) (kx_s_iload_n (j := 1) G rfl (by decide +kernel) (kx_s_aload_n (j := 0) G rfl (by decide +kernel) (kx_s_gI G kf_0_286 (by decide +kernel) (kx_s_clt (off := 7) (tgt := 16) G (by decide +kernel) rfl (kx_s_aload_n (j := 0) G rfl (by decide +kernel) (kx_s_gR G kf_0_50 (by decide +kernel) (kx_s_iload_n (j := 1) G rfl (by decide +kernel) (kx_s_aR G rfl ka_105 (by decide +kernel) (kx_s_nm (JS 22)))))) (kx_s_nm (JS 12))))))))
set_option maxRecDepth 20000 in
theorem sk_64_12 (X : kx_X p l e R s m args below meth c s0 D cA 2 ι0 h0 rr hf prog_1_method_31_code "TaskDesk" C d (Option.some (Jvm.ClassFile.FieldType.object "TaskDesk$Gate")) "gateAt" J) : kx_Sn p l e R s m args below meth c s0 D cA 2 ι0 h0 rr hf 12 (bk_64_12 d C J) := by
  obtain ⟨G, CS, R9, O9, RT, NM, T0, FL, JS⟩ := X
  exact (kx_s_null G (by decide +kernel) (kx_s_goto (off := 9) (tgt := 22) G (by decide +kernel) rfl (kx_s_nm (JS 22))))
set_option maxRecDepth 20000 in
theorem sk_64_22 (X : kx_X p l e R s m args below meth c s0 D cA 2 ι0 h0 rr hf prog_1_method_31_code "TaskDesk" C d (Option.some (Jvm.ClassFile.FieldType.object "TaskDesk$Gate")) "gateAt" J) : kx_Sn p l e R s m args below meth c s0 D cA 2 ι0 h0 rr hf 22 (bk_64_22 d C J) := by
  obtain ⟨G, CS, R9, O9, RT, NM, T0, FL, JS⟩ := X
  exact (kx_s_areturn G RT (by decide +kernel))
theorem sm_64 (X : kx_X p l e R s m args below meth c s0 D cA 2 ι0 h0 rr hf prog_1_method_31_code "TaskDesk" C d (Option.some (Jvm.ClassFile.FieldType.object "TaskDesk$Gate")) "gateAt" J) (b : Nat) : kx_Sn p l e R s m args below meth c s0 D cA 2 ι0 h0 rr hf b (bm_64 d C b J) := by
  unfold bm_64
  cases h0 : Nat.beq b 0 with
  | true => rw [Nat.eq_of_beq_eq_true h0]; exact sk_64_0 X
  | false =>
   cases h12 : Nat.beq b 12 with
   | true => rw [Nat.eq_of_beq_eq_true h12]; exact sk_64_12 X
   | false =>
    cases h22 : Nat.beq b 22 with
    | true => rw [Nat.eq_of_beq_eq_true h22]; exact sk_64_22 X
    | false =>
     exact kx_s_no
/-! TaskDesk.enter(I)Z -/
def bk_65_0 (d : Nat) (C : kx_C) (J : Nat → kx_F) : kx_F := (kx_la 0 (kx_li 1 (kx_Vr C 66 0 [0] 3 (kx_sa 2 (kx_la 0 (kx_Vr C 24 0 [] 6 (kx_sa 3 (kx_la 2 (kx_gI 3 3 (kx_c (kx_i 3) (kx_cne (kx_nm [0, 2, 3] (J 24)) (kx_la 0 (kx_la 2 (kx_Vv C 67 0 [5] (kx_nm [0, 2, 3] (J 24))))))))))))))))
def bk_65_24 (d : Nat) (C : kx_C) (J : Nat → kx_F) : kx_F := (kx_la 2 (kx_Vi C 69 3 [] (kx_ifeq (kx_la 3 (kx_la 2 (kx_gR 3 1 5 (kx_c (kx_i 6) (kx_la 2 (kx_gI 3 0 (kx_Vv C 27 6 [7, 0, 0] (kx_la 0 (kx_Vv C 30 0 [] (kx_c (kx_i 0) kx_rz)))))))))) (kx_la 2 (kx_gI 3 3 (kx_c (kx_i 4) (kx_cne (kx_nm [2, 3] (J 46)) (kx_la 2 (kx_gI 3 4 (kx_ifne (kx_c (kx_i 0) (kx_nm [2, 3] (J 51))) (kx_nm [2, 3] (J 46))))))))))))
def bk_65_46 (d : Nat) (C : kx_C) (J : Nat → kx_F) : kx_F := (kx_c (kx_i 1) (kx_nm [2, 3] (J 51)))
def bk_65_51 (d : Nat) (C : kx_C) (J : Nat → kx_F) : kx_F := (kx_si 4 (kx_la 2 (kx_Vv C 70 3 [] (kx_la 3 (kx_c (kx_l 0) (kx_li 4 (kx_c (kx_i (-1)) (kx_c (kx_i 0) (kx_Vv C 12 6 [1, 0, 0, 0] (kx_c (kx_i 1) kx_rz))))))))))
def bm_65 (d : Nat) (C : kx_C) (b : Nat) (J : Nat → kx_F) : kx_F := bif Nat.beq b 0 then bk_65_0 d C J else bif Nat.beq b 24 then bk_65_24 d C J else bif Nat.beq b 46 then bk_65_46 d C J else bif Nat.beq b 51 then bk_65_51 d C J else fun _ _ _ => none
set_option maxRecDepth 20000 in
theorem sk_65_0 (X : kx_X p l e R s m args below meth c s0 D cA 5 ι0 h0 rr hf prog_1_method_15_code "TaskDesk" C d (Option.some Jvm.ClassFile.FieldType.boolean) "enter" J) : kx_Sn p l e R s m args below meth c s0 D cA 5 ι0 h0 rr hf 0 (bk_65_0 d C J) := by
  obtain ⟨G, CS, R9, O9, RT, NM, T0, FL, JS⟩ := X
  exact (kx_s_aload_n (j := 0) G rfl (by decide +kernel) (kx_s_iload_n (j := 1) G rfl (by decide +kernel) (kx_s_Vr (n := 66) G kx_good CS R9 (O9 _) kc_66 rfl kw_788 kw_790 kw_30 (r := kr_0) rfl (by decide) (by decide +kernel) (kx_s_astore_n (j := 2) G rfl (by decide +kernel) (by decide) (kx_s_aload_n (j := 0) G rfl (by decide +kernel) (kx_s_Vr (n := 24) G kx_good CS R9 (O9 _) kc_24 rfl kw_466 kw_468 kw_6 (r := kr_0) rfl (by decide) (by decide +kernel) (kx_s_astore_n (j := 3) G rfl (by decide +kernel) (by decide) (kx_s_aload_n (j := 2) G rfl (by decide +kernel) (kx_s_gI G kf_0_281 (by decide +kernel) (kx_s_iconst (i := 3) G (by decide +kernel) (by decide +kernel) (kx_s_cne (off := 8) (tgt := 24) G (by decide +kernel) rfl (kx_s_nm (JS 24)) (kx_s_aload_n (j := 0) G rfl (by decide +kernel) (kx_s_aload_n (j := 2) G rfl (by decide +kernel) (kx_s_Vv (n := 67) G kx_good CS R9 (O9 _) kc_67 rfl kw_793 kw_795 kw_31 (r := kr_0) rfl (by decide) (by decide +kernel) (kx_s_nm (JS 24))))))))))))))))
set_option maxRecDepth 20000 in
theorem sk_65_24 (X : kx_X p l e R s m args below meth c s0 D cA 5 ι0 h0 rr hf prog_1_method_15_code "TaskDesk" C d (Option.some Jvm.ClassFile.FieldType.boolean) "enter" J) : kx_Sn p l e R s m args below meth c s0 D cA 5 ι0 h0 rr hf 24 (bk_65_24 d C J) := by
  obtain ⟨G, CS, R9, O9, RT, NM, T0, FL, JS⟩ := X
  exact (kx_s_aload_n (j := 2) G rfl (by decide +kernel) (kx_s_Vi (n := 69) G kx_good CS R9 (O9 _) kc_69 rfl kw_802 kw_803 kw_804 (r := kr_3) rfl (by decide) (by decide +kernel) (kx_s_ifeq (off := 40) (tgt := 68) G (by decide +kernel) rfl (kx_s_aload_n (j := 3) G rfl (by decide +kernel) (kx_s_aload_n (j := 2) G rfl (by decide +kernel) (kx_s_gR G kf_0_312 (by decide +kernel) (kx_s_bipush (i := 6) G (by decide +kernel) (by decide +kernel) (kx_s_aload_n (j := 2) G rfl (by decide +kernel) (kx_s_gI G kf_0_295 (by decide +kernel) (kx_s_Vv (n := 27) G kx_good CS R9 (O9 _) kc_27 rfl kw_548 kw_549 kw_550 (r := kr_6) rfl (by decide) (by decide +kernel) (kx_s_aload_n (j := 0) G rfl (by decide +kernel) (kx_s_Vv (n := 30) G kx_good CS R9 (O9 _) kc_30 rfl kw_563 kw_565 kw_10 (r := kr_0) rfl (by decide) (by decide +kernel) (kx_s_iconst (i := 0) G (by decide +kernel) (by decide +kernel) (kx_s_zreturn G RT (by decide +kernel)))))))))))) (kx_s_aload_n (j := 2) G rfl (by decide +kernel) (kx_s_gI G kf_0_281 (by decide +kernel) (kx_s_iconst (i := 4) G (by decide +kernel) (by decide +kernel) (kx_s_cne (off := 10) (tgt := 46) G (by decide +kernel) rfl (kx_s_nm (JS 46)) (kx_s_aload_n (j := 2) G rfl (by decide +kernel) (kx_s_gI G kf_0_306 (by decide +kernel) (kx_s_ifne (off := 7) (tgt := 50) G (by decide +kernel) rfl (kx_s_iconst (i := 0) G (by decide +kernel) (by decide +kernel) (kx_s_nm (JS 51))) (kx_s_nm (JS 46))))))))))))
set_option maxRecDepth 20000 in
theorem sk_65_46 (X : kx_X p l e R s m args below meth c s0 D cA 5 ι0 h0 rr hf prog_1_method_15_code "TaskDesk" C d (Option.some Jvm.ClassFile.FieldType.boolean) "enter" J) : kx_Sn p l e R s m args below meth c s0 D cA 5 ι0 h0 rr hf 46 (bk_65_46 d C J) := by
  obtain ⟨G, CS, R9, O9, RT, NM, T0, FL, JS⟩ := X
  exact (kx_s_iconst (i := 1) G (by decide +kernel) (by decide +kernel) (kx_s_goto (off := 4) (tgt := 51) G (by decide +kernel) rfl (kx_s_nm (JS 51))))
set_option maxRecDepth 20000 in
theorem sk_65_51 (X : kx_X p l e R s m args below meth c s0 D cA 5 ι0 h0 rr hf prog_1_method_15_code "TaskDesk" C d (Option.some Jvm.ClassFile.FieldType.boolean) "enter" J) : kx_Sn p l e R s m args below meth c s0 D cA 5 ι0 h0 rr hf 51 (bk_65_51 d C J) := by
  obtain ⟨G, CS, R9, O9, RT, NM, T0, FL, JS⟩ := X
  exact (kx_s_istore G (by decide +kernel) (by decide) (kx_s_aload_n (j := 2) G rfl (by decide +kernel) (kx_s_Vv (n := 70) G kx_good CS R9 (O9 _) kc_70 rfl kw_806 kw_807 kw_808 (r := kr_3) rfl (by decide) (by decide +kernel) (kx_s_aload_n (j := 3) G rfl (by decide +kernel) (kx_s_lconst (i := 0) G (by decide +kernel) (by decide +kernel) (kx_s_iload G (by decide +kernel) (kx_s_iconst (i := -1) G (by decide +kernel) (by decide +kernel) (kx_s_iconst (i := 0) G (by decide +kernel) (by decide +kernel) (kx_s_Vv (n := 12) G kx_good CS R9 (O9 _) kc_12 rfl kw_587 kw_360 kw_361 (r := kr_6) rfl (by decide) (by decide +kernel) (kx_s_iconst (i := 1) G (by decide +kernel) (by decide +kernel) (kx_s_zreturn G RT (by decide +kernel))))))))))))
theorem sm_65 (X : kx_X p l e R s m args below meth c s0 D cA 5 ι0 h0 rr hf prog_1_method_15_code "TaskDesk" C d (Option.some Jvm.ClassFile.FieldType.boolean) "enter" J) (b : Nat) : kx_Sn p l e R s m args below meth c s0 D cA 5 ι0 h0 rr hf b (bm_65 d C b J) := by
  unfold bm_65
  cases h0 : Nat.beq b 0 with
  | true => rw [Nat.eq_of_beq_eq_true h0]; exact sk_65_0 X
  | false =>
   cases h24 : Nat.beq b 24 with
   | true => rw [Nat.eq_of_beq_eq_true h24]; exact sk_65_24 X
   | false =>
    cases h46 : Nat.beq b 46 with
    | true => rw [Nat.eq_of_beq_eq_true h46]; exact sk_65_46 X
    | false =>
     cases h51 : Nat.beq b 51 with
     | true => rw [Nat.eq_of_beq_eq_true h51]; exact sk_65_51 X
     | false =>
      exact kx_s_no
/-! TaskDesk.mustBeGate(I)LTaskDesk$Gate; -/
def bk_66_0 (d : Nat) (C : kx_C) (J : Nat → kx_F) : kx_F := (kx_la 0 (kx_li 1 (kx_Vr C 64 0 [0] 3 (kx_sa 2 (kx_la 2 (kx_nnul (kx_la 2 kx_rr) (kx_thd kx_cc kx_cs d 1)))))))
def bm_66 (d : Nat) (C : kx_C) (b : Nat) (J : Nat → kx_F) : kx_F := bif Nat.beq b 0 then bk_66_0 d C J else fun _ _ _ => none
set_option maxRecDepth 20000 in
theorem sk_66_0 (X : kx_X p l e R s m args below meth c s0 D cA 3 ι0 h0 rr hf prog_1_method_29_code "TaskDesk" C d (Option.some (Jvm.ClassFile.FieldType.object "TaskDesk$Gate")) "mustBeGate" J) : kx_Sn p l e R s m args below meth c s0 D cA 3 ι0 h0 rr hf 0 (bk_66_0 d C J) := by
  obtain ⟨G, CS, R9, O9, RT, NM, T0, FL, JS⟩ := X
  exact (kx_s_aload_n (j := 0) G rfl (by decide +kernel) (kx_s_iload_n (j := 1) G rfl (by decide +kernel) (kx_s_Vr (n := 64) G kx_good CS R9 (O9 _) kc_64 rfl kw_775 kw_777 kw_29 (r := kr_0) rfl (by decide) (by decide +kernel) (kx_s_astore_n (j := 2) G rfl (by decide +kernel) (by decide) (kx_s_aload_n (j := 2) G rfl (by decide +kernel) (kx_s_ifnonnull (off := 14) (tgt := 21) G (by decide +kernel) rfl (kx_s_aload_n (j := 2) G rfl (by decide +kernel) (kx_s_areturn G RT (by decide +kernel))) (kx_s_thd (ic := 130) (ex := 1) (i9 := 126) (i8 := 388) (w := 3) G T0 FL R9 (by decide +kernel) (by decide +kernel) kw_625 kw_626 kw_94 kw_792 (by decide +kernel) (by decide +kernel) (Or.inr ⟨rfl, by decide +kernel⟩) (by decide +kernel) (by decide +kernel) O9)))))))
theorem sm_66 (X : kx_X p l e R s m args below meth c s0 D cA 3 ι0 h0 rr hf prog_1_method_29_code "TaskDesk" C d (Option.some (Jvm.ClassFile.FieldType.object "TaskDesk$Gate")) "mustBeGate" J) (b : Nat) : kx_Sn p l e R s m args below meth c s0 D cA 3 ι0 h0 rr hf b (bm_66 d C b J) := by
  unfold bm_66
  cases h0 : Nat.beq b 0 with
  | true => rw [Nat.eq_of_beq_eq_true h0]; exact sk_66_0 X
  | false =>
   exact kx_s_no
/-! TaskDesk.giveUpLockOf(LTaskDesk$Gate;)V -/
def bk_67_0 (d : Nat) (C : kx_C) (J : Nat → kx_F) : kx_F := (kx_la 1 (kx_gR 3 5 3 (kx_nul (kx_nm [] (J 17)) (kx_la 1 (kx_gR 3 5 3 (kx_gI 3 4 (kx_ifne (kx_la 0 (kx_la 1 (kx_gR 3 5 3 (kx_Vv C 68 0 [5] kx_rv)))) (kx_nm [] (J 17)))))))))
def bk_67_17 (d : Nat) (C : kx_C) (J : Nat → kx_F) : kx_F := (kx_thd kx_cc kx_cs d 2)
def bm_67 (d : Nat) (C : kx_C) (b : Nat) (J : Nat → kx_F) : kx_F := bif Nat.beq b 0 then bk_67_0 d C J else bif Nat.beq b 17 then bk_67_17 d C J else fun _ _ _ => none
set_option maxRecDepth 20000 in
theorem sk_67_0 (X : kx_X p l e R s m args below meth c s0 D cA 2 ι0 h0 rr hf prog_1_method_57_code "TaskDesk" C d (Option.none : Option Jvm.ClassFile.FieldType) "giveUpLockOf" J) : kx_Sn p l e R s m args below meth c s0 D cA 2 ι0 h0 rr hf 0 (bk_67_0 d C J) := by
  obtain ⟨G, CS, R9, O9, RT, NM, T0, FL, JS⟩ := X
  exact (kx_s_aload_n (j := 1) G rfl (by decide +kernel) (kx_s_gR G kf_0_291 (by decide +kernel) (kx_s_ifnull (off := 13) (tgt := 17) G (by decide +kernel) rfl (kx_s_nm (JS 17)) (kx_s_aload_n (j := 1) G rfl (by decide +kernel) (kx_s_gR G kf_0_291 (by decide +kernel) (kx_s_gI G kf_0_306 (by decide +kernel) (kx_s_ifne (off := 14) (tgt := 28) G (by decide +kernel) rfl (kx_s_aload_n (j := 0) G rfl (by decide +kernel) (kx_s_aload_n (j := 1) G rfl (by decide +kernel) (kx_s_gR G kf_0_291 (by decide +kernel) (kx_s_Vv (n := 68) G kx_good CS R9 (O9 _) kc_68 rfl kw_798 kw_800 kw_32 (r := kr_0) rfl (by decide) (by decide +kernel) (kx_s_return G RT (by decide +kernel)))))) (kx_s_nm (JS 17)))))))))
set_option maxRecDepth 20000 in
theorem sk_67_17 (X : kx_X p l e R s m args below meth c s0 D cA 2 ι0 h0 rr hf prog_1_method_57_code "TaskDesk" C d (Option.none : Option Jvm.ClassFile.FieldType) "giveUpLockOf" J) : kx_Sn p l e R s m args below meth c s0 D cA 2 ι0 h0 rr hf 17 (bk_67_17 d C J) := by
  obtain ⟨G, CS, R9, O9, RT, NM, T0, FL, JS⟩ := X
  exact (kx_s_thd (ic := 199) (ex := 2) (i9 := 195) (i8 := 467) (w := 3) G T0 FL R9 (by decide +kernel) (by decide +kernel) kw_684 kw_685 kw_95 kw_797 (by decide +kernel) (by decide +kernel) (Or.inr ⟨rfl, by decide +kernel⟩) (by decide +kernel) (by decide +kernel) O9)
theorem sm_67 (X : kx_X p l e R s m args below meth c s0 D cA 2 ι0 h0 rr hf prog_1_method_57_code "TaskDesk" C d (Option.none : Option Jvm.ClassFile.FieldType) "giveUpLockOf" J) (b : Nat) : kx_Sn p l e R s m args below meth c s0 D cA 2 ι0 h0 rr hf b (bm_67 d C b J) := by
  unfold bm_67
  cases h0 : Nat.beq b 0 with
  | true => rw [Nat.eq_of_beq_eq_true h0]; exact sk_67_0 X
  | false =>
   cases h17 : Nat.beq b 17 with
   | true => rw [Nat.eq_of_beq_eq_true h17]; exact sk_67_17 X
   | false =>
    exact kx_s_no
/-! TaskDesk.giveLockBack(LTaskDesk$Gate;)V -/
def bk_68_0 (d : Nat) (C : kx_C) (J : Nat → kx_F) : kx_F := (kx_la 1 (kx_gR 3 1 5 (kx_gR 5 0 4 (kx_sa 2 (kx_la 2 (kx_nnul (kx_la 0 (kx_la 2 (kx_c (kx_l 0) (kx_c (kx_i 1) (kx_c (kx_i 0) (kx_Vv C 35 0 [6, 1, 0, 0] (kx_nm [] (J 28)))))))) (kx_la 1 (kx_c (kx_i 0) (kx_pI 3 4 (kx_nm [] (J 28)))))))))))
def bk_68_28 (d : Nat) (C : kx_C) (J : Nat → kx_F) : kx_F := kx_rv
def bm_68 (d : Nat) (C : kx_C) (b : Nat) (J : Nat → kx_F) : kx_F := bif Nat.beq b 0 then bk_68_0 d C J else bif Nat.beq b 28 then bk_68_28 d C J else fun _ _ _ => none
set_option maxRecDepth 20000 in
theorem sk_68_0 (X : kx_X p l e R s m args below meth c s0 D cA 3 ι0 h0 rr hf prog_1_method_58_code "TaskDesk" C d (Option.none : Option Jvm.ClassFile.FieldType) "giveLockBack" J) : kx_Sn p l e R s m args below meth c s0 D cA 3 ι0 h0 rr hf 0 (bk_68_0 d C J) := by
  obtain ⟨G, CS, R9, O9, RT, NM, T0, FL, JS⟩ := X
  exact (kx_s_aload_n (j := 1) G rfl (by decide +kernel) (kx_s_gR G kf_0_312 (by decide +kernel) (kx_s_gR G kf_0_317 (by decide +kernel) (kx_s_astore_n (j := 2) G rfl (by decide +kernel) (by decide) (kx_s_aload_n (j := 2) G rfl (by decide +kernel) (kx_s_ifnonnull (off := 11) (tgt := 20) G (by decide +kernel) rfl (kx_s_aload_n (j := 0) G rfl (by decide +kernel) (kx_s_aload_n (j := 2) G rfl (by decide +kernel) (kx_s_lconst (i := 0) G (by decide +kernel) (by decide +kernel) (kx_s_iconst (i := 1) G (by decide +kernel) (by decide +kernel) (kx_s_iconst (i := 0) G (by decide +kernel) (by decide +kernel) (kx_s_Vv (n := 35) G kx_good CS R9 (O9 _) kc_35 rfl kw_583 kw_585 kw_14 (r := kr_0) rfl (by decide) (by decide +kernel) (kx_s_nm (JS 28)))))))) (kx_s_aload_n (j := 1) G rfl (by decide +kernel) (kx_s_iconst (i := 0) G (by decide +kernel) (by decide +kernel) (kx_s_pI G kf_0_306 rfl (by decide +kernel) (by decide +kernel) (kx_s_goto (off := 11) (tgt := 28) G (by decide +kernel) rfl (kx_s_nm (JS 28))))))))))))
set_option maxRecDepth 20000 in
theorem sk_68_28 (X : kx_X p l e R s m args below meth c s0 D cA 3 ι0 h0 rr hf prog_1_method_58_code "TaskDesk" C d (Option.none : Option Jvm.ClassFile.FieldType) "giveLockBack" J) : kx_Sn p l e R s m args below meth c s0 D cA 3 ι0 h0 rr hf 28 (bk_68_28 d C J) := by
  obtain ⟨G, CS, R9, O9, RT, NM, T0, FL, JS⟩ := X
  exact (kx_s_return G RT (by decide +kernel))
theorem sm_68 (X : kx_X p l e R s m args below meth c s0 D cA 3 ι0 h0 rr hf prog_1_method_58_code "TaskDesk" C d (Option.none : Option Jvm.ClassFile.FieldType) "giveLockBack" J) (b : Nat) : kx_Sn p l e R s m args below meth c s0 D cA 3 ι0 h0 rr hf b (bm_68 d C b J) := by
  unfold bm_68
  cases h0 : Nat.beq b 0 with
  | true => rw [Nat.eq_of_beq_eq_true h0]; exact sk_68_0 X
  | false =>
   cases h28 : Nat.beq b 28 with
   | true => rw [Nat.eq_of_beq_eq_true h28]; exact sk_68_28 X
   | false =>
    exact kx_s_no
/-! TaskDesk.read(I)Z -/
def bk_71_0 (d : Nat) (C : kx_C) (J : Nat → kx_F) : kx_F := (kx_la 0 (kx_li 1 (kx_Vr C 66 0 [0] 3 (kx_sa 2 (kx_la 2 (kx_gI 3 3 (kx_c (kx_i 1) (kx_ceq (kx_la 0 (kx_Vr C 24 0 [] 6 (kx_sa 3 (kx_la 2 (kx_gI 3 4 (kx_c (kx_i (-1)) (kx_ceq (kx_nm [0, 2, 3] (J 68)) (kx_la 2 (kx_gR 3 1 5 (kx_gR 5 0 4 (kx_nnul (kx_nm [0, 2, 3] (J 68)) (kx_la 2 (kx_dup (kx_gI 3 4 (kx_c (kx_i 1) (kx_ii (fun x y => x + y) (kx_pI 3 4 (kx_la 3 (kx_c (kx_l 0) (kx_c (kx_i 1) (kx_c (kx_i (-1)) (kx_c (kx_i 0) (kx_Vv C 12 6 [1, 0, 0, 0] (kx_c (kx_i 1) kx_rz)))))))))))))))))))))))) (kx_thd kx_cc kx_cs d 1)))))))))
def bk_71_68 (d : Nat) (C : kx_C) (J : Nat → kx_F) : kx_F := (kx_la 3 (kx_la 2 (kx_gR 3 2 5 (kx_c (kx_i 6) (kx_la 2 (kx_gI 3 0 (kx_Vv C 27 6 [7, 0, 0] (kx_la 0 (kx_Vv C 30 0 [] (kx_c (kx_i 0) kx_rz))))))))))
def bm_71 (d : Nat) (C : kx_C) (b : Nat) (J : Nat → kx_F) : kx_F := bif Nat.beq b 0 then bk_71_0 d C J else bif Nat.beq b 68 then bk_71_68 d C J else fun _ _ _ => none
set_option maxRecDepth 20000 in
theorem sk_71_0 (X : kx_X p l e R s m args below meth c s0 D cA 4 ι0 h0 rr hf prog_1_method_16_code "TaskDesk" C d (Option.some Jvm.ClassFile.FieldType.boolean) "read" J) : kx_Sn p l e R s m args below meth c s0 D cA 4 ι0 h0 rr hf 0 (bk_71_0 d C J) := by
  obtain ⟨G, CS, R9, O9, RT, NM, T0, FL, JS⟩ := X
  exact (kx_s_aload_n (j := 0) G rfl (by decide +kernel) (kx_s_iload_n (j := 1) G rfl (by decide +kernel) (kx_s_Vr (n := 66) G kx_good CS R9 (O9 _) kc_66 rfl kw_788 kw_790 kw_30 (r := kr_0) rfl (by decide) (by decide +kernel) (kx_s_astore_n (j := 2) G rfl (by decide +kernel) (by decide) (kx_s_aload_n (j := 2) G rfl (by decide +kernel) (kx_s_gI G kf_0_281 (by decide +kernel) (kx_s_iconst (i := 1) G (by decide +kernel) (by decide +kernel) (kx_s_ceq (off := 14) (tgt := 25) G (by decide +kernel) rfl (kx_s_aload_n (j := 0) G rfl (by decide +kernel) (kx_s_Vr (n := 24) G kx_good CS R9 (O9 _) kc_24 rfl kw_466 kw_468 kw_6 (r := kr_0) rfl (by decide) (by decide +kernel) (kx_s_astore_n (j := 3) G rfl (by decide +kernel) (by decide) (kx_s_aload_n (j := 2) G rfl (by decide +kernel) (kx_s_gI G kf_0_306 (by decide +kernel) (kx_s_iconst (i := -1) G (by decide +kernel) (by decide +kernel) (kx_s_ceq (off := 33) (tgt := 68) G (by decide +kernel) rfl (kx_s_nm (JS 68)) (kx_s_aload_n (j := 2) G rfl (by decide +kernel) (kx_s_gR G kf_0_312 (by decide +kernel) (kx_s_gR G kf_0_317 (by decide +kernel) (kx_s_ifnonnull (off := 23) (tgt := 68) G (by decide +kernel) rfl (kx_s_nm (JS 68)) (kx_s_aload_n (j := 2) G rfl (by decide +kernel) (kx_s_dup G (by decide +kernel) (kx_s_gI G kf_0_306 (by decide +kernel) (kx_s_iconst (i := 1) G (by decide +kernel) (by decide +kernel) (kx_s_iadd G (by decide +kernel) (kx_s_pI G kf_0_306 rfl (by decide +kernel) (by decide +kernel) (kx_s_aload_n (j := 3) G rfl (by decide +kernel) (kx_s_lconst (i := 0) G (by decide +kernel) (by decide +kernel) (kx_s_iconst (i := 1) G (by decide +kernel) (by decide +kernel) (kx_s_iconst (i := -1) G (by decide +kernel) (by decide +kernel) (kx_s_iconst (i := 0) G (by decide +kernel) (by decide +kernel) (kx_s_Vv (n := 12) G kx_good CS R9 (O9 _) kc_12 rfl kw_587 kw_360 kw_361 (r := kr_6) rfl (by decide) (by decide +kernel) (kx_s_iconst (i := 1) G (by decide +kernel) (by decide +kernel) (kx_s_zreturn G RT (by decide +kernel)))))))))))))))))))))))))) (kx_s_thd (ic := 130) (ex := 1) (i9 := 126) (i8 := 315) (w := 3) G T0 FL R9 (by decide +kernel) (by decide +kernel) kw_625 kw_626 kw_94 kw_817 (by decide +kernel) (by decide +kernel) (Or.inr ⟨rfl, by decide +kernel⟩) (by decide +kernel) (by decide +kernel) O9)))))))))
set_option maxRecDepth 20000 in
theorem sk_71_68 (X : kx_X p l e R s m args below meth c s0 D cA 4 ι0 h0 rr hf prog_1_method_16_code "TaskDesk" C d (Option.some Jvm.ClassFile.FieldType.boolean) "read" J) : kx_Sn p l e R s m args below meth c s0 D cA 4 ι0 h0 rr hf 68 (bk_71_68 d C J) := by
  obtain ⟨G, CS, R9, O9, RT, NM, T0, FL, JS⟩ := X
  exact (kx_s_aload_n (j := 3) G rfl (by decide +kernel) (kx_s_aload_n (j := 2) G rfl (by decide +kernel) (kx_s_gR G kf_0_320 (by decide +kernel) (kx_s_bipush (i := 6) G (by decide +kernel) (by decide +kernel) (kx_s_aload_n (j := 2) G rfl (by decide +kernel) (kx_s_gI G kf_0_295 (by decide +kernel) (kx_s_Vv (n := 27) G kx_good CS R9 (O9 _) kc_27 rfl kw_548 kw_549 kw_550 (r := kr_6) rfl (by decide) (by decide +kernel) (kx_s_aload_n (j := 0) G rfl (by decide +kernel) (kx_s_Vv (n := 30) G kx_good CS R9 (O9 _) kc_30 rfl kw_563 kw_565 kw_10 (r := kr_0) rfl (by decide) (by decide +kernel) (kx_s_iconst (i := 0) G (by decide +kernel) (by decide +kernel) (kx_s_zreturn G RT (by decide +kernel))))))))))))
theorem sm_71 (X : kx_X p l e R s m args below meth c s0 D cA 4 ι0 h0 rr hf prog_1_method_16_code "TaskDesk" C d (Option.some Jvm.ClassFile.FieldType.boolean) "read" J) (b : Nat) : kx_Sn p l e R s m args below meth c s0 D cA 4 ι0 h0 rr hf b (bm_71 d C b J) := by
  unfold bm_71
  cases h0 : Nat.beq b 0 with
  | true => rw [Nat.eq_of_beq_eq_true h0]; exact sk_71_0 X
  | false =>
   cases h68 : Nat.beq b 68 with
   | true => rw [Nat.eq_of_beq_eq_true h68]; exact sk_71_68 X
   | false =>
    exact kx_s_no
/-! TaskDesk.leave(I)V -/
def bk_72_0 (d : Nat) (C : kx_C) (J : Nat → kx_F) : kx_F := (kx_la 0 (kx_li 1 (kx_Vr C 66 0 [0] 3 (kx_sa 2 (kx_la 0 (kx_Vr C 24 0 [] 6 (kx_pop (kx_la 2 (kx_Vi C 73 3 [] (kx_ifne (kx_la 2 (kx_gI 3 3 (kx_sw [(0, (kx_la 0 (kx_la 2 (kx_Vv C 68 0 [5] (kx_nm [] (J 117)))))), (1, (kx_la 0 (kx_la 2 (kx_Vv C 74 0 [5] (kx_nm [] (J 117)))))), (2, (kx_la 0 (kx_la 2 (kx_la 2 (kx_gI 3 4 (kx_c (kx_i 1) (kx_ii (fun x y => x - y) (kx_Vv C 76 0 [5, 0] (kx_nm [] (J 117)))))))))), (3, (kx_la 0 (kx_la 2 (kx_Vv C 77 0 [5] (kx_nm [] (J 117))))))] (kx_la 2 (kx_c (kx_i 2) (kx_pI 3 4 (kx_la 0 (kx_la 2 (kx_gR 3 1 5 (kx_c (kx_i 0) (kx_c (kx_i 0) (kx_Vv C 54 0 [7, 0, 0] (kx_nm [] (J 117)))))))))))))) (kx_thd kx_cc kx_cs d 2)))))))))))
def bk_72_117 (d : Nat) (C : kx_C) (J : Nat → kx_F) : kx_F := kx_rv
def bm_72 (d : Nat) (C : kx_C) (b : Nat) (J : Nat → kx_F) : kx_F := bif Nat.beq b 0 then bk_72_0 d C J else bif Nat.beq b 117 then bk_72_117 d C J else fun _ _ _ => none
set_option maxRecDepth 20000 in
theorem sk_72_0 (X : kx_X p l e R s m args below meth c s0 D cA 3 ι0 h0 rr hf prog_1_method_17_code "TaskDesk" C d (Option.none : Option Jvm.ClassFile.FieldType) "leave" J) : kx_Sn p l e R s m args below meth c s0 D cA 3 ι0 h0 rr hf 0 (bk_72_0 d C J) := by
  obtain ⟨G, CS, R9, O9, RT, NM, T0, FL, JS⟩ := X
  exact (kx_s_aload_n (j := 0) G rfl (by decide +kernel) (kx_s_iload_n (j := 1) G rfl (by decide +kernel) (kx_s_Vr (n := 66) G kx_good CS R9 (O9 _) kc_66 rfl kw_788 kw_790 kw_30 (r := kr_0) rfl (by decide) (by decide +kernel) (kx_s_astore_n (j := 2) G rfl (by decide +kernel) (by decide) (kx_s_aload_n (j := 0) G rfl (by decide +kernel) (kx_s_Vr (n := 24) G kx_good CS R9 (O9 _) kc_24 rfl kw_466 kw_468 kw_6 (r := kr_0) rfl (by decide) (by decide +kernel) (kx_s_pop G (by decide +kernel) (kx_s_aload_n (j := 2) G rfl (by decide +kernel) (kx_s_Vi (n := 73) G kx_good CS R9 (O9 _) kc_73 rfl kw_825 kw_826 kw_827 (r := kr_3) rfl (by decide) (by decide +kernel) (kx_s_ifne (off := 14) (tgt := 29) G (by decide +kernel) rfl (kx_s_aload_n (j := 2) G rfl (by decide +kernel) (kx_s_gI G kf_0_281 (by decide +kernel) (kx_s_tsw (dflt := 69) (lo := 0) (hi := 3) (offs := #[31, 39, 47, 61]) (len := 31) G (by decide +kernel) (tgtD := 102) rfl (kx_s_aload_n (j := 2) G rfl (by decide +kernel) (kx_s_iconst (i := 2) G (by decide +kernel) (by decide +kernel) (kx_s_pI G kf_0_306 rfl (by decide +kernel) (by decide +kernel) (kx_s_aload_n (j := 0) G rfl (by decide +kernel) (kx_s_aload_n (j := 2) G rfl (by decide +kernel) (kx_s_gR G kf_0_312 (by decide +kernel) (kx_s_iconst (i := 0) G (by decide +kernel) (by decide +kernel) (kx_s_iconst (i := 0) G (by decide +kernel) (by decide +kernel) (kx_s_Vv (n := 54) G kx_good CS R9 (O9 _) kc_54 rfl kw_723 kw_725 kw_23 (r := kr_0) rfl (by decide) (by decide +kernel) (kx_s_nm (JS 117))))))))))) (List.forall_mem_cons.mpr ⟨kx_tq (31) 64 (by decide +kernel) (by decide +kernel) (by decide +kernel) rfl (kx_s_aload_n (j := 0) G rfl (by decide +kernel) (kx_s_aload_n (j := 2) G rfl (by decide +kernel) (kx_s_Vv (n := 68) G kx_good CS R9 (O9 _) kc_68 rfl kw_798 kw_800 kw_32 (r := kr_0) rfl (by decide) (by decide +kernel) (kx_s_goto (off := 48) (tgt := 117) G (by decide +kernel) rfl (kx_s_nm (JS 117)))))), List.forall_mem_cons.mpr ⟨kx_tq (39) 72 (by decide +kernel) (by decide +kernel) (by decide +kernel) rfl (kx_s_aload_n (j := 0) G rfl (by decide +kernel) (kx_s_aload_n (j := 2) G rfl (by decide +kernel) (kx_s_Vv (n := 74) G kx_good CS R9 (O9 _) kc_74 rfl kw_830 kw_832 kw_33 (r := kr_0) rfl (by decide) (by decide +kernel) (kx_s_goto (off := 40) (tgt := 117) G (by decide +kernel) rfl (kx_s_nm (JS 117)))))), List.forall_mem_cons.mpr ⟨kx_tq (47) 80 (by decide +kernel) (by decide +kernel) (by decide +kernel) rfl (kx_s_aload_n (j := 0) G rfl (by decide +kernel) (kx_s_aload_n (j := 2) G rfl (by decide +kernel) (kx_s_aload_n (j := 2) G rfl (by decide +kernel) (kx_s_gI G kf_0_306 (by decide +kernel) (kx_s_iconst (i := 1) G (by decide +kernel) (by decide +kernel) (kx_s_isub G (by decide +kernel) (kx_s_Vv (n := 76) G kx_good CS R9 (O9 _) kc_76 rfl kw_838 kw_840 kw_35 (r := kr_0) rfl (by decide) (by decide +kernel) (kx_s_goto (off := 26) (tgt := 117) G (by decide +kernel) rfl (kx_s_nm (JS 117)))))))))), List.forall_mem_cons.mpr ⟨kx_tq (61) 94 (by decide +kernel) (by decide +kernel) (by decide +kernel) rfl (kx_s_aload_n (j := 0) G rfl (by decide +kernel) (kx_s_aload_n (j := 2) G rfl (by decide +kernel) (kx_s_Vv (n := 77) G kx_good CS R9 (O9 _) kc_77 rfl kw_842 kw_844 kw_36 (r := kr_0) rfl (by decide) (by decide +kernel) (kx_s_goto (off := 18) (tgt := 117) G (by decide +kernel) rfl (kx_s_nm (JS 117)))))), List.forall_mem_nil _⟩⟩⟩⟩) (kx_cov 4 (by decide) (vs := [0, 1, 2, 3]) rfl (by decide +kernel))))) (kx_s_thd (ic := 199) (ex := 2) (i9 := 195) (i8 := 326) (w := 3) G T0 FL R9 (by decide +kernel) (by decide +kernel) kw_684 kw_685 kw_95 kw_829 (by decide +kernel) (by decide +kernel) (Or.inr ⟨rfl, by decide +kernel⟩) (by decide +kernel) (by decide +kernel) O9)))))))))))
set_option maxRecDepth 20000 in
theorem sk_72_117 (X : kx_X p l e R s m args below meth c s0 D cA 3 ι0 h0 rr hf prog_1_method_17_code "TaskDesk" C d (Option.none : Option Jvm.ClassFile.FieldType) "leave" J) : kx_Sn p l e R s m args below meth c s0 D cA 3 ι0 h0 rr hf 117 (bk_72_117 d C J) := by
  obtain ⟨G, CS, R9, O9, RT, NM, T0, FL, JS⟩ := X
  exact (kx_s_return G RT (by decide +kernel))
theorem sm_72 (X : kx_X p l e R s m args below meth c s0 D cA 3 ι0 h0 rr hf prog_1_method_17_code "TaskDesk" C d (Option.none : Option Jvm.ClassFile.FieldType) "leave" J) (b : Nat) : kx_Sn p l e R s m args below meth c s0 D cA 3 ι0 h0 rr hf b (bm_72 d C b J) := by
  unfold bm_72
  cases h0 : Nat.beq b 0 with
  | true => rw [Nat.eq_of_beq_eq_true h0]; exact sk_72_0 X
  | false =>
   cases h117 : Nat.beq b 117 with
   | true => rw [Nat.eq_of_beq_eq_true h117]; exact sk_72_117 X
   | false =>
    exact kx_s_no
/-! TaskDesk.endWriting(LTaskDesk$Gate;)V -/
def bk_74_0 (d : Nat) (C : kx_C) (J : Nat → kx_F) : kx_F := (kx_la 1 (kx_gR 3 2 5 (kx_gI 5 2 (kx_ifle (kx_la 0 (kx_la 1 (kx_Vv C 75 0 [5] (kx_nm [] (J 39))))) (kx_la 1 (kx_la 1 (kx_gR 3 2 5 (kx_gI 5 2 (kx_pI 3 4 (kx_la 0 (kx_la 1 (kx_gR 3 2 5 (kx_c (kx_i 1) (kx_c (kx_i 0) (kx_Vv C 54 0 [7, 0, 0] (kx_nm [] (J 39)))))))))))))))))
def bk_74_39 (d : Nat) (C : kx_C) (J : Nat → kx_F) : kx_F := kx_rv
def bm_74 (d : Nat) (C : kx_C) (b : Nat) (J : Nat → kx_F) : kx_F := bif Nat.beq b 0 then bk_74_0 d C J else bif Nat.beq b 39 then bk_74_39 d C J else fun _ _ _ => none
set_option maxRecDepth 20000 in
theorem sk_74_0 (X : kx_X p l e R s m args below meth c s0 D cA 2 ι0 h0 rr hf prog_1_method_59_code "TaskDesk" C d (Option.none : Option Jvm.ClassFile.FieldType) "endWriting" J) : kx_Sn p l e R s m args below meth c s0 D cA 2 ι0 h0 rr hf 0 (bk_74_0 d C J) := by
  obtain ⟨G, CS, R9, O9, RT, NM, T0, FL, JS⟩ := X
  exact (kx_s_aload_n (j := 1) G rfl (by decide +kernel) (kx_s_gR G kf_0_320 (by decide +kernel) (kx_s_gI G kf_0_383 (by decide +kernel) (kx_s_ifle (off := 27) (tgt := 34) G (by decide +kernel) rfl (kx_s_aload_n (j := 0) G rfl (by decide +kernel) (kx_s_aload_n (j := 1) G rfl (by decide +kernel) (kx_s_Vv (n := 75) G kx_good CS R9 (O9 _) kc_75 rfl kw_834 kw_836 kw_34 (r := kr_0) rfl (by decide) (by decide +kernel) (kx_s_nm (JS 39))))) (kx_s_aload_n (j := 1) G rfl (by decide +kernel) (kx_s_aload_n (j := 1) G rfl (by decide +kernel) (kx_s_gR G kf_0_320 (by decide +kernel) (kx_s_gI G kf_0_383 (by decide +kernel) (kx_s_pI G kf_0_306 rfl (by decide +kernel) (by decide +kernel) (kx_s_aload_n (j := 0) G rfl (by decide +kernel) (kx_s_aload_n (j := 1) G rfl (by decide +kernel) (kx_s_gR G kf_0_320 (by decide +kernel) (kx_s_iconst (i := 1) G (by decide +kernel) (by decide +kernel) (kx_s_iconst (i := 0) G (by decide +kernel) (by decide +kernel) (kx_s_Vv (n := 54) G kx_good CS R9 (O9 _) kc_54 rfl kw_723 kw_725 kw_23 (r := kr_0) rfl (by decide) (by decide +kernel) (kx_s_goto (off := 8) (tgt := 39) G (by decide +kernel) rfl (kx_s_nm (JS 39))))))))))))))))))
set_option maxRecDepth 20000 in
theorem sk_74_39 (X : kx_X p l e R s m args below meth c s0 D cA 2 ι0 h0 rr hf prog_1_method_59_code "TaskDesk" C d (Option.none : Option Jvm.ClassFile.FieldType) "endWriting" J) : kx_Sn p l e R s m args below meth c s0 D cA 2 ι0 h0 rr hf 39 (bk_74_39 d C J) := by
  obtain ⟨G, CS, R9, O9, RT, NM, T0, FL, JS⟩ := X
  exact (kx_s_return G RT (by decide +kernel))
theorem sm_74 (X : kx_X p l e R s m args below meth c s0 D cA 2 ι0 h0 rr hf prog_1_method_59_code "TaskDesk" C d (Option.none : Option Jvm.ClassFile.FieldType) "endWriting" J) (b : Nat) : kx_Sn p l e R s m args below meth c s0 D cA 2 ι0 h0 rr hf b (bm_74 d C b J) := by
  unfold bm_74
  cases h0 : Nat.beq b 0 with
  | true => rw [Nat.eq_of_beq_eq_true h0]; exact sk_74_0 X
  | false =>
   cases h39 : Nat.beq b 39 with
   | true => rw [Nat.eq_of_beq_eq_true h39]; exact sk_74_39 X
   | false =>
    exact kx_s_no
/-! TaskDesk.letWriterIn(LTaskDesk$Gate;)V -/
def bk_75_0 (d : Nat) (C : kx_C) (J : Nat → kx_F) : kx_F := (kx_la 1 (kx_gR 3 1 5 (kx_gR 5 0 4 (kx_sa 2 (kx_la 2 (kx_nnul (kx_la 1 (kx_c (kx_i (-1)) (kx_pI 3 4 (kx_la 0 (kx_la 2 (kx_c (kx_l 0) (kx_c (kx_i 1) (kx_c (kx_i 0) (kx_Vv C 35 0 [6, 1, 0, 0] (kx_nm [] (J 33))))))))))) (kx_la 1 (kx_c (kx_i 0) (kx_pI 3 4 (kx_nm [] (J 33)))))))))))
def bk_75_33 (d : Nat) (C : kx_C) (J : Nat → kx_F) : kx_F := kx_rv
def bm_75 (d : Nat) (C : kx_C) (b : Nat) (J : Nat → kx_F) : kx_F := bif Nat.beq b 0 then bk_75_0 d C J else bif Nat.beq b 33 then bk_75_33 d C J else fun _ _ _ => none
set_option maxRecDepth 20000 in
theorem sk_75_0 (X : kx_X p l e R s m args below meth c s0 D cA 3 ι0 h0 rr hf prog_1_method_61_code "TaskDesk" C d (Option.none : Option Jvm.ClassFile.FieldType) "letWriterIn" J) : kx_Sn p l e R s m args below meth c s0 D cA 3 ι0 h0 rr hf 0 (bk_75_0 d C J) := by
  obtain ⟨G, CS, R9, O9, RT, NM, T0, FL, JS⟩ := X
  exact (kx_s_aload_n (j := 1) G rfl (by decide +kernel) (kx_s_gR G kf_0_312 (by decide +kernel) (kx_s_gR G kf_0_317 (by decide +kernel) (kx_s_astore_n (j := 2) G rfl (by decide +kernel) (by decide) (kx_s_aload_n (j := 2) G rfl (by decide +kernel) (kx_s_ifnonnull (off := 11) (tgt := 20) G (by decide +kernel) rfl (kx_s_aload_n (j := 1) G rfl (by decide +kernel) (kx_s_iconst (i := -1) G (by decide +kernel) (by decide +kernel) (kx_s_pI G kf_0_306 rfl (by decide +kernel) (by decide +kernel) (kx_s_aload_n (j := 0) G rfl (by decide +kernel) (kx_s_aload_n (j := 2) G rfl (by decide +kernel) (kx_s_lconst (i := 0) G (by decide +kernel) (by decide +kernel) (kx_s_iconst (i := 1) G (by decide +kernel) (by decide +kernel) (kx_s_iconst (i := 0) G (by decide +kernel) (by decide +kernel) (kx_s_Vv (n := 35) G kx_good CS R9 (O9 _) kc_35 rfl kw_583 kw_585 kw_14 (r := kr_0) rfl (by decide) (by decide +kernel) (kx_s_nm (JS 33))))))))))) (kx_s_aload_n (j := 1) G rfl (by decide +kernel) (kx_s_iconst (i := 0) G (by decide +kernel) (by decide +kernel) (kx_s_pI G kf_0_306 rfl (by decide +kernel) (by decide +kernel) (kx_s_goto (off := 16) (tgt := 33) G (by decide +kernel) rfl (kx_s_nm (JS 33))))))))))))
set_option maxRecDepth 20000 in
theorem sk_75_33 (X : kx_X p l e R s m args below meth c s0 D cA 3 ι0 h0 rr hf prog_1_method_61_code "TaskDesk" C d (Option.none : Option Jvm.ClassFile.FieldType) "letWriterIn" J) : kx_Sn p l e R s m args below meth c s0 D cA 3 ι0 h0 rr hf 33 (bk_75_33 d C J) := by
  obtain ⟨G, CS, R9, O9, RT, NM, T0, FL, JS⟩ := X
  exact (kx_s_return G RT (by decide +kernel))
theorem sm_75 (X : kx_X p l e R s m args below meth c s0 D cA 3 ι0 h0 rr hf prog_1_method_61_code "TaskDesk" C d (Option.none : Option Jvm.ClassFile.FieldType) "letWriterIn" J) (b : Nat) : kx_Sn p l e R s m args below meth c s0 D cA 3 ι0 h0 rr hf b (bm_75 d C b J) := by
  unfold bm_75
  cases h0 : Nat.beq b 0 with
  | true => rw [Nat.eq_of_beq_eq_true h0]; exact sk_75_0 X
  | false =>
   cases h33 : Nat.beq b 33 with
   | true => rw [Nat.eq_of_beq_eq_true h33]; exact sk_75_33 X
   | false =>
    exact kx_s_no
/-! TaskDesk.setGroup(LTaskDesk$Gate;I)V -/
def bk_76_0 (d : Nat) (C : kx_C) (J : Nat → kx_F) : kx_F := (kx_la 1 (kx_li 2 (kx_pI 3 4 (kx_li 2 (kx_ifne (kx_nm [] (J 19)) (kx_la 0 (kx_la 1 (kx_gR 3 1 5 (kx_c (kx_i 1) (kx_c (kx_i 0) (kx_Vv C 54 0 [7, 0, 0] (kx_nm [] (J 19)))))))))))))
def bk_76_19 (d : Nat) (C : kx_C) (J : Nat → kx_F) : kx_F := kx_rv
def bm_76 (d : Nat) (C : kx_C) (b : Nat) (J : Nat → kx_F) : kx_F := bif Nat.beq b 0 then bk_76_0 d C J else bif Nat.beq b 19 then bk_76_19 d C J else fun _ _ _ => none
set_option maxRecDepth 20000 in
theorem sk_76_0 (X : kx_X p l e R s m args below meth c s0 D cA 3 ι0 h0 rr hf prog_1_method_62_code "TaskDesk" C d (Option.none : Option Jvm.ClassFile.FieldType) "setGroup" J) : kx_Sn p l e R s m args below meth c s0 D cA 3 ι0 h0 rr hf 0 (bk_76_0 d C J) := by
  obtain ⟨G, CS, R9, O9, RT, NM, T0, FL, JS⟩ := X
  exact (kx_s_aload_n (j := 1) G rfl (by decide +kernel) (kx_s_iload_n (j := 2) G rfl (by decide +kernel) (kx_s_pI G kf_0_306 rfl (by decide +kernel) (by decide +kernel) (kx_s_iload_n (j := 2) G rfl (by decide +kernel) (kx_s_ifne (off := 13) (tgt := 19) G (by decide +kernel) rfl (kx_s_nm (JS 19)) (kx_s_aload_n (j := 0) G rfl (by decide +kernel) (kx_s_aload_n (j := 1) G rfl (by decide +kernel) (kx_s_gR G kf_0_312 (by decide +kernel) (kx_s_iconst (i := 1) G (by decide +kernel) (by decide +kernel) (kx_s_iconst (i := 0) G (by decide +kernel) (by decide +kernel) (kx_s_Vv (n := 54) G kx_good CS R9 (O9 _) kc_54 rfl kw_723 kw_725 kw_23 (r := kr_0) rfl (by decide) (by decide +kernel) (kx_s_nm (JS 19)))))))))))))
set_option maxRecDepth 20000 in
theorem sk_76_19 (X : kx_X p l e R s m args below meth c s0 D cA 3 ι0 h0 rr hf prog_1_method_62_code "TaskDesk" C d (Option.none : Option Jvm.ClassFile.FieldType) "setGroup" J) : kx_Sn p l e R s m args below meth c s0 D cA 3 ι0 h0 rr hf 19 (bk_76_19 d C J) := by
  obtain ⟨G, CS, R9, O9, RT, NM, T0, FL, JS⟩ := X
  exact (kx_s_return G RT (by decide +kernel))
theorem sm_76 (X : kx_X p l e R s m args below meth c s0 D cA 3 ι0 h0 rr hf prog_1_method_62_code "TaskDesk" C d (Option.none : Option Jvm.ClassFile.FieldType) "setGroup" J) (b : Nat) : kx_Sn p l e R s m args below meth c s0 D cA 3 ι0 h0 rr hf b (bm_76 d C b J) := by
  unfold bm_76
  cases h0 : Nat.beq b 0 with
  | true => rw [Nat.eq_of_beq_eq_true h0]; exact sk_76_0 X
  | false =>
   cases h19 : Nat.beq b 19 with
   | true => rw [Nat.eq_of_beq_eq_true h19]; exact sk_76_19 X
   | false =>
    exact kx_s_no
/-! TaskDesk.wakeFirstOfSignal(LTaskDesk$Gate;)V -/
def bk_77_0 (d : Nat) (C : kx_C) (J : Nat → kx_F) : kx_F := (kx_la 1 (kx_gR 3 1 5 (kx_gR 5 0 4 (kx_sa 2 (kx_la 1 (kx_gR 3 5 3 (kx_sa 3 (kx_la 2 (kx_nul (kx_nm [] (J 21)) (kx_la 3 (kx_nnul (kx_la 3 (kx_gI 3 4 (kx_ifne (kx_la 2 (kx_gR 4 0 6 (kx_nul (kx_nm [] (J 73)) (kx_la 2 (kx_Vv C 37 4 [] (kx_la 2 (kx_gR 4 0 6 (kx_la 3 (kx_gR 3 1 5 (kx_c (kx_i 6) (kx_la 3 (kx_gI 3 0 (kx_Vv C 27 6 [7, 0, 0] (kx_nm [] (J 73))))))))))))))) (kx_la 3 (kx_c (kx_i 1) (kx_pI 3 4 (kx_la 0 (kx_la 2 (kx_c (kx_l 0) (kx_c (kx_i 1) (kx_c (kx_i 0) (kx_Vv C 35 0 [6, 1, 0, 0] (kx_nm [] (J 73)))))))))))))) (kx_nm [] (J 21)))))))))))))
def bk_77_21 (d : Nat) (C : kx_C) (J : Nat → kx_F) : kx_F := kx_rv
def bk_77_73 (d : Nat) (C : kx_C) (J : Nat → kx_F) : kx_F := kx_rv
def bm_77 (d : Nat) (C : kx_C) (b : Nat) (J : Nat → kx_F) : kx_F := bif Nat.beq b 0 then bk_77_0 d C J else bif Nat.beq b 21 then bk_77_21 d C J else bif Nat.beq b 73 then bk_77_73 d C J else fun _ _ _ => none
set_option maxRecDepth 20000 in
theorem sk_77_0 (X : kx_X p l e R s m args below meth c s0 D cA 4 ι0 h0 rr hf prog_1_method_64_code "TaskDesk" C d (Option.none : Option Jvm.ClassFile.FieldType) "wakeFirstOfSignal" J) : kx_Sn p l e R s m args below meth c s0 D cA 4 ι0 h0 rr hf 0 (bk_77_0 d C J) := by
  obtain ⟨G, CS, R9, O9, RT, NM, T0, FL, JS⟩ := X
  exact (kx_s_aload_n (j := 1) G rfl (by decide +kernel) (kx_s_gR G kf_0_312 (by decide +kernel) (kx_s_gR G kf_0_317 (by decide +kernel) (kx_s_astore_n (j := 2) G rfl (by decide +kernel) (by decide) (kx_s_aload_n (j := 1) G rfl (by decide +kernel) (kx_s_gR G kf_0_291 (by decide +kernel) (kx_s_astore_n (j := 3) G rfl (by decide +kernel) (by decide) (kx_s_aload_n (j := 2) G rfl (by decide +kernel) (kx_s_ifnull (off := 7) (tgt := 21) G (by decide +kernel) rfl (kx_s_nm (JS 21)) (kx_s_aload_n (j := 3) G rfl (by decide +kernel) (kx_s_ifnonnull (off := 4) (tgt := 22) G (by decide +kernel) rfl (kx_s_aload_n (j := 3) G rfl (by decide +kernel) (kx_s_gI G kf_0_306 (by decide +kernel) (kx_s_ifne (off := 19) (tgt := 45) G (by decide +kernel) rfl (kx_s_aload_n (j := 2) G rfl (by decide +kernel) (kx_s_gR G kf_0_60 (by decide +kernel) (kx_s_ifnull (off := 24) (tgt := 73) G (by decide +kernel) rfl (kx_s_nm (JS 73)) (kx_s_aload_n (j := 2) G rfl (by decide +kernel) (kx_s_Vv (n := 37) G kx_good CS R9 (O9 _) kc_37 rfl kw_592 kw_593 kw_594 (r := kr_4) rfl (by decide) (by decide +kernel) (kx_s_aload_n (j := 2) G rfl (by decide +kernel) (kx_s_gR G kf_0_60 (by decide +kernel) (kx_s_aload_n (j := 3) G rfl (by decide +kernel) (kx_s_gR G kf_0_312 (by decide +kernel) (kx_s_bipush (i := 6) G (by decide +kernel) (by decide +kernel) (kx_s_aload_n (j := 3) G rfl (by decide +kernel) (kx_s_gI G kf_0_295 (by decide +kernel) (kx_s_Vv (n := 27) G kx_good CS R9 (O9 _) kc_27 rfl kw_548 kw_549 kw_550 (r := kr_6) rfl (by decide) (by decide +kernel) (kx_s_nm (JS 73))))))))))))))) (kx_s_aload_n (j := 3) G rfl (by decide +kernel) (kx_s_iconst (i := 1) G (by decide +kernel) (by decide +kernel) (kx_s_pI G kf_0_306 rfl (by decide +kernel) (by decide +kernel) (kx_s_aload_n (j := 0) G rfl (by decide +kernel) (kx_s_aload_n (j := 2) G rfl (by decide +kernel) (kx_s_lconst (i := 0) G (by decide +kernel) (by decide +kernel) (kx_s_iconst (i := 1) G (by decide +kernel) (by decide +kernel) (kx_s_iconst (i := 0) G (by decide +kernel) (by decide +kernel) (kx_s_Vv (n := 35) G kx_good CS R9 (O9 _) kc_35 rfl kw_583 kw_585 kw_14 (r := kr_0) rfl (by decide) (by decide +kernel) (kx_s_goto (off := 31) (tgt := 73) G (by decide +kernel) rfl (kx_s_nm (JS 73))))))))))))))) (kx_s_nm (JS 21)))))))))))))
set_option maxRecDepth 20000 in
theorem sk_77_21 (X : kx_X p l e R s m args below meth c s0 D cA 4 ι0 h0 rr hf prog_1_method_64_code "TaskDesk" C d (Option.none : Option Jvm.ClassFile.FieldType) "wakeFirstOfSignal" J) : kx_Sn p l e R s m args below meth c s0 D cA 4 ι0 h0 rr hf 21 (bk_77_21 d C J) := by
  obtain ⟨G, CS, R9, O9, RT, NM, T0, FL, JS⟩ := X
  exact (kx_s_return G RT (by decide +kernel))
set_option maxRecDepth 20000 in
theorem sk_77_73 (X : kx_X p l e R s m args below meth c s0 D cA 4 ι0 h0 rr hf prog_1_method_64_code "TaskDesk" C d (Option.none : Option Jvm.ClassFile.FieldType) "wakeFirstOfSignal" J) : kx_Sn p l e R s m args below meth c s0 D cA 4 ι0 h0 rr hf 73 (bk_77_73 d C J) := by
  obtain ⟨G, CS, R9, O9, RT, NM, T0, FL, JS⟩ := X
  exact (kx_s_return G RT (by decide +kernel))
theorem sm_77 (X : kx_X p l e R s m args below meth c s0 D cA 4 ι0 h0 rr hf prog_1_method_64_code "TaskDesk" C d (Option.none : Option Jvm.ClassFile.FieldType) "wakeFirstOfSignal" J) (b : Nat) : kx_Sn p l e R s m args below meth c s0 D cA 4 ι0 h0 rr hf b (bm_77 d C b J) := by
  unfold bm_77
  cases h0 : Nat.beq b 0 with
  | true => rw [Nat.eq_of_beq_eq_true h0]; exact sk_77_0 X
  | false =>
   cases h21 : Nat.beq b 21 with
   | true => rw [Nat.eq_of_beq_eq_true h21]; exact sk_77_21 X
   | false =>
    cases h73 : Nat.beq b 73 with
    | true => rw [Nat.eq_of_beq_eq_true h73]; exact sk_77_73 X
    | false =>
     exact kx_s_no
/-! TaskDesk.change(II)V -/
def bk_78_0 (d : Nat) (C : kx_C) (J : Nat → kx_F) : kx_F := (kx_la 0 (kx_li 1 (kx_Vr C 66 0 [0] 3 (kx_sa 3 (kx_la 3 (kx_gI 3 3 (kx_ifeq (kx_nm [] (J 21)) (kx_la 3 (kx_gI 3 3 (kx_c (kx_i 4) (kx_cne (kx_la 0 (kx_Vr C 24 0 [] 6 (kx_pop (kx_la 3 (kx_li 2 (kx_Vi C 79 3 [0] (kx_ifne (kx_la 3 (kx_gI 3 3 (kx_c (kx_i 1) (kx_cne (kx_la 3 (kx_gI 3 3 (kx_c (kx_i 2) (kx_cne (kx_la 0 (kx_la 3 (kx_Vv C 81 0 [5] (kx_nm [] (J 99))))) (kx_la 0 (kx_la 3 (kx_la 3 (kx_gI 3 4 (kx_li 2 (kx_ii (fun x y => x + y) (kx_Vv C 76 0 [5, 0] (kx_nm [] (J 99))))))))))))) (kx_la 0 (kx_la 3 (kx_Vv C 80 0 [5] (kx_nm [] (J 99))))))))) (kx_thd kx_cc kx_cs d 2)))))))) (kx_nm [] (J 21)))))))))))))
def bk_78_21 (d : Nat) (C : kx_C) (J : Nat → kx_F) : kx_F := (kx_thd kx_cc kx_cs d 1)
def bk_78_99 (d : Nat) (C : kx_C) (J : Nat → kx_F) : kx_F := kx_rv
def bm_78 (d : Nat) (C : kx_C) (b : Nat) (J : Nat → kx_F) : kx_F := bif Nat.beq b 0 then bk_78_0 d C J else bif Nat.beq b 21 then bk_78_21 d C J else bif Nat.beq b 99 then bk_78_99 d C J else fun _ _ _ => none
set_option maxRecDepth 20000 in
theorem sk_78_0 (X : kx_X p l e R s m args below meth c s0 D cA 4 ι0 h0 rr hf prog_1_method_18_code "TaskDesk" C d (Option.none : Option Jvm.ClassFile.FieldType) "change" J) : kx_Sn p l e R s m args below meth c s0 D cA 4 ι0 h0 rr hf 0 (bk_78_0 d C J) := by
  obtain ⟨G, CS, R9, O9, RT, NM, T0, FL, JS⟩ := X
  exact (kx_s_aload_n (j := 0) G rfl (by decide +kernel) (kx_s_iload_n (j := 1) G rfl (by decide +kernel) (kx_s_Vr (n := 66) G kx_good CS R9 (O9 _) kc_66 rfl kw_788 kw_790 kw_30 (r := kr_0) rfl (by decide) (by decide +kernel) (kx_s_astore_n (j := 3) G rfl (by decide +kernel) (by decide) (kx_s_aload_n (j := 3) G rfl (by decide +kernel) (kx_s_gI G kf_0_281 (by decide +kernel) (kx_s_ifeq (off := 11) (tgt := 21) G (by decide +kernel) rfl (kx_s_nm (JS 21)) (kx_s_aload_n (j := 3) G rfl (by decide +kernel) (kx_s_gI G kf_0_281 (by decide +kernel) (kx_s_iconst (i := 4) G (by decide +kernel) (by decide +kernel) (kx_s_cne (off := 14) (tgt := 32) G (by decide +kernel) rfl (kx_s_aload_n (j := 0) G rfl (by decide +kernel) (kx_s_Vr (n := 24) G kx_good CS R9 (O9 _) kc_24 rfl kw_466 kw_468 kw_6 (r := kr_0) rfl (by decide) (by decide +kernel) (kx_s_pop G (by decide +kernel) (kx_s_aload_n (j := 3) G rfl (by decide +kernel) (kx_s_iload_n (j := 2) G rfl (by decide +kernel) (kx_s_Vi (n := 79) G kx_good CS R9 (O9 _) kc_79 rfl kw_854 kw_855 kw_856 (r := kr_3) rfl (by decide) (by decide +kernel) (kx_s_ifne (off := 14) (tgt := 56) G (by decide +kernel) rfl (kx_s_aload_n (j := 3) G rfl (by decide +kernel) (kx_s_gI G kf_0_281 (by decide +kernel) (kx_s_iconst (i := 1) G (by decide +kernel) (by decide +kernel) (kx_s_cne (off := 11) (tgt := 72) G (by decide +kernel) rfl (kx_s_aload_n (j := 3) G rfl (by decide +kernel) (kx_s_gI G kf_0_281 (by decide +kernel) (kx_s_iconst (i := 2) G (by decide +kernel) (by decide +kernel) (kx_s_cne (off := 17) (tgt := 94) G (by decide +kernel) rfl (kx_s_aload_n (j := 0) G rfl (by decide +kernel) (kx_s_aload_n (j := 3) G rfl (by decide +kernel) (kx_s_Vv (n := 81) G kx_good CS R9 (O9 _) kc_81 rfl kw_864 kw_866 kw_38 (r := kr_0) rfl (by decide) (by decide +kernel) (kx_s_nm (JS 99))))) (kx_s_aload_n (j := 0) G rfl (by decide +kernel) (kx_s_aload_n (j := 3) G rfl (by decide +kernel) (kx_s_aload_n (j := 3) G rfl (by decide +kernel) (kx_s_gI G kf_0_306 (by decide +kernel) (kx_s_iload_n (j := 2) G rfl (by decide +kernel) (kx_s_iadd G (by decide +kernel) (kx_s_Vv (n := 76) G kx_good CS R9 (O9 _) kc_76 rfl kw_838 kw_840 kw_35 (r := kr_0) rfl (by decide) (by decide +kernel) (kx_s_goto (off := 8) (tgt := 99) G (by decide +kernel) rfl (kx_s_nm (JS 99)))))))))))))) (kx_s_aload_n (j := 0) G rfl (by decide +kernel) (kx_s_aload_n (j := 3) G rfl (by decide +kernel) (kx_s_Vv (n := 80) G kx_good CS R9 (O9 _) kc_80 rfl kw_860 kw_862 kw_37 (r := kr_0) rfl (by decide) (by decide +kernel) (kx_s_goto (off := 30) (tgt := 99) G (by decide +kernel) rfl (kx_s_nm (JS 99)))))))))) (kx_s_thd (ic := 199) (ex := 2) (i9 := 195) (i8 := 347) (w := 3) G T0 FL R9 (by decide +kernel) (by decide +kernel) kw_684 kw_685 kw_95 kw_859 (by decide +kernel) (by decide +kernel) (Or.inr ⟨rfl, by decide +kernel⟩) (by decide +kernel) (by decide +kernel) O9)))))))) (kx_s_nm (JS 21)))))))))))))
set_option maxRecDepth 20000 in
theorem sk_78_21 (X : kx_X p l e R s m args below meth c s0 D cA 4 ι0 h0 rr hf prog_1_method_18_code "TaskDesk" C d (Option.none : Option Jvm.ClassFile.FieldType) "change" J) : kx_Sn p l e R s m args below meth c s0 D cA 4 ι0 h0 rr hf 21 (bk_78_21 d C J) := by
  obtain ⟨G, CS, R9, O9, RT, NM, T0, FL, JS⟩ := X
  exact (kx_s_thd (ic := 130) (ex := 1) (i9 := 126) (i8 := 341) (w := 3) G T0 FL R9 (by decide +kernel) (by decide +kernel) kw_625 kw_626 kw_94 kw_853 (by decide +kernel) (by decide +kernel) (Or.inr ⟨rfl, by decide +kernel⟩) (by decide +kernel) (by decide +kernel) O9)
set_option maxRecDepth 20000 in
theorem sk_78_99 (X : kx_X p l e R s m args below meth c s0 D cA 4 ι0 h0 rr hf prog_1_method_18_code "TaskDesk" C d (Option.none : Option Jvm.ClassFile.FieldType) "change" J) : kx_Sn p l e R s m args below meth c s0 D cA 4 ι0 h0 rr hf 99 (bk_78_99 d C J) := by
  obtain ⟨G, CS, R9, O9, RT, NM, T0, FL, JS⟩ := X
  exact (kx_s_return G RT (by decide +kernel))
theorem sm_78 (X : kx_X p l e R s m args below meth c s0 D cA 4 ι0 h0 rr hf prog_1_method_18_code "TaskDesk" C d (Option.none : Option Jvm.ClassFile.FieldType) "change" J) (b : Nat) : kx_Sn p l e R s m args below meth c s0 D cA 4 ι0 h0 rr hf b (bm_78 d C b J) := by
  unfold bm_78
  cases h0 : Nat.beq b 0 with
  | true => rw [Nat.eq_of_beq_eq_true h0]; exact sk_78_0 X
  | false =>
   cases h21 : Nat.beq b 21 with
   | true => rw [Nat.eq_of_beq_eq_true h21]; exact sk_78_21 X
   | false =>
    cases h99 : Nat.beq b 99 with
    | true => rw [Nat.eq_of_beq_eq_true h99]; exact sk_78_99 X
    | false =>
     exact kx_s_no
/-! TaskDesk.endReading(LTaskDesk$Gate;)V -/
def bk_80_0 (d : Nat) (C : kx_C) (J : Nat → kx_F) : kx_F := (kx_la 1 (kx_dup (kx_gI 3 4 (kx_c (kx_i 1) (kx_ii (fun x y => x - y) (kx_pI 3 4 (kx_la 1 (kx_gI 3 4 (kx_ifne (kx_nm [] (J 22)) (kx_la 0 (kx_la 1 (kx_Vv C 75 0 [5] (kx_nm [] (J 22))))))))))))))
def bk_80_22 (d : Nat) (C : kx_C) (J : Nat → kx_F) : kx_F := kx_rv
def bm_80 (d : Nat) (C : kx_C) (b : Nat) (J : Nat → kx_F) : kx_F := bif Nat.beq b 0 then bk_80_0 d C J else bif Nat.beq b 22 then bk_80_22 d C J else fun _ _ _ => none
set_option maxRecDepth 20000 in
theorem sk_80_0 (X : kx_X p l e R s m args below meth c s0 D cA 2 ι0 h0 rr hf prog_1_method_60_code "TaskDesk" C d (Option.none : Option Jvm.ClassFile.FieldType) "endReading" J) : kx_Sn p l e R s m args below meth c s0 D cA 2 ι0 h0 rr hf 0 (bk_80_0 d C J) := by
  obtain ⟨G, CS, R9, O9, RT, NM, T0, FL, JS⟩ := X
  exact (kx_s_aload_n (j := 1) G rfl (by decide +kernel) (kx_s_dup G (by decide +kernel) (kx_s_gI G kf_0_306 (by decide +kernel) (kx_s_iconst (i := 1) G (by decide +kernel) (by decide +kernel) (kx_s_isub G (by decide +kernel) (kx_s_pI G kf_0_306 rfl (by decide +kernel) (by decide +kernel) (kx_s_aload_n (j := 1) G rfl (by decide +kernel) (kx_s_gI G kf_0_306 (by decide +kernel) (kx_s_ifne (off := 8) (tgt := 22) G (by decide +kernel) rfl (kx_s_nm (JS 22)) (kx_s_aload_n (j := 0) G rfl (by decide +kernel) (kx_s_aload_n (j := 1) G rfl (by decide +kernel) (kx_s_Vv (n := 75) G kx_good CS R9 (O9 _) kc_75 rfl kw_834 kw_836 kw_34 (r := kr_0) rfl (by decide) (by decide +kernel) (kx_s_nm (JS 22))))))))))))))
set_option maxRecDepth 20000 in
theorem sk_80_22 (X : kx_X p l e R s m args below meth c s0 D cA 2 ι0 h0 rr hf prog_1_method_60_code "TaskDesk" C d (Option.none : Option Jvm.ClassFile.FieldType) "endReading" J) : kx_Sn p l e R s m args below meth c s0 D cA 2 ι0 h0 rr hf 22 (bk_80_22 d C J) := by
  obtain ⟨G, CS, R9, O9, RT, NM, T0, FL, JS⟩ := X
  exact (kx_s_return G RT (by decide +kernel))
theorem sm_80 (X : kx_X p l e R s m args below meth c s0 D cA 2 ι0 h0 rr hf prog_1_method_60_code "TaskDesk" C d (Option.none : Option Jvm.ClassFile.FieldType) "endReading" J) (b : Nat) : kx_Sn p l e R s m args below meth c s0 D cA 2 ι0 h0 rr hf b (bm_80 d C b J) := by
  unfold bm_80
  cases h0 : Nat.beq b 0 with
  | true => rw [Nat.eq_of_beq_eq_true h0]; exact sk_80_0 X
  | false =>
   cases h22 : Nat.beq b 22 with
   | true => rw [Nat.eq_of_beq_eq_true h22]; exact sk_80_22 X
   | false =>
    exact kx_s_no
/-! TaskDesk.wakeAllOfSignal(LTaskDesk$Gate;)V -/
def bk_81_0 (d : Nat) (C : kx_C) (J : Nat → kx_F) : kx_F := (kx_la 1 (kx_gR 3 1 5 (kx_gI 5 2 (kx_si 2 (kx_nm [0, 1, 2] (J 8))))))
def bk_81_8 (d : Nat) (C : kx_C) (J : Nat → kx_F) : kx_F := (kx_li 2 (kx_ifle kx_rv (kx_la 0 (kx_la 1 (kx_Vv C 77 0 [5] (kx_inc 2 (-1) (kx_nm [0, 1, 2] (J 8))))))))
def bm_81 (d : Nat) (C : kx_C) (b : Nat) (J : Nat → kx_F) : kx_F := bif Nat.beq b 0 then bk_81_0 d C J else bif Nat.beq b 8 then bk_81_8 d C J else fun _ _ _ => none
set_option maxRecDepth 20000 in
theorem sk_81_0 (X : kx_X p l e R s m args below meth c s0 D cA 3 ι0 h0 rr hf prog_1_method_63_code "TaskDesk" C d (Option.none : Option Jvm.ClassFile.FieldType) "wakeAllOfSignal" J) : kx_Sn p l e R s m args below meth c s0 D cA 3 ι0 h0 rr hf 0 (bk_81_0 d C J) := by
  obtain ⟨G, CS, R9, O9, RT, NM, T0, FL, JS⟩ := X
  exact (kx_s_aload_n (j := 1) G rfl (by decide +kernel) (kx_s_gR G kf_0_312 (by decide +kernel) (kx_s_gI G kf_0_383 (by decide +kernel) (kx_s_istore_n (j := 2) G rfl (by decide +kernel) (by decide) (kx_s_nm (JS 8))))))
set_option maxRecDepth 20000 in
theorem sk_81_8 (X : kx_X p l e R s m args below meth c s0 D cA 3 ι0 h0 rr hf prog_1_method_63_code "TaskDesk" C d (Option.none : Option Jvm.ClassFile.FieldType) "wakeAllOfSignal" J) : kx_Sn p l e R s m args below meth c s0 D cA 3 ι0 h0 rr hf 8 (bk_81_8 d C J) := by
  obtain ⟨G, CS, R9, O9, RT, NM, T0, FL, JS⟩ := X
  exact (kx_s_iload_n (j := 2) G rfl (by decide +kernel) (kx_s_ifle (off := 14) (tgt := 23) G (by decide +kernel) rfl (kx_s_return G RT (by decide +kernel)) (kx_s_aload_n (j := 0) G rfl (by decide +kernel) (kx_s_aload_n (j := 1) G rfl (by decide +kernel) (kx_s_Vv (n := 77) G kx_good CS R9 (O9 _) kc_77 rfl kw_842 kw_844 kw_36 (r := kr_0) rfl (by decide) (by decide +kernel) (kx_s_iinc (n := -1) G (by decide +kernel) (by decide +kernel) (by decide) (kx_s_goto (off := -12) (tgt := 8) G (by decide +kernel) rfl (kx_s_nm (JS 8)))))))))
theorem sm_81 (X : kx_X p l e R s m args below meth c s0 D cA 3 ι0 h0 rr hf prog_1_method_63_code "TaskDesk" C d (Option.none : Option Jvm.ClassFile.FieldType) "wakeAllOfSignal" J) (b : Nat) : kx_Sn p l e R s m args below meth c s0 D cA 3 ι0 h0 rr hf b (bm_81 d C b J) := by
  unfold bm_81
  cases h0 : Nat.beq b 0 with
  | true => rw [Nat.eq_of_beq_eq_true h0]; exact sk_81_0 X
  | false =>
   cases h8 : Nat.beq b 8 with
   | true => rw [Nat.eq_of_beq_eq_true h8]; exact sk_81_8 X
   | false =>
    exact kx_s_no
/-! TaskDesk.task(II)I -/
def bk_82_0 (d : Nat) (C : kx_C) (J : Nat → kx_F) : kx_F := (kx_la 0 (kx_li 1 (kx_Vr C 83 0 [0] 6 (kx_sa 3 (kx_li 2 (kx_sw [(0, (kx_la 3 (kx_gI 6 3 kx_ri))), (1, (kx_la 3 (kx_gI 6 4 kx_ri))), (2, (kx_la 3 (kx_gI 6 8 kx_ri))), (3, (kx_la 3 (kx_gB 6 7 (kx_ifeq (kx_c (kx_i 0) (kx_nm [] (J 71))) (kx_c (kx_i 1) (kx_nm [] (J 71))))))), (4, (kx_la 3 (kx_gB 6 9 (kx_ifeq (kx_c (kx_i 0) (kx_nm [] (J 84))) (kx_c (kx_i 1) (kx_nm [] (J 84))))))), (5, (kx_la 3 (kx_gI 6 3 (kx_c (kx_i 1) (kx_cne (kx_c (kx_i (-1)) (kx_nm [] (J 105))) (kx_la 0 (kx_la 3 (kx_gR 6 1 4 (kx_Vi C 84 0 [6] (kx_nm [] (J 105)))))))))))] (kx_thd kx_cc kx_cs d 3)))))))
def bk_82_71 (d : Nat) (C : kx_C) (J : Nat → kx_F) : kx_F := kx_ri
def bk_82_84 (d : Nat) (C : kx_C) (J : Nat → kx_F) : kx_F := kx_ri
def bk_82_105 (d : Nat) (C : kx_C) (J : Nat → kx_F) : kx_F := kx_ri
def bm_82 (d : Nat) (C : kx_C) (b : Nat) (J : Nat → kx_F) : kx_F := bif Nat.beq b 0 then bk_82_0 d C J else bif Nat.beq b 71 then bk_82_71 d C J else bif Nat.beq b 84 then bk_82_84 d C J else bif Nat.beq b 105 then bk_82_105 d C J else fun _ _ _ => none
set_option maxRecDepth 20000 in
theorem sk_82_0 (X : kx_X p l e R s m args below meth c s0 D cA 4 ι0 h0 rr hf prog_1_method_20_code "TaskDesk" C d (Option.some Jvm.ClassFile.FieldType.int) "task" J) : kx_Sn p l e R s m args below meth c s0 D cA 4 ι0 h0 rr hf 0 (bk_82_0 d C J) := by
  obtain ⟨G, CS, R9, O9, RT, NM, T0, FL, JS⟩ := X
  exact (kx_s_aload_n (j := 0) G rfl (by decide +kernel) (kx_s_iload_n (j := 1) G rfl (by decide +kernel) (kx_s_Vr (n := 83) G kx_good CS R9 (O9 _) kc_83 rfl kw_876 kw_878 kw_39 (r := kr_0) rfl (by decide) (by decide +kernel) (kx_s_astore_n (j := 3) G rfl (by decide +kernel) (by decide) (kx_s_iload_n (j := 2) G rfl (by decide +kernel) (kx_s_tsw (dflt := 99) (lo := 0) (hi := 5) (offs := #[37, 42, 47, 52, 65, 78]) (len := 37) G (by decide +kernel) (tgtD := 106) rfl (kx_s_thd (ic := 377) (ex := 3) (i9 := 373) (i8 := 375) (w := 3) G T0 FL R9 (by decide +kernel) (by decide +kernel) kw_880 kw_881 kw_96 kw_900 (by decide +kernel) (by decide +kernel) (Or.inr ⟨rfl, by decide +kernel⟩) (by decide +kernel) (by decide +kernel) O9) (List.forall_mem_cons.mpr ⟨kx_tq (37) 44 (by decide +kernel) (by decide +kernel) (by decide +kernel) rfl (kx_s_aload_n (j := 3) G rfl (by decide +kernel) (kx_s_gI G kf_0_79 (by decide +kernel) (kx_s_ireturn G RT (by decide +kernel)))), List.forall_mem_cons.mpr ⟨kx_tq (42) 49 (by decide +kernel) (by decide +kernel) (by decide +kernel) rfl (kx_s_aload_n (j := 3) G rfl (by decide +kernel) (kx_s_gI G kf_0_359 (by decide +kernel) (kx_s_ireturn G RT (by decide +kernel)))), List.forall_mem_cons.mpr ⟨kx_tq (47) 54 (by decide +kernel) (by decide +kernel) (by decide +kernel) rfl (kx_s_aload_n (j := 3) G rfl (by decide +kernel) (kx_s_gI G kf_0_362 (by decide +kernel) (kx_s_ireturn G RT (by decide +kernel)))), List.forall_mem_cons.mpr ⟨kx_tq (52) 59 (by decide +kernel) (by decide +kernel) (by decide +kernel) rfl (kx_s_aload_n (j := 3) G rfl (by decide +kernel) (kx_s_gB G kf_0_363 (by decide +kernel) (kx_s_ifeq (off := 7) (tgt := 70) G (by decide +kernel) rfl (kx_s_iconst (i := 0) G (by decide +kernel) (by decide +kernel) (kx_s_nm (JS 71))) (kx_s_iconst (i := 1) G (by decide +kernel) (by decide +kernel) (kx_s_goto (off := 4) (tgt := 71) G (by decide +kernel) rfl (kx_s_nm (JS 71))))))), List.forall_mem_cons.mpr ⟨kx_tq (65) 72 (by decide +kernel) (by decide +kernel) (by decide +kernel) rfl (kx_s_aload_n (j := 3) G rfl (by decide +kernel) (kx_s_gB G kf_0_366 (by decide +kernel) (kx_s_ifeq (off := 7) (tgt := 83) G (by decide +kernel) rfl (kx_s_iconst (i := 0) G (by decide +kernel) (by decide +kernel) (kx_s_nm (JS 84))) (kx_s_iconst (i := 1) G (by decide +kernel) (by decide +kernel) (kx_s_goto (off := 4) (tgt := 84) G (by decide +kernel) rfl (kx_s_nm (JS 84))))))), List.forall_mem_cons.mpr ⟨kx_tq (78) 85 (by decide +kernel) (by decide +kernel) (by decide +kernel) rfl (kx_s_aload_n (j := 3) G rfl (by decide +kernel) (kx_s_gI G kf_0_79 (by decide +kernel) (kx_s_iconst (i := 1) G (by decide +kernel) (by decide +kernel) (kx_s_cne (off := 14) (tgt := 104) G (by decide +kernel) rfl (kx_s_iconst (i := -1) G (by decide +kernel) (by decide +kernel) (kx_s_nm (JS 105))) (kx_s_aload_n (j := 0) G rfl (by decide +kernel) (kx_s_aload_n (j := 3) G rfl (by decide +kernel) (kx_s_gR G kf_0_211 (by decide +kernel) (kx_s_Vi (n := 84) G kx_good CS R9 (O9 _) kc_84 rfl kw_896 kw_898 kw_40 (r := kr_0) rfl (by decide) (by decide +kernel) (kx_s_goto (off := 4) (tgt := 105) G (by decide +kernel) rfl (kx_s_nm (JS 105))))))))))), List.forall_mem_nil _⟩⟩⟩⟩⟩⟩) (kx_cov 6 (by decide) (vs := [0, 1, 2, 3, 4, 5]) rfl (by decide +kernel))))))))
set_option maxRecDepth 20000 in
theorem sk_82_71 (X : kx_X p l e R s m args below meth c s0 D cA 4 ι0 h0 rr hf prog_1_method_20_code "TaskDesk" C d (Option.some Jvm.ClassFile.FieldType.int) "task" J) : kx_Sn p l e R s m args below meth c s0 D cA 4 ι0 h0 rr hf 71 (bk_82_71 d C J) := by
  obtain ⟨G, CS, R9, O9, RT, NM, T0, FL, JS⟩ := X
  exact (kx_s_ireturn G RT (by decide +kernel))
set_option maxRecDepth 20000 in
theorem sk_82_84 (X : kx_X p l e R s m args below meth c s0 D cA 4 ι0 h0 rr hf prog_1_method_20_code "TaskDesk" C d (Option.some Jvm.ClassFile.FieldType.int) "task" J) : kx_Sn p l e R s m args below meth c s0 D cA 4 ι0 h0 rr hf 84 (bk_82_84 d C J) := by
  obtain ⟨G, CS, R9, O9, RT, NM, T0, FL, JS⟩ := X
  exact (kx_s_ireturn G RT (by decide +kernel))
set_option maxRecDepth 20000 in
theorem sk_82_105 (X : kx_X p l e R s m args below meth c s0 D cA 4 ι0 h0 rr hf prog_1_method_20_code "TaskDesk" C d (Option.some Jvm.ClassFile.FieldType.int) "task" J) : kx_Sn p l e R s m args below meth c s0 D cA 4 ι0 h0 rr hf 105 (bk_82_105 d C J) := by
  obtain ⟨G, CS, R9, O9, RT, NM, T0, FL, JS⟩ := X
  exact (kx_s_ireturn G RT (by decide +kernel))
theorem sm_82 (X : kx_X p l e R s m args below meth c s0 D cA 4 ι0 h0 rr hf prog_1_method_20_code "TaskDesk" C d (Option.some Jvm.ClassFile.FieldType.int) "task" J) (b : Nat) : kx_Sn p l e R s m args below meth c s0 D cA 4 ι0 h0 rr hf b (bm_82 d C b J) := by
  unfold bm_82
  cases h0 : Nat.beq b 0 with
  | true => rw [Nat.eq_of_beq_eq_true h0]; exact sk_82_0 X
  | false =>
   cases h71 : Nat.beq b 71 with
   | true => rw [Nat.eq_of_beq_eq_true h71]; exact sk_82_71 X
   | false =>
    cases h84 : Nat.beq b 84 with
    | true => rw [Nat.eq_of_beq_eq_true h84]; exact sk_82_84 X
    | false =>
     cases h105 : Nat.beq b 105 with
     | true => rw [Nat.eq_of_beq_eq_true h105]; exact sk_82_105 X
     | false =>
      exact kx_s_no
/-! TaskDesk.mustBeTask(I)LTaskDesk$Task; -/
def bk_83_0 (d : Nat) (C : kx_C) (J : Nat → kx_F) : kx_F := (kx_li 1 (kx_iflt (kx_nm [] (J 23)) (kx_li 1 (kx_c (kx_i 256) (kx_cge (kx_nm [] (J 23)) (kx_la 0 (kx_gR 0 0 102 (kx_li 1 (kx_aR 102 6 (kx_gB 6 2 (kx_ifne (kx_la 0 (kx_gR 0 0 102 (kx_li 1 (kx_aR 102 6 kx_rr)))) (kx_nm [] (J 23)))))))))))))
def bk_83_23 (d : Nat) (C : kx_C) (J : Nat → kx_F) : kx_F := (kx_thd kx_cc kx_cs d 3)
def bm_83 (d : Nat) (C : kx_C) (b : Nat) (J : Nat → kx_F) : kx_F := bif Nat.beq b 0 then bk_83_0 d C J else bif Nat.beq b 23 then bk_83_23 d C J else fun _ _ _ => none
set_option maxRecDepth 20000 in
theorem sk_83_0 (X : kx_X p l e R s m args below meth c s0 D cA 2 ι0 h0 rr hf prog_1_method_27_code "TaskDesk" C d (Option.some (Jvm.ClassFile.FieldType.object "TaskDesk$Task")) "mustBeTask" J) : kx_Sn p l e R s m args below meth c s0 D cA 2 ι0 h0 rr hf 0 (bk_83_0 d C J) := by
  obtain ⟨G, CS, R9, O9, RT, NM, T0, FL, JS⟩ := X
  exact (kx_s_iload_n (j := 1) G rfl (by decide +kernel) (kx_s_iflt (off := 22) (tgt := 23) G (by decide +kernel) rfl (kx_s_nm (JS 23)) (kx_s_iload_n (j := 1) G rfl (by decide +kernel) (kx_s_sipush (i := 256) G (by decide +kernel) (by decide +kernel) (kx_s_cge (off := 15) (tgt := 23) G (by decide +kernel) rfl (kx_s_nm (JS 23)) (kx_s_aload_n (j := 0) G rfl (by decide +kernel) (kx_s_gR G kf_0_11 (by decide +kernel) (kx_s_iload_n (j := 1) G rfl (by decide +kernel) (kx_s_aR G rfl ka_102 (by decide +kernel) (kx_s_gB G kf_0_120 (by decide +kernel) (kx_s_ifne (off := 14) (tgt := 34) G (by decide +kernel) rfl (kx_s_aload_n (j := 0) G rfl (by decide +kernel) (kx_s_gR G kf_0_11 (by decide +kernel) (kx_s_iload_n (j := 1) G rfl (by decide +kernel) (kx_s_aR G rfl ka_102 (by decide +kernel) (kx_s_areturn G RT (by decide +kernel)))))) (kx_s_nm (JS 23)))))))))))))
set_option maxRecDepth 20000 in
theorem sk_83_23 (X : kx_X p l e R s m args below meth c s0 D cA 2 ι0 h0 rr hf prog_1_method_27_code "TaskDesk" C d (Option.some (Jvm.ClassFile.FieldType.object "TaskDesk$Task")) "mustBeTask" J) : kx_Sn p l e R s m args below meth c s0 D cA 2 ι0 h0 rr hf 23 (bk_83_23 d C J) := by
  obtain ⟨G, CS, R9, O9, RT, NM, T0, FL, JS⟩ := X
  exact (kx_s_thd (ic := 377) (ex := 3) (i9 := 373) (i8 := 397) (w := 3) G T0 FL R9 (by decide +kernel) (by decide +kernel) kw_880 kw_881 kw_96 kw_889 (by decide +kernel) (by decide +kernel) (Or.inr ⟨rfl, by decide +kernel⟩) (by decide +kernel) (by decide +kernel) O9)
theorem sm_83 (X : kx_X p l e R s m args below meth c s0 D cA 2 ι0 h0 rr hf prog_1_method_27_code "TaskDesk" C d (Option.some (Jvm.ClassFile.FieldType.object "TaskDesk$Task")) "mustBeTask" J) (b : Nat) : kx_Sn p l e R s m args below meth c s0 D cA 2 ι0 h0 rr hf b (bm_83 d C b J) := by
  unfold bm_83
  cases h0 : Nat.beq b 0 with
  | true => rw [Nat.eq_of_beq_eq_true h0]; exact sk_83_0 X
  | false =>
   cases h23 : Nat.beq b 23 with
   | true => rw [Nat.eq_of_beq_eq_true h23]; exact sk_83_23 X
   | false =>
    exact kx_s_no
/-! TaskDesk.countBefore(LTaskDesk$Place;)I -/
def bk_84_0 (d : Nat) (C : kx_C) (J : Nat → kx_F) : kx_F := (kx_c (kx_i 0) (kx_si 2 (kx_la 1 (kx_gR 4 6 4 (kx_sa 3 (kx_nm [2, 3] (J 7)))))))
def bk_84_7 (d : Nat) (C : kx_C) (J : Nat → kx_F) : kx_F := (kx_la 3 (kx_nul (kx_li 2 kx_ri) (kx_inc 2 1 (kx_la 3 (kx_gR 4 6 4 (kx_sa 3 (kx_nm [2, 3] (J 7))))))))
def bm_84 (d : Nat) (C : kx_C) (b : Nat) (J : Nat → kx_F) : kx_F := bif Nat.beq b 0 then bk_84_0 d C J else bif Nat.beq b 7 then bk_84_7 d C J else fun _ _ _ => none
set_option maxRecDepth 20000 in
theorem sk_84_0 (X : kx_X p l e R s m args below meth c s0 D cA 4 ι0 h0 rr hf prog_1_method_36_code "TaskDesk" C d (Option.some Jvm.ClassFile.FieldType.int) "countBefore" J) : kx_Sn p l e R s m args below meth c s0 D cA 4 ι0 h0 rr hf 0 (bk_84_0 d C J) := by
  obtain ⟨G, CS, R9, O9, RT, NM, T0, FL, JS⟩ := X
  exact (kx_s_iconst (i := 0) G (by decide +kernel) (by decide +kernel) (kx_s_istore_n (j := 2) G rfl (by decide +kernel) (by decide) (kx_s_aload_n (j := 1) G rfl (by decide +kernel) (kx_s_gR G kf_0_402 (by decide +kernel) (kx_s_astore_n (j := 3) G rfl (by decide +kernel) (by decide) (kx_s_nm (JS 7)))))))
set_option maxRecDepth 20000 in
theorem sk_84_7 (X : kx_X p l e R s m args below meth c s0 D cA 4 ι0 h0 rr hf prog_1_method_36_code "TaskDesk" C d (Option.some Jvm.ClassFile.FieldType.int) "countBefore" J) : kx_Sn p l e R s m args below meth c s0 D cA 4 ι0 h0 rr hf 7 (bk_84_7 d C J) := by
  obtain ⟨G, CS, R9, O9, RT, NM, T0, FL, JS⟩ := X
  exact (kx_s_aload_n (j := 3) G rfl (by decide +kernel) (kx_s_ifnull (off := 14) (tgt := 22) G (by decide +kernel) rfl (kx_s_iload_n (j := 2) G rfl (by decide +kernel) (kx_s_ireturn G RT (by decide +kernel))) (kx_s_iinc (n := 1) G (by decide +kernel) (by decide +kernel) (by decide) (kx_s_aload_n (j := 3) G rfl (by decide +kernel) (kx_s_gR G kf_0_402 (by decide +kernel) (kx_s_astore_n (j := 3) G rfl (by decide +kernel) (by decide) (kx_s_goto (off := -12) (tgt := 7) G (by decide +kernel) rfl (kx_s_nm (JS 7)))))))))
theorem sm_84 (X : kx_X p l e R s m args below meth c s0 D cA 4 ι0 h0 rr hf prog_1_method_36_code "TaskDesk" C d (Option.some Jvm.ClassFile.FieldType.int) "countBefore" J) (b : Nat) : kx_Sn p l e R s m args below meth c s0 D cA 4 ι0 h0 rr hf b (bm_84 d C b J) := by
  unfold bm_84
  cases h0 : Nat.beq b 0 with
  | true => rw [Nat.eq_of_beq_eq_true h0]; exact sk_84_0 X
  | false =>
   cases h7 : Nat.beq b 7 with
   | true => rw [Nat.eq_of_beq_eq_true h7]; exact sk_84_7 X
   | false =>
    exact kx_s_no
/-! TaskDesk.outcome(I)J -/
def bk_85_0 (d : Nat) (C : kx_C) (J : Nat → kx_F) : kx_F := (kx_la 0 (kx_li 1 (kx_Vr C 83 0 [0] 6 (kx_gL 6 6 kx_rl))))
def bm_85 (d : Nat) (C : kx_C) (b : Nat) (J : Nat → kx_F) : kx_F := bif Nat.beq b 0 then bk_85_0 d C J else fun _ _ _ => none
set_option maxRecDepth 20000 in
theorem sk_85_0 (X : kx_X p l e R s m args below meth c s0 D cA 2 ι0 h0 rr hf prog_1_method_21_code "TaskDesk" C d (Option.some Jvm.ClassFile.FieldType.long) "outcome" J) : kx_Sn p l e R s m args below meth c s0 D cA 2 ι0 h0 rr hf 0 (bk_85_0 d C J) := by
  obtain ⟨G, CS, R9, O9, RT, NM, T0, FL, JS⟩ := X
  exact (kx_s_aload_n (j := 0) G rfl (by decide +kernel) (kx_s_iload_n (j := 1) G rfl (by decide +kernel) (kx_s_Vr (n := 83) G kx_good CS R9 (O9 _) kc_83 rfl kw_876 kw_878 kw_39 (r := kr_0) rfl (by decide) (by decide +kernel) (kx_s_gL G kf_0_378 (by decide +kernel) (kx_s_lreturn G RT (by decide +kernel))))))
theorem sm_85 (X : kx_X p l e R s m args below meth c s0 D cA 2 ι0 h0 rr hf prog_1_method_21_code "TaskDesk" C d (Option.some Jvm.ClassFile.FieldType.long) "outcome" J) (b : Nat) : kx_Sn p l e R s m args below meth c s0 D cA 2 ι0 h0 rr hf b (bm_85 d C b J) := by
  unfold bm_85
  cases h0 : Nat.beq b 0 with
  | true => rw [Nat.eq_of_beq_eq_true h0]; exact sk_85_0 X
  | false =>
   exact kx_s_no
/-! TaskDesk.look(II)I -/
def bk_86_0 (d : Nat) (C : kx_C) (J : Nat → kx_F) : kx_F := (kx_la 0 (kx_li 1 (kx_Vr C 14 0 [0] 2 (kx_sa 3 (kx_la 3 (kx_nnul (kx_li 2 (kx_sw [(0, (kx_la 3 (kx_gI 2 6 kx_ri))), (1, (kx_la 3 (kx_gI 2 5 kx_ri))), (2, (kx_la 3 (kx_gR 2 1 5 (kx_gI 5 2 kx_ri)))), (3, (kx_la 3 (kx_gR 2 2 5 (kx_gI 5 2 kx_ri)))), (4, (kx_la 3 (kx_gB 2 4 (kx_ifeq (kx_c (kx_i 0) (kx_nm [] (J 94))) (kx_c (kx_i 1) (kx_nm [] (J 94)))))))] (kx_thd kx_cc kx_cs d 3))) (kx_thd kx_cc kx_cs d 3)))))))
def bk_86_94 (d : Nat) (C : kx_C) (J : Nat → kx_F) : kx_F := kx_ri
def bm_86 (d : Nat) (C : kx_C) (b : Nat) (J : Nat → kx_F) : kx_F := bif Nat.beq b 0 then bk_86_0 d C J else bif Nat.beq b 94 then bk_86_94 d C J else fun _ _ _ => none
set_option maxRecDepth 20000 in
theorem sk_86_0 (X : kx_X p l e R s m args below meth c s0 D cA 4 ι0 h0 rr hf prog_1_method_22_code "TaskDesk" C d (Option.some Jvm.ClassFile.FieldType.int) "look" J) : kx_Sn p l e R s m args below meth c s0 D cA 4 ι0 h0 rr hf 0 (bk_86_0 d C J) := by
  obtain ⟨G, CS, R9, O9, RT, NM, T0, FL, JS⟩ := X
  exact (kx_s_aload_n (j := 0) G rfl (by decide +kernel) (kx_s_iload_n (j := 1) G rfl (by decide +kernel) (kx_s_Vr (n := 14) G kx_good CS R9 (O9 _) kc_14 rfl kw_422 kw_424 kw_2 (r := kr_0) rfl (by decide) (by decide +kernel) (kx_s_astore_n (j := 3) G rfl (by decide +kernel) (by decide) (kx_s_aload_n (j := 3) G rfl (by decide +kernel) (kx_s_ifnonnull (off := 14) (tgt := 21) G (by decide +kernel) rfl (kx_s_iload_n (j := 2) G rfl (by decide +kernel) (kx_s_tsw (dflt := 73) (lo := 0) (hi := 4) (offs := #[34, 39, 44, 52, 60]) (len := 34) G (by decide +kernel) (tgtD := 95) rfl (kx_s_thd (ic := 377) (ex := 3) (i9 := 373) (i8 := 386) (w := 3) G T0 FL R9 (by decide +kernel) (by decide +kernel) kw_880 kw_881 kw_96 kw_915 (by decide +kernel) (by decide +kernel) (Or.inr ⟨rfl, by decide +kernel⟩) (by decide +kernel) (by decide +kernel) O9) (List.forall_mem_cons.mpr ⟨kx_tq (34) 56 (by decide +kernel) (by decide +kernel) (by decide +kernel) rfl (kx_s_aload_n (j := 3) G rfl (by decide +kernel) (kx_s_gI G kf_0_175 (by decide +kernel) (kx_s_ireturn G RT (by decide +kernel)))), List.forall_mem_cons.mpr ⟨kx_tq (39) 61 (by decide +kernel) (by decide +kernel) (by decide +kernel) rfl (kx_s_aload_n (j := 3) G rfl (by decide +kernel) (kx_s_gI G kf_0_156 (by decide +kernel) (kx_s_ireturn G RT (by decide +kernel)))), List.forall_mem_cons.mpr ⟨kx_tq (44) 66 (by decide +kernel) (by decide +kernel) (by decide +kernel) rfl (kx_s_aload_n (j := 3) G rfl (by decide +kernel) (kx_s_gR G kf_0_218 (by decide +kernel) (kx_s_gI G kf_0_383 (by decide +kernel) (kx_s_ireturn G RT (by decide +kernel))))), List.forall_mem_cons.mpr ⟨kx_tq (52) 74 (by decide +kernel) (by decide +kernel) (by decide +kernel) rfl (kx_s_aload_n (j := 3) G rfl (by decide +kernel) (kx_s_gR G kf_0_232 (by decide +kernel) (kx_s_gI G kf_0_383 (by decide +kernel) (kx_s_ireturn G RT (by decide +kernel))))), List.forall_mem_cons.mpr ⟨kx_tq (60) 82 (by decide +kernel) (by decide +kernel) (by decide +kernel) rfl (kx_s_aload_n (j := 3) G rfl (by decide +kernel) (kx_s_gB G kf_0_153 (by decide +kernel) (kx_s_ifeq (off := 7) (tgt := 93) G (by decide +kernel) rfl (kx_s_iconst (i := 0) G (by decide +kernel) (by decide +kernel) (kx_s_nm (JS 94))) (kx_s_iconst (i := 1) G (by decide +kernel) (by decide +kernel) (kx_s_goto (off := 4) (tgt := 94) G (by decide +kernel) rfl (kx_s_nm (JS 94))))))), List.forall_mem_nil _⟩⟩⟩⟩⟩) (kx_cov 5 (by decide) (vs := [0, 1, 2, 3, 4]) rfl (by decide +kernel)))) (kx_s_thd (ic := 377) (ex := 3) (i9 := 373) (i8 := 381) (w := 3) G T0 FL R9 (by decide +kernel) (by decide +kernel) kw_880 kw_881 kw_96 kw_683 (by decide +kernel) (by decide +kernel) (Or.inr ⟨rfl, by decide +kernel⟩) (by decide +kernel) (by decide +kernel) O9)))))))
set_option maxRecDepth 20000 in
theorem sk_86_94 (X : kx_X p l e R s m args below meth c s0 D cA 4 ι0 h0 rr hf prog_1_method_22_code "TaskDesk" C d (Option.some Jvm.ClassFile.FieldType.int) "look" J) : kx_Sn p l e R s m args below meth c s0 D cA 4 ι0 h0 rr hf 94 (bk_86_94 d C J) := by
  obtain ⟨G, CS, R9, O9, RT, NM, T0, FL, JS⟩ := X
  exact (kx_s_ireturn G RT (by decide +kernel))
theorem sm_86 (X : kx_X p l e R s m args below meth c s0 D cA 4 ι0 h0 rr hf prog_1_method_22_code "TaskDesk" C d (Option.some Jvm.ClassFile.FieldType.int) "look" J) (b : Nat) : kx_Sn p l e R s m args below meth c s0 D cA 4 ι0 h0 rr hf b (bm_86 d C b J) := by
  unfold bm_86
  cases h0 : Nat.beq b 0 with
  | true => rw [Nat.eq_of_beq_eq_true h0]; exact sk_86_0 X
  | false =>
   cases h94 : Nat.beq b 94 with
   | true => rw [Nat.eq_of_beq_eq_true h94]; exact sk_86_94 X
   | false =>
    exact kx_s_no
/-! TaskDesk.watch(II)I -/
def bk_87_0 (d : Nat) (C : kx_C) (J : Nat → kx_F) : kx_F := (kx_la 0 (kx_li 1 (kx_Vr C 64 0 [0] 3 (kx_sa 3 (kx_la 3 (kx_nnul (kx_li 2 (kx_sw [(0, (kx_la 3 (kx_gI 3 3 kx_ri))), (1, (kx_la 3 (kx_gI 3 4 kx_ri))), (2, (kx_la 3 (kx_gR 3 1 5 (kx_gI 5 2 (kx_la 3 (kx_gR 3 2 5 (kx_gI 5 2 (kx_ii (fun x y => x + y) kx_ri))))))))] (kx_thd kx_cc kx_cs d 3))) (kx_thd kx_cc kx_cs d 3)))))))
def bm_87 (d : Nat) (C : kx_C) (b : Nat) (J : Nat → kx_F) : kx_F := bif Nat.beq b 0 then bk_87_0 d C J else fun _ _ _ => none
set_option maxRecDepth 20000 in
theorem sk_87_0 (X : kx_X p l e R s m args below meth c s0 D cA 4 ι0 h0 rr hf prog_1_method_23_code "TaskDesk" C d (Option.some Jvm.ClassFile.FieldType.int) "watch" J) : kx_Sn p l e R s m args below meth c s0 D cA 4 ι0 h0 rr hf 0 (bk_87_0 d C J) := by
  obtain ⟨G, CS, R9, O9, RT, NM, T0, FL, JS⟩ := X
  exact (kx_s_aload_n (j := 0) G rfl (by decide +kernel) (kx_s_iload_n (j := 1) G rfl (by decide +kernel) (kx_s_Vr (n := 64) G kx_good CS R9 (O9 _) kc_64 rfl kw_775 kw_777 kw_29 (r := kr_0) rfl (by decide) (by decide +kernel) (kx_s_astore_n (j := 3) G rfl (by decide +kernel) (by decide) (kx_s_aload_n (j := 3) G rfl (by decide +kernel) (kx_s_ifnonnull (off := 14) (tgt := 21) G (by decide +kernel) rfl (kx_s_iload_n (j := 2) G rfl (by decide +kernel) (kx_s_tsw (dflt := 52) (lo := 0) (hi := 2) (offs := #[26, 31, 36]) (len := 26) G (by decide +kernel) (tgtD := 74) rfl (kx_s_thd (ic := 377) (ex := 3) (i9 := 373) (i8 := 390) (w := 3) G T0 FL R9 (by decide +kernel) (by decide +kernel) kw_880 kw_881 kw_96 kw_923 (by decide +kernel) (by decide +kernel) (Or.inr ⟨rfl, by decide +kernel⟩) (by decide +kernel) (by decide +kernel) O9) (List.forall_mem_cons.mpr ⟨kx_tq (26) 48 (by decide +kernel) (by decide +kernel) (by decide +kernel) rfl (kx_s_aload_n (j := 3) G rfl (by decide +kernel) (kx_s_gI G kf_0_281 (by decide +kernel) (kx_s_ireturn G RT (by decide +kernel)))), List.forall_mem_cons.mpr ⟨kx_tq (31) 53 (by decide +kernel) (by decide +kernel) (by decide +kernel) rfl (kx_s_aload_n (j := 3) G rfl (by decide +kernel) (kx_s_gI G kf_0_306 (by decide +kernel) (kx_s_ireturn G RT (by decide +kernel)))), List.forall_mem_cons.mpr ⟨kx_tq (36) 58 (by decide +kernel) (by decide +kernel) (by decide +kernel) rfl (kx_s_aload_n (j := 3) G rfl (by decide +kernel) (kx_s_gR G kf_0_312 (by decide +kernel) (kx_s_gI G kf_0_383 (by decide +kernel) (kx_s_aload_n (j := 3) G rfl (by decide +kernel) (kx_s_gR G kf_0_320 (by decide +kernel) (kx_s_gI G kf_0_383 (by decide +kernel) (kx_s_iadd G (by decide +kernel) (kx_s_ireturn G RT (by decide +kernel))))))))), List.forall_mem_nil _⟩⟩⟩) (kx_cov 3 (by decide) (vs := [0, 1, 2]) rfl (by decide +kernel)))) (kx_s_thd (ic := 377) (ex := 3) (i9 := 373) (i8 := 388) (w := 3) G T0 FL R9 (by decide +kernel) (by decide +kernel) kw_880 kw_881 kw_96 kw_792 (by decide +kernel) (by decide +kernel) (Or.inr ⟨rfl, by decide +kernel⟩) (by decide +kernel) (by decide +kernel) O9)))))))
theorem sm_87 (X : kx_X p l e R s m args below meth c s0 D cA 4 ι0 h0 rr hf prog_1_method_23_code "TaskDesk" C d (Option.some Jvm.ClassFile.FieldType.int) "watch" J) (b : Nat) : kx_Sn p l e R s m args below meth c s0 D cA 4 ι0 h0 rr hf b (bm_87 d C b J) := by
  unfold bm_87
  cases h0 : Nat.beq b 0 with
  | true => rw [Nat.eq_of_beq_eq_true h0]; exact sk_87_0 X
  | false =>
   exact kx_s_no
end KB
